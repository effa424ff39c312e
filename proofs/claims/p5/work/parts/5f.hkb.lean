/-! hooks of the reference: what lies at a place, what is carried, what fits, thing by thing -/
def h_eqb (E : EB) (SF : List SFt) (a b : BV) : Bool := g_leq E SF 6 a b && g_leq E SF 6 b a
def h_neb (E : EB) (SF : List SFt) (a b : BV) : Bool := g_leq E SF 6 (f_off a 1) b || g_leq E SF 6 (f_off b 1) a
/-- none yet -/
def hk_ly0 (fid : Nat) : HKt := fun S => match f_find S.2.1 1, S.2.2.2.1 with
  | some l, (n, E, CF, SF) => if f_isI l = true then some [(n, E, CF, (fid, [l, bI 0, bI 0]) :: SF)] else some [(n, E, CF, SF)]
  | none, F => some [F]
def h_lyP (E : EB) (CF : List CFt) (SF : List SFt) (l t y : BV) : Bool := f_sin SF 24 [bI 1, t, y] && (h_in E (f_cf CF 27 none (f_off t 54)) iMin 0 && (match f_cf CF 27 none (f_off t 46) with | some d => f_isI d && h_eqb E SF d l | none => false))
def h_lyN (E : EB) (CF : List CFt) (SF : List SFt) (l t y : BV) : Bool := bv_eq y (bI 0) && (h_in E (f_cf CF 27 none (f_off t 54)) 1 iMax || (match f_cf CF 27 none (f_off t 46) with | some d => f_isI d && h_neb E SF d l | none => false))
def h_cbP (E : EB) (CF : List CFt) (SF : List SFt) (q t y : BV) : Bool := f_sin SF 24 [bI 1, t, y] && (match f_cf CF 27 none (f_off t 54) with | some d => f_isI d && h_eqb E SF d (f_off q 1) | none => false)
def h_cbN (E : EB) (CF : List CFt) (SF : List SFt) (q t y : BV) : Bool := bv_eq y (bI 0) && (match f_cf CF 27 none (f_off t 54) with | some d => f_isI d && h_neb E SF d (f_off q 1) | none => false)
/-- one more -/
def hk_ly1 : HKt := fun S => match f_find S.2.1 1, f_find S.2.1 3, S.2.2.1, S.2.2.2.1 with
  | some l, some t, v :: _, (n, E, CF, SF) => if (h_in E (some t) 0 7 && SF.any (fun f => match f.1, f.2 with | 26, [x, y, v'] => bv_eq v' v && (f_sin SF 45 [l, x, t] && (h_lyP E CF SF l t y || h_lyN E CF SF l t y)) | _, _ => false)) = true then some [(n, E, CF, (45, [l, v, f_off t 1]) :: SF)] else some [(n, E, CF, SF)]
  | _, _, _, F => some [F]
def hk_cb1 : HKt := fun S => match f_find S.2.1 1, f_find S.2.1 3, S.2.2.1, S.2.2.2.1 with
  | some l, some t, v :: _, (n, E, CF, SF) => if (h_in E (some t) 0 7 && SF.any (fun f => match f.1, f.2 with | 26, [x, y, v'] => bv_eq v' v && (f_sin SF 47 [l, x, t] && (h_cbP E CF SF l t y || h_cbN E CF SF l t y)) | _, _ => false)) = true then some [(n, E, CF, (47, [l, v, f_off t 1]) :: SF)] else some [(n, E, CF, SF)]
  | _, _, _, F => some [F]
/-- all -/
def hk_all (fid new : Nat) : HKt := fun S => match f_find S.2.1 1, f_find S.2.1 2, f_find S.2.1 3, S.2.2.2.1 with
  | some l, some x, some t, (n, E, CF, SF) => (match f_cf CF 27 none (bI 2) with
    | some z => if (f_isI z && (h_in E (some z) 0 8 && (f_sin SF fid [l, x, t] && h_eqb E SF t z))) = true then some [(n, E, CF, (new, [l, x]) :: SF)] else some [(n, E, CF, SF)]
    | none => some [(n, E, CF, SF)])
  | _, _, _, F => some [F]
def hk_ft0 : HKt := fun S => match f_find S.2.1 1, f_find S.2.1 2, f_find S.2.1 3, S.2.2.2.1 with
  | some l, some m, some x, (n, E, CF, SF) => if (f_isI m && f_sin SF 42 [l, x]) = true then some [(n, E, CF, (46, [l, m, x, bI 0]) :: SF)] else some [(n, E, CF, SF)]
  | _, _, _, F => some [F]
def h_46 (m t : BV) (q : BV → Bool) (L : List SFt) : Option BV := match L with
  | [] => none
  | f :: r => (match f.1, f.2 with
    | 46, [l, m', x, t'] => if (bv_eq m' m && (bv_eq t' t && q x)) = true then some l else h_46 m t q r
    | _, _ => h_46 m t q r)
def h_46b (x t : BV) (L : List SFt) : Option (BV × BV) := match L with
  | [] => none
  | f :: r => (match f.1, f.2 with
    | 46, [l, m, x', t'] => if (bv_eq x' x && bv_eq t' t) = true then some (l, m) else h_46b x t r
    | _, _ => h_46b x t r)
def h_ftF (SF : List SFt) (m x1 t : BV) : Option BV := match f_sfind SF 24 (bI 1) t with
  | some w => (match f_sfind SF 19 w (bI (-1)) with
    | some y => h_46 m t (fun x => match f_sfind SF 18 x y with | some x' => bv_eq x' x1 | none => false) SF
    | none => none)
  | none => none
def hk_ft1 : HKt := fun S => match f_find S.2.1 2, f_find S.2.1 3, f_find S.2.1 4, S.2.2.2.1 with
  | some m, some x1, some t, (n, E, CF, SF) => (match f_cf CF 27 none (f_off t 16) with
    | some c => (match f_sfind SF 18 c m with
      | some v => if (h_in E (some t) 0 7 && f_isI c) = true then
          (if h_eqb E SF v m = true then (match h_46 m t (fun x => bv_eq x x1) SF with
            | some l => some [(n, E, CF, (46, [l, m, x1, f_off t 1]) :: SF)]
            | none => some [(n, E, CF, SF)])
          else if h_neb E SF v m = true then (match h_ftF SF m x1 t with
            | some l => some [(n, E, CF, (46, [l, m, x1, f_off t 1]) :: SF)]
            | none => some [(n, E, CF, SF)])
          else some [(n, E, CF, SF)]) else some [(n, E, CF, SF)]
      | none => some [(n, E, CF, SF)])
    | none => some [(n, E, CF, SF)])
  | _, _, _, F => some [F]
def hk_ft2 : HKt := fun S => match f_find S.2.1 3, f_find S.2.1 4, S.2.2.2.1 with
  | some x, some t, (n, E, CF, SF) => (match f_cf CF 27 none (bI 2) with
    | some z => if (f_isI z && (h_in E (some z) 0 8 && h_eqb E SF t z)) = true then (match h_46b x t SF with
        | some (l, m) => some [(n, E, CF, (43, [l, m, x]) :: SF)]
        | none => some [(n, E, CF, SF)]) else some [(n, E, CF, SF)]
    | none => some [(n, E, CF, SF)])
  | _, _, F => some [F]
theorem lyP_lt {f : Nat → Int} {l : Int} : ∀ t : Nat, lyP f l t < 2 ^ t := by
  intro t
  induction t with
  | zero => simp [lyP]
  | succ t ih =>
    simp only [lyP]
    refine Nat.or_lt_two_pow (Nat.lt_of_lt_of_le ih (Nat.pow_le_pow_right (by omega) (by omega))) ?_
    split
    · exact Nat.pow_lt_pow_right (by omega) (by omega)
    · exact Nat.two_pow_pos _
theorem cbP_lt {f : Nat → Int} {q : Int} : ∀ t : Nat, cbP f q t < 2 ^ t := by
  intro t
  induction t with
  | zero => simp [cbP]
  | succ t ih =>
    simp only [cbP]
    refine Nat.or_lt_two_pow (Nat.lt_of_lt_of_le ih (Nat.pow_le_pow_right (by omega) (by omega))) ?_
    split
    · exact Nat.pow_lt_pow_right (by omega) (by omega)
    · exact Nat.two_pow_pos _
theorem pow_256 {t : Nat} (h : t ≤ 8) : 2 ^ t ≤ 256 := Nat.le_trans (Nat.pow_le_pow_right (by omega) h) (by decide)
theorem ftP_lt {f : Nat → Int} {l m : Int} (h : (f 2).toNat ≤ 8) : ∀ t : Nat, ftP f l m t < 256 := by
  intro t
  induction t with
  | zero => exact Nat.lt_of_lt_of_le (lyP_lt _) (pow_256 h)
  | succ t ih =>
    simp only [ftP]
    split
    · exact ih
    · exact Nat.lt_of_le_of_lt Nat.and_le_left ih
theorem or_nat {a b : Int32} {x y : Nat} (ha : a.toInt = (x : Int)) (hb : b.toInt = (y : Int)) : (a ||| b).toInt = ((x ||| y : Nat) : Int) := by
  obtain ⟨e1, l1⟩ := en_of ha (by omega)
  obtain ⟨e2, l2⟩ := en_of hb (by omega)
  rw [Int.toNat_natCast] at e1 l1 e2 l2
  rw [e1, e2, fa_or, nI_toInt (en_or_lt l1 l2)]
theorem shl_nat {a b : Int32} {t : Nat} (ha : a.toInt = 1) (hb : b.toInt = (t : Int)) (ht : t ≤ 30) : (a <<< (b &&& 31)).toInt = ((2 ^ t : Nat) : Int) := by
  obtain ⟨e1, l1⟩ := en_of ha (by omega)
  obtain ⟨e2, l2⟩ := en_of hb (by omega)
  rw [Int.toNat_natCast] at e2
  have h2 : 2 ^ t ≤ 2 ^ 30 := Nat.pow_le_pow_right (by omega) ht
  have h3 : (2 : Nat) ^ 30 < 2147483648 := by decide
  rw [e1, e2, show (1 : Int).toNat = 1 from rfl, pk_shlN (nI t &&& 31) t (en_cnt t (by omega)) (by omega), Nat.one_mul, nI_toInt (by omega)]
theorem andn_tab : ∀ (t : Fin 8) (x : Fin 256), (nI x.val &&& (nI (2 ^ t.val) ^^^ (-1))).toInt = ((x.val &&& (1023 ^^^ 2 ^ t.val) : Nat) : Int) := by decide +kernel
section HKB
variable {T : TBt} {cy : Nat → ClassId} {I : IN} {ks : List Nat} {wp : va_W} {F : FS} {cu : CUt} {n : Nat} {E : EB} {SF : List SFt}
theorem h_eqb_ok {a b : BV} {x y : Int} (hE : henv I.1 n E) (hS : ∀ f ∈ SF, hsf FPX I cu f) (h : h_eqb E SF a b = true) (ha : f_ev I.1 a = some x) (hb : f_ev I.1 b = some y) : x = y := by
  simp only [h_eqb, Bool.and_eq_true] at h
  have h1 := g_leq_ok FPX0 hE hS 6 h.1 ha hb
  have h2 := g_leq_ok FPX0 hE hS 6 h.2 hb ha
  omega
theorem h_neb_ok {a b : BV} {x y : Int} (hE : henv I.1 n E) (hS : ∀ f ∈ SF, hsf FPX I cu f) (h : h_neb E SF a b = true) (ha : f_ev I.1 a = some x) (hb : f_ev I.1 b = some y) : x ≠ y := by
  simp only [h_neb, Bool.or_eq_true] at h
  rcases h with h | h
  · have := g_leq_ok FPX0 hE hS 6 h (ev_off ha) hb
    omega
  · have := g_leq_ok FPX0 hE hS 6 h (ev_off hb) ha
    omega
theorem sf_num {id : Nat} {x y v : BV} (h9 : id = 16 ∨ id = 17 ∨ id = 18 ∨ id = 19 ∨ id = 23 ∨ id = 24 ∨ id = 25 ∨ id = 26) (h : hsf FPX I cu (id, [x, y, v])) : ∃ a b : Int32, f_ev I.1 x = some a.toInt ∧ f_ev I.1 y = some b.toInt ∧ f_ev I.1 v = some (o_op id a b).toInt := by
  obtain ⟨zs, z1, z2⟩ := h
  obtain ⟨a, b, rfl⟩ := (FPXn id h9 _ _).mp z2
  exact ⟨a, b, evs_three z1⟩
theorem sf_ly {l x t : BV} (h : hsf FPX I cu (45, [l, x, t])) : ∃ (l0 : Int) (t0 : Nat), f_ev I.1 l = some l0 ∧ f_ev I.1 x = some (lyP (cint cu 27) l0 t0 : Int) ∧ f_ev I.1 t = some (t0 : Int) ∧ t0 ≤ 8 := by
  obtain ⟨zs, z1, l0, t0, rfl, h9⟩ := h
  obtain ⟨g1, g2, g3⟩ := evs_three z1
  exact ⟨l0, t0, g1, g2, g3, h9⟩
theorem sf_cb3 {l x t : BV} (h : hsf FPX I cu (47, [l, x, t])) : ∃ (l0 : Int) (t0 : Nat), f_ev I.1 l = some l0 ∧ f_ev I.1 x = some (cbP (cint cu 27) l0 t0 : Int) ∧ f_ev I.1 t = some (t0 : Int) ∧ t0 ≤ 8 := by
  obtain ⟨zs, z1, l0, t0, rfl, h9⟩ := h
  obtain ⟨g1, g2, g3⟩ := evs_three z1
  exact ⟨l0, t0, g1, g2, g3, h9⟩
theorem evs_four {ν : List Int} {a b c d : BV} {x y z w : Int} (h : f_evs ν [a, b, c, d] = some [x, y, z, w]) : f_ev ν a = some x ∧ f_ev ν b = some y ∧ f_ev ν c = some z ∧ f_ev ν d = some w := by
  simp only [f_evs] at h
  cases h1 : f_ev ν a with
  | none => rw [h1] at h; cases h
  | some a' =>
    cases h2 : f_ev ν b with
    | none => rw [h1, h2] at h; cases h
    | some b' =>
      cases h3 : f_ev ν c with
      | none => rw [h1, h2, h3] at h; cases h
      | some c' =>
        cases h4 : f_ev ν d with
        | none => rw [h1, h2, h3, h4] at h; cases h
        | some d' =>
          rw [h1, h2, h3, h4] at h
          simp only [Option.some.injEq, List.cons.injEq, and_true] at h
          obtain ⟨rfl, rfl, rfl, rfl⟩ := h
          exact ⟨rfl, rfl, rfl, rfl⟩
theorem sf_ft4 {l m x t : BV} (h : hsf FPX I cu (46, [l, m, x, t])) : ∃ (l0 m0 : Int) (t0 : Nat), f_ev I.1 l = some l0 ∧ f_ev I.1 m = some m0 ∧ f_ev I.1 x = some (ftP (cint cu 27) l0 m0 t0 : Int) ∧ f_ev I.1 t = some (t0 : Int) ∧ t0 ≤ 8 ∧ (cint cu 27 2).toNat ≤ 8 := by
  obtain ⟨zs, z1, l0, m0, t0, rfl, h9, h8⟩ := h
  obtain ⟨g1, g2, g3, g4⟩ := evs_four z1
  exact ⟨l0, m0, t0, g1, g2, g3, g4, h9, h8⟩
theorem hk_ly0_ok {fid : Nat} (hid : fid = 45 ∨ fid = 47) : HKP T FPX cy (hk_ly0 fid) := by
  intro S L h I ks wp lv vs _ hlo _ hF
  obtain ⟨pc, lo, st, ⟨n, E, CF, SF⟩, q⟩ := S
  unfold hk_ly0 at h
  simp only at h hF hlo
  have same : ∃ F ∈ [((n, E, CF, SF) : FS)], ∃ J : IN, hxt I J ∧ J.2 = I.2 ∧ HS T FPX cy J ks wp F := ⟨_, List.mem_cons_self, I, hxt.rf, rfl, hF⟩
  split at h
  · rename_i l n9 E9 CF9 SF9 hl heq
    cases heq
    split at h
    · rename_i hi
      cases h
      obtain ⟨k9, v, -, g1⟩ := f_find_ok hlo hl
      obtain ⟨y, rfl, hy⟩ := (hv_ev_iff hi).mp g1
      refine ⟨_, List.mem_cons_self, I, hxt.rf, rfl, hF.sf ⟨[y.toInt, 0, 0], by simp only [f_evs, hy]; rfl, ?_⟩⟩
      rcases hid with rfl | rfl
      · exact ⟨y.toInt, 0, rfl, by omega⟩
      · exact ⟨y.toInt, 0, rfl, by omega⟩
    · cases h; exact same
  · cases h; exact same
theorem in_ev {a : BV} {lo hi z : Int} (hE : henv I.1 n E) (h : h_in E (some a) lo hi = true) (ha : f_ev I.1 a = some z) : lo ≤ z ∧ z ≤ hi := by
  unfold h_in at h
  split at h
  · rename_i a9 e9
    cases e9
    split at h
    · rename_i l9 h9 hiv
      simp only [Bool.and_eq_true, decide_eq_true_eq] at h
      have := ev_iv hE ha hiv
      omega
    · cases h
  · cases h
theorem hk_ly1_ok : HKP T FPX cy hk_ly1 := by
  intro S L h I ks wp lv vs _ hlo _ hF
  obtain ⟨pc, lo, st, ⟨n, E, CF, SF⟩, q⟩ := S
  unfold hk_ly1 at h
  simp only at h hF hlo
  have same : ∃ F ∈ [((n, E, CF, SF) : FS)], ∃ J : IN, hxt I J ∧ J.2 = I.2 ∧ HS T FPX cy J ks wp F := ⟨_, List.mem_cons_self, I, hxt.rf, rfl, hF⟩
  split at h
  · rename_i l t v r9 n9 E9 CF9 SF9 hl ht9 heq hst
    cases heq
    split at h
    · rename_i q
      simp only [Bool.and_eq_true] at q
      obtain ⟨q1, q2⟩ := q
      cases h
      obtain ⟨⟨id, as⟩, m1, m2⟩ := List.any_eq_true.mp q2
      simp only at m2
      split at m2
      · rename_i x y v'
        simp only [Bool.and_eq_true, Bool.or_eq_true] at m2
        obtain ⟨m3, m4, m5⟩ := m2
        have m3 := bv_eq_ok m3
        subst m3
        obtain ⟨l0, t0, g1, g2, g3, g4⟩ := sf_ly (hF.2.2.2 _ (f_sin_ok m4))
        obtain ⟨a, b, a1, a2, a3⟩ := sf_num (by simp) (hF.2.2.2 _ m1)
        have a3 : f_ev I.1 v' = some (a ||| b).toInt := a3
        have t7 := in_ev hF.2.1 q1 g3
        rw [g2] at a1
        have a1 := (Option.some.inj a1).symm
        have key : ∀ w : Nat, b.toInt = (w : Int) → (if (decide (cint (c_cu ks wp) 27 (54 + t0) ≤ 0) && decide (cint (c_cu ks wp) 27 (46 + t0) = l0)) = true then 2 ^ t0 else 0) = w → HS T FPX cy I ks wp (n, E, CF, (45, [l, v', f_off t 1]) :: SF) := by
          intro w hw hc
          refine hF.sf ⟨[l0, (lyP (cint (c_cu ks wp) 27) l0 (t0 + 1) : Int), (t0 : Int) + 1], ?_, l0, t0 + 1, ?_, by omega⟩
          · simp only [f_evs, g1, a3, ev_off g3]
            rw [or_nat a1 hw]
            simp only [lyP]
            rw [hc]
          · rw [show ((t0 + 1 : Nat) : Int) = (t0 : Int) + 1 by omega]
        refine ⟨_, List.mem_cons_self, I, hxt.rf, rfl, ?_⟩
        rcases m5 with m5 | m5
        · simp only [h_lyP, Bool.and_eq_true] at m5
          obtain ⟨p1, p2, p3⟩ := m5
          obtain ⟨a', b', c1, c2, c3⟩ := sf_num (by simp) (hF.2.2.2 _ (f_sin_ok p1))
          have c3 : f_ev I.1 y = some (a' <<< (b' &&& 31)).toInt := c3
          have c1 : (1 : Int) = a'.toInt := Option.some.inj c1
          rw [g3] at c2
          have c2 := Option.some.inj c2
          rw [a2, shl_nat c1.symm c2.symm (by omega)] at c3
          have h54 := h_in_ok (z := 54 + t0) hF (by rw [ev_off g3]; congr 1; omega) p2
          split at p3
          · rename_i d hd
            simp only [Bool.and_eq_true] at p3
            obtain ⟨z, z1, z2⟩ := hcf_int hF hd p3.1
            rw [ev_off g3] at z1
            have e3 : z = 46 + t0 := by have := Option.some.inj z1; omega
            subst e3
            have e4 := h_eqb_ok hF.2.1 hF.2.2.2 p3.2 z2 g1
            exact key (2 ^ t0) (Option.some.inj c3) (if_pos (by rw [Bool.and_eq_true, decide_eq_true_eq, decide_eq_true_eq]; exact ⟨h54.2, e4⟩))
          · cases p3
        · simp only [h_lyN, Bool.and_eq_true, Bool.or_eq_true] at m5
          obtain ⟨p1, p2⟩ := m5
          have p1 := bv_eq_ok p1
          subst p1
          have a2 : (0 : Int) = b.toInt := Option.some.inj a2
          refine key 0 (by omega) (if_neg ?_)
          rw [Bool.and_eq_true, decide_eq_true_eq, decide_eq_true_eq]
          rintro ⟨w1, w2⟩
          rcases p2 with p2 | p2
          · have h54 := h_in_ok (z := 54 + t0) hF (by rw [ev_off g3]; congr 1; omega) p2
            omega
          · split at p2
            · rename_i d hd
              simp only [Bool.and_eq_true] at p2
              obtain ⟨z, z1, z2⟩ := hcf_int hF hd p2.1
              rw [ev_off g3] at z1
              have e3 : z = 46 + t0 := by have := Option.some.inj z1; omega
              subst e3
              exact h_neb_ok hF.2.1 hF.2.2.2 p2.2 z2 g1 w2
            · cases p2
      · cases m2
    · cases h; exact same
  · cases h; exact same
theorem hk_cb1_ok : HKP T FPX cy hk_cb1 := by
  intro S L h I ks wp lv vs _ hlo _ hF
  obtain ⟨pc, lo, st, ⟨n, E, CF, SF⟩, q⟩ := S
  unfold hk_cb1 at h
  simp only at h hF hlo
  have same : ∃ F ∈ [((n, E, CF, SF) : FS)], ∃ J : IN, hxt I J ∧ J.2 = I.2 ∧ HS T FPX cy J ks wp F := ⟨_, List.mem_cons_self, I, hxt.rf, rfl, hF⟩
  split at h
  · rename_i l t v r9 n9 E9 CF9 SF9 hl ht9 heq hst
    cases heq
    split at h
    · rename_i q
      simp only [Bool.and_eq_true] at q
      obtain ⟨q1, q2⟩ := q
      cases h
      obtain ⟨⟨id, as⟩, m1, m2⟩ := List.any_eq_true.mp q2
      simp only at m2
      split at m2
      · rename_i x y v'
        simp only [Bool.and_eq_true, Bool.or_eq_true] at m2
        obtain ⟨m3, m4, m5⟩ := m2
        have m3 := bv_eq_ok m3
        subst m3
        obtain ⟨l0, t0, g1, g2, g3, g4⟩ := sf_cb3 (hF.2.2.2 _ (f_sin_ok m4))
        obtain ⟨a, b, a1, a2, a3⟩ := sf_num (by simp) (hF.2.2.2 _ m1)
        have a3 : f_ev I.1 v' = some (a ||| b).toInt := a3
        have t7 := in_ev hF.2.1 q1 g3
        rw [g2] at a1
        have a1 := (Option.some.inj a1).symm
        have key : ∀ w : Nat, b.toInt = (w : Int) → (if decide (cint (c_cu ks wp) 27 (54 + t0) = l0 + 1) = true then 2 ^ t0 else 0) = w → HS T FPX cy I ks wp (n, E, CF, (47, [l, v', f_off t 1]) :: SF) := by
          intro w hw hc
          refine hF.sf ⟨[l0, (cbP (cint (c_cu ks wp) 27) l0 (t0 + 1) : Int), (t0 : Int) + 1], ?_, l0, t0 + 1, ?_, by omega⟩
          · simp only [f_evs, g1, a3, ev_off g3]
            rw [or_nat a1 hw]
            simp only [cbP]
            rw [hc]
          · rw [show ((t0 + 1 : Nat) : Int) = (t0 : Int) + 1 by omega]
        refine ⟨_, List.mem_cons_self, I, hxt.rf, rfl, ?_⟩
        rcases m5 with m5 | m5
        · simp only [h_cbP, Bool.and_eq_true] at m5
          obtain ⟨p1, p3⟩ := m5
          obtain ⟨a', b', c1, c2, c3⟩ := sf_num (by simp) (hF.2.2.2 _ (f_sin_ok p1))
          have c3 : f_ev I.1 y = some (a' <<< (b' &&& 31)).toInt := c3
          have c1 : (1 : Int) = a'.toInt := Option.some.inj c1
          rw [g3] at c2
          have c2 := Option.some.inj c2
          rw [a2, shl_nat c1.symm c2.symm (by omega)] at c3
          split at p3
          · rename_i d hd
            simp only [Bool.and_eq_true] at p3
            obtain ⟨z, z1, z2⟩ := hcf_int hF hd p3.1
            rw [ev_off g3] at z1
            have e3 : z = 54 + t0 := by have := Option.some.inj z1; omega
            subst e3
            have e4 := h_eqb_ok hF.2.1 hF.2.2.2 p3.2 z2 (ev_off g1)
            exact key (2 ^ t0) (Option.some.inj c3) (if_pos (by rw [decide_eq_true_eq]; exact e4))
          · cases p3
        · simp only [h_cbN, Bool.and_eq_true] at m5
          obtain ⟨p1, p2⟩ := m5
          have p1 := bv_eq_ok p1
          subst p1
          have a2 : (0 : Int) = b.toInt := Option.some.inj a2
          refine key 0 (by omega) (if_neg ?_)
          rw [decide_eq_true_eq]
          intro w2
          split at p2
          · rename_i d hd
            simp only [Bool.and_eq_true] at p2
            obtain ⟨z, z1, z2⟩ := hcf_int hF hd p2.1
            rw [ev_off g3] at z1
            have e3 : z = 54 + t0 := by have := Option.some.inj z1; omega
            subst e3
            exact h_neb_ok hF.2.1 hF.2.2.2 p2.2 z2 (ev_off g1) w2
          · cases p2
      · cases m2
    · cases h; exact same
  · cases h; exact same
/-- how many things there are -/
theorem s2_ev {z t : BV} {CF : List CFt} {t0 : Nat} (hF : HS T FPX cy I ks wp (n, E, CF, SF)) (hz : f_cf CF 27 none (bI 2) = some z) (q1 : f_isI z = true) (q2 : h_in E (some z) 0 8 = true) (q3 : h_eqb E SF t z = true) (ht : f_ev I.1 t = some (t0 : Int)) : (cint (c_cu ks wp) 27 2).toNat = t0 ∧ t0 ≤ 8 := by
  obtain ⟨y, z1, z2⟩ := hcf_int hF hz q1
  have e3 : y = 2 := by
    have : (2 : Int) = (y : Int) := Option.some.inj z1
    omega
  subst e3
  have e4 := h_eqb_ok hF.2.1 hF.2.2.2 q3 ht z2
  have e5 := in_ev hF.2.1 q2 z2
  omega
theorem hk_all_ok {fid new : Nat} (hid : (fid = 45 ∧ new = 42) ∨ (fid = 47 ∧ new = 44)) : HKP T FPX cy (hk_all fid new) := by
  intro S L h I ks wp lv vs _ hlo _ hF
  obtain ⟨pc, lo, st, ⟨n, E, CF, SF⟩, q⟩ := S
  unfold hk_all at h
  simp only at h hF hlo
  have same : ∃ F ∈ [((n, E, CF, SF) : FS)], ∃ J : IN, hxt I J ∧ J.2 = I.2 ∧ HS T FPX cy J ks wp F := ⟨_, List.mem_cons_self, I, hxt.rf, rfl, hF⟩
  split at h
  · rename_i l x t n9 E9 CF9 SF9 hl hx9 ht9 heq
    cases heq
    split at h
    · rename_i z hz
      split at h
      · rename_i q
        simp only [Bool.and_eq_true] at q
        obtain ⟨q1, q2, q3, q4⟩ := q
        cases h
        refine ⟨_, List.mem_cons_self, I, hxt.rf, rfl, ?_⟩
        rcases hid with ⟨rfl, rfl⟩ | ⟨rfl, rfl⟩
        · obtain ⟨l0, t0, g1, g2, g3, g4⟩ := sf_ly (hF.2.2.2 _ (f_sin_ok q3))
          obtain ⟨e1, e2⟩ := s2_ev hF hz q1 q2 q4 g3
          refine hF.sf ⟨[l0, (lyP (cint (c_cu ks wp) 27) l0 t0 : Int)], by simp only [f_evs, g1, g2], l0, ?_, by omega⟩
          rw [e1]
        · obtain ⟨l0, t0, g1, g2, g3, g4⟩ := sf_cb3 (hF.2.2.2 _ (f_sin_ok q3))
          obtain ⟨e1, e2⟩ := s2_ev hF hz q1 q2 q4 g3
          refine hF.sf ⟨[l0, (cbP (cint (c_cu ks wp) 27) l0 t0 : Int)], by simp only [f_evs, g1, g2], l0, ?_, by omega⟩
          rw [e1]
      · cases h; exact same
    · cases h; exact same
  · cases h; exact same
theorem hk_ft0_ok : HKP T FPX cy hk_ft0 := by
  intro S L h I ks wp lv vs _ hlo _ hF
  obtain ⟨pc, lo, st, ⟨n, E, CF, SF⟩, q⟩ := S
  unfold hk_ft0 at h
  simp only at h hF hlo
  have same : ∃ F ∈ [((n, E, CF, SF) : FS)], ∃ J : IN, hxt I J ∧ J.2 = I.2 ∧ HS T FPX cy J ks wp F := ⟨_, List.mem_cons_self, I, hxt.rf, rfl, hF⟩
  split at h
  · rename_i l m x n9 E9 CF9 SF9 hl hm9 hx9 heq
    cases heq
    split at h
    · rename_i q
      simp only [Bool.and_eq_true] at q
      obtain ⟨q1, q2⟩ := q
      cases h
      obtain ⟨k9, v, -, g1⟩ := f_find_ok hlo hm9
      obtain ⟨y, rfl, hy⟩ := (hv_ev_iff q1).mp g1
      obtain ⟨zs, z1, l0, rfl, h8⟩ := hF.2.2.2 _ (f_sin_ok q2)
      obtain ⟨g3, g4⟩ := evs_two z1
      refine ⟨_, List.mem_cons_self, I, hxt.rf, rfl, hF.sf ⟨[l0, y.toInt, (ftP (cint (c_cu ks wp) 27) l0 y.toInt 0 : Int), 0], ?_, l0, y.toInt, 0, rfl, by omega, h8⟩⟩
      simp only [f_evs, g3, hy, g4]
      rfl
    · cases h; exact same
  · cases h; exact same
theorem h_46_ok {m t l : BV} {q : BV → Bool} : ∀ {L : List SFt}, h_46 m t q L = some l → ∃ x, (46, [l, m, x, t]) ∈ L ∧ q x = true := by
  intro L
  induction L with
  | nil => intro h; cases h
  | cons f r ih =>
    obtain ⟨id, as⟩ := f
    intro h
    have nx : ∀ {h : h_46 m t q r = some l}, ∃ x, (46, [l, m, x, t]) ∈ (id, as) :: r ∧ q x = true := fun {h} => by
      obtain ⟨x, h1, h2⟩ := ih h
      exact ⟨x, List.mem_cons_of_mem _ h1, h2⟩
    unfold h_46 at h
    simp only at h
    split at h
    · rename_i l' m' x t'
      split at h
      · rename_i c
        simp only [Bool.and_eq_true] at c
        have c1 := bv_eq_ok c.1
        have c2 := bv_eq_ok c.2.1
        subst c1
        subst c2
        cases h
        exact ⟨x, List.mem_cons_self, c.2.2⟩
      · exact nx (h := h)
    · exact nx (h := h)
theorem h_46b_ok {x t l m : BV} : ∀ {L : List SFt}, h_46b x t L = some (l, m) → (46, [l, m, x, t]) ∈ L := by
  intro L
  induction L with
  | nil => intro h; cases h
  | cons f r ih =>
    obtain ⟨id, as⟩ := f
    intro h
    unfold h_46b at h
    simp only at h
    split at h
    · rename_i l' m' x' t'
      split at h
      · rename_i c
        simp only [Bool.and_eq_true] at c
        have c1 := bv_eq_ok c.1
        have c2 := bv_eq_ok c.2
        subst c1
        subst c2
        cases h
        exact List.mem_cons_self
      · exact List.mem_cons_of_mem _ (ih h)
    · exact List.mem_cons_of_mem _ (ih h)
theorem hk_ft1_ok : HKP T FPX cy hk_ft1 := by
  intro S L h I ks wp lv vs _ hlo _ hF
  obtain ⟨pc, lo, st, ⟨n, E, CF, SF⟩, q⟩ := S
  unfold hk_ft1 at h
  simp only at h hF hlo
  have same : ∃ F ∈ [((n, E, CF, SF) : FS)], ∃ J : IN, hxt I J ∧ J.2 = I.2 ∧ HS T FPX cy J ks wp F := ⟨_, List.mem_cons_self, I, hxt.rf, rfl, hF⟩
  split at h
  · rename_i m x1 t n9 E9 CF9 SF9 hm9 hx9 ht9 heq
    cases heq
    split at h
    · rename_i c hc
      split at h
      · rename_i v hv9
        split at h
        · rename_i q
          simp only [Bool.and_eq_true] at q
          obtain ⟨a, b, a1, a2, a3⟩ := sf_num (by simp) (hF.2.2.2 _ (f_sfind_in hv9))
          have a3 : f_ev I.1 v = some (a &&& b).toInt := a3
          have stp : ∀ (l x : BV), (46, [l, m, x, t]) ∈ SF → ∀ w : Nat, f_ev I.1 x1 = some (w : Int) → (∀ (l0 m0 : Int) (t0 : Nat), t0 ≤ 7 → m0 = b.toInt → cint (c_cu ks wp) 27 (16 + t0) = a.toInt → f_ev I.1 t = some (t0 : Int) → f_ev I.1 x = some (ftP (cint (c_cu ks wp) 27) l0 m0 t0 : Int) → (cint (c_cu ks wp) 27 2).toNat ≤ 8 → ftP (cint (c_cu ks wp) 27) l0 m0 (t0 + 1) = w) → HS T FPX cy I ks wp (n, E, CF, (46, [l, m, x1, f_off t 1]) :: SF) := by
            intro l x hin w hw hk
            obtain ⟨l0, m0, t0, g1, g2, g3, g4, g5, g6⟩ := sf_ft4 (hF.2.2.2 _ hin)
            have t7 := in_ev hF.2.1 q.1 g4
            rw [a2] at g2
            have g2' := Option.some.inj g2
            obtain ⟨z, z1, z2⟩ := hcf_int hF hc q.2
            rw [ev_off g4] at z1
            have e3 : z = 16 + t0 := by have := Option.some.inj z1; omega
            subst e3
            rw [a1] at z2
            have z2 := Option.some.inj z2
            have hkk := hk l0 m0 t0 (by omega) g2'.symm z2.symm g4 g3 g6
            refine hF.sf ⟨[l0, m0, (ftP (cint (c_cu ks wp) 27) l0 m0 (t0 + 1) : Int), (t0 : Int) + 1], ?_, l0, m0, t0 + 1, ?_, by omega, g6⟩
            · simp only [f_evs, g1, a2, hw, ev_off g4]
              rw [hkk, g2']
            · rw [show ((t0 + 1 : Nat) : Int) = (t0 : Int) + 1 by omega]
          have hof : ∀ y : Int32, Int32.ofInt y.toInt = y := fun y => Int32.ofInt_toInt y
          split at h
          · rename_i heq
            have e9 : (a &&& b) = b := (fa_eq _ _).mpr (h_eqb_ok hF.2.1 hF.2.2.2 heq a3 a2)
            split at h
            · rename_i l hl
              cases h
              obtain ⟨x, h1, h2⟩ := h_46_ok hl
              have h2 := bv_eq_ok h2
              subst h2
              refine ⟨_, List.mem_cons_self, I, hxt.rf, rfl, ?_⟩
              obtain ⟨l0, m0, t0, g1, g2, g3, g4, g5, g6⟩ := sf_ft4 (hF.2.2.2 _ h1)
              refine stp l x h1 _ g3 (fun l1 m1 t1 b1 b2 b3 b4 b5 b6 => ?_)
              rw [g3] at b5
              have b5 : ftP (cint (c_cu ks wp) 27) l0 m0 t0 = ftP (cint (c_cu ks wp) 27) l1 m1 t1 := by
                have := Option.some.inj b5
                omega
              rw [b5]
              simp only [ftP]
              rw [if_pos (by rw [b3, b2, hof, hof]; exact e9)]
            · cases h; exact same
          · split at h
            · rename_i hne
              have e9 : ¬ (a &&& b) = b := fun e => h_neb_ok hF.2.1 hF.2.2.2 hne a3 a2 (by rw [e])
              split at h
              · rename_i l hl
                cases h
                unfold h_ftF at hl
                split at hl
                · rename_i w hw
                  split at hl
                  · rename_i y hy
                    obtain ⟨x, h1, h2⟩ := h_46_ok hl
                    split at h2
                    · rename_i x' hx'
                      have h2 := bv_eq_ok h2
                      subst h2
                      refine ⟨_, List.mem_cons_self, I, hxt.rf, rfl, ?_⟩
                      obtain ⟨l0, m0, t0, g1, g2, g3, g4, g5, g6⟩ := sf_ft4 (hF.2.2.2 _ h1)
                      have t7 := in_ev hF.2.1 q.1 g4
                      obtain ⟨c1, d1, u1, u2, u3⟩ := sf_num (by simp) (hF.2.2.2 _ (f_sfind_in hw))
                      obtain ⟨c2, d2, v1, v2, v3⟩ := sf_num (by simp) (hF.2.2.2 _ (f_sfind_in hy))
                      obtain ⟨c3, d3, w1, w2, w3⟩ := sf_num (by simp) (hF.2.2.2 _ (f_sfind_in hx'))
                      have u3 : f_ev I.1 w = some (c1 <<< (d1 &&& 31)).toInt := u3
                      have v3 : f_ev I.1 y = some (c2 ^^^ d2).toInt := v3
                      have w3 : f_ev I.1 x' = some (c3 &&& d3).toInt := w3
                      have u1 : (1 : Int) = c1.toInt := Option.some.inj u1
                      rw [g4] at u2
                      have u2 := Option.some.inj u2
                      rw [shl_nat u1.symm u2.symm (by omega), v1] at u3
                      have u3 := Option.some.inj u3
                      have v2 : (-1 : Int) = d2.toInt := Option.some.inj v2
                      rw [v3] at w2
                      have w2 := (fa_eq _ _).mpr (Option.some.inj w2)
                      rw [g3] at w1
                      have w1 := Option.some.inj w1
                      have x256 : ftP (cint (c_cu ks wp) 27) l0 m0 t0 < 256 := ftP_lt g6 t0
                      have k1 : c3 = nI (ftP (cint (c_cu ks wp) 27) l0 m0 t0) := by
                        have := (en_of w1.symm (by omega)).1
                        rwa [Int.toNat_natCast] at this
                      have k2 : c2 = nI (2 ^ t0) := by
                        have := (en_of u3 (Int.natCast_nonneg _)).1
                        rwa [Int.toNat_natCast] at this
                      have k3 : d2 = -1 := (fa_eq _ _).mpr v2.symm
                      have tab := andn_tab ⟨t0, by omega⟩ ⟨_, x256⟩
                      simp only at tab
                      refine stp l x h1 (ftP (cint (c_cu ks wp) 27) l0 m0 t0 &&& (1023 ^^^ 2 ^ t0)) ?_ (fun l1 m1 t1 b1 b2 b3 b4 b5 b6 => ?_)
                      · rw [w3, ← w2, k1, k2, k3, tab]
                      · rw [g3] at b5
                        rw [g4] at b4
                        have b4 : t0 = t1 := by have := Option.some.inj b4; omega
                        subst b4
                        have b5 : ftP (cint (c_cu ks wp) 27) l0 m0 t0 = ftP (cint (c_cu ks wp) 27) l1 m1 t0 := by
                          have := Option.some.inj b5
                          omega
                        rw [b5]
                        simp only [ftP]
                        rw [if_neg (by rw [b3, b2, hof, hof]; exact e9)]
                    · cases h2
                  · cases hl
                · cases hl
              · cases h; exact same
            · cases h; exact same
        · cases h; exact same
      · cases h; exact same
    · cases h; exact same
  · cases h; exact same
theorem hk_ft2_ok : HKP T FPX cy hk_ft2 := by
  intro S L h I ks wp lv vs _ hlo _ hF
  obtain ⟨pc, lo, st, ⟨n, E, CF, SF⟩, q⟩ := S
  unfold hk_ft2 at h
  simp only at h hF hlo
  have same : ∃ F ∈ [((n, E, CF, SF) : FS)], ∃ J : IN, hxt I J ∧ J.2 = I.2 ∧ HS T FPX cy J ks wp F := ⟨_, List.mem_cons_self, I, hxt.rf, rfl, hF⟩
  split at h
  · rename_i x t n9 E9 CF9 SF9 hx9 ht9 heq
    cases heq
    split at h
    · rename_i z hz
      split at h
      · rename_i q
        simp only [Bool.and_eq_true] at q
        obtain ⟨q1, q2, q4⟩ := q
        split at h
        · rename_i l m hlm
          cases h
          obtain ⟨l0, m0, t0, g1, g2, g3, g4, g5, g6⟩ := sf_ft4 (hF.2.2.2 _ (h_46b_ok hlm))
          obtain ⟨e1, e2⟩ := s2_ev hF hz q1 q2 q4 g4
          refine ⟨_, List.mem_cons_self, I, hxt.rf, rfl, hF.sf ⟨[l0, m0, (ftP (cint (c_cu ks wp) 27) l0 m0 t0 : Int)], by simp only [f_evs, g1, g2, g3], l0, m0, ?_, g6⟩⟩
          rw [e1]
        · cases h; exact same
      · cases h; exact same
    · cases h; exact same
  · cases h; exact same
end HKB
