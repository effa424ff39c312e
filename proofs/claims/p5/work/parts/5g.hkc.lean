/-! hooks of the reference: bits counted, the first bit, a slip -/
def hk_b0 : HKt := fun S => match f_find S.2.1 0, S.2.2.2.1 with
  | some x, (n, E, CF, SF) => if f_isI x = true then some [(n, E, CF, (48, [bI 0, x, x]) :: SF)] else some [(n, E, CF, SF)]
  | none, F => some [F]
def h_b48 (E : EB) (n1 v : BV) (L : List SFt) : Option (BV × Int) := match L with
  | [] => none
  | f :: r => (match f.1, f.2 with
    | 48, [a, b, z] => (match f_iv E z with
      | some (_, hz) => if (bv_eq (f_off a 1) n1 && bv_eq b v) = true then some (z, hz) else h_b48 E n1 v r
      | none => h_b48 E n1 v r)
    | _, _ => h_b48 E n1 v r)
def h_b18 (E : EB) (SF : List SFt) (n1 v1 : BV) (L : List SFt) : Option (BV × BV × Int) := match L with
  | [] => none
  | f :: r => (match f.1, f.2 with
    | 18, [v, v2, w] => if (bv_eq w v1 && (bv_eq v2 (f_off v (-1)) && (h_in E (some v) 1 iMax && h_in E (some v1) 0 iMax))) = true then (match h_b48 E n1 v SF with
        | some (z, hz) => some (v, z, hz)
        | none => h_b18 E SF n1 v1 r) else h_b18 E SF n1 v1 r
    | _, _ => h_b18 E SF n1 v1 r)
/-- one bit less -/
def hk_b1 : HKt := fun S => match f_find S.2.1 1, f_find S.2.1 2, S.2.2.2.1 with
  | some n1, some v1, (n, E, CF, SF) => (match h_b18 E SF n1 v1 SF, f_iv E n1 with
    | some (v, z, hz), some (ln, _) => (match f_clamp E n1 ln hz with
      | some E1 => some [(n, E1, CF, (48, [n1, v1, z]) :: (0, [f_off v1 1, v]) :: SF)]
      | none => some [])
    | _, _ => some [(n, E, CF, SF)])
  | _, _, F => some [F]
def h_fo (E : EB) (SF : List SFt) (x : BV) : Nat → Bool
  | 0 => true
  | i + 1 => h_fo E SF x i && (match f_sfind SF 25 x (bI (i : Int)) with
    | some v => (match f_sfind SF 18 v (bI 1) with
      | some w => h_in E (some w) iMin 0
      | none => false)
    | none => false)
/-- no bit up to the k-th: there is none -/
def hk_fo : HKt := fun S => match f_find S.2.1 0, f_find S.2.1 1, S.2.2.2.1 with
  | some x, some (.inl j), (n, E, CF, SF) => if (decide (0 ≤ j) && (decide (j ≤ 20) && (h_in E (some x) 1 (2 ^ (j.toNat + 1) - 1) && h_fo E SF x (j.toNat + 1)))) = true then some [] else some [(n, E, CF, SF)]
  | _, _, F => some [F]
def h_sl (SF : List SFt) (w l r : BV) (L : List SFt) : Bool := L.any (fun f => match f.1, f.2 with
  | 18, [a, _, m] => bv_eq a w && f_sin SF 43 [l, m, r]
  | _, _ => false)
def h_slb (E : EB) (SF : List SFt) (c i : BV) : Bool := match f_sfind SF 25 c i with
  | some v => (match f_sfind SF 18 v (bI 1) with
    | some b => h_in E (some b) 1 iMax
    | none => false)
  | none => false
/-- what fits where t lies, of one mark that t has -/
def hk_slip : HKt := fun S => match f_find S.2.1 1, f_find S.2.1 6, S.2.2.1, S.2.2.2.1 with
  | some t, some i, r :: _, (n, E, CF, SF) => (match f_cf CF 27 none (bI 2), f_cf CF 27 none (f_off t 16), f_cf CF 27 none (f_off t 46), f_sfind SF 24 (bI 1) i with
    | some z, some c, some l, some w => if (f_isI z && ((f_isI c && h_in E (some c) 0 iMax) && (f_isI l && (h_in E (some t) 0 7 && (h_in E (some i) 0 30 && (h_in E (f_cf CF 27 none (f_off t 54)) iMin 0 && (h_slb E SF c i && (g_leq E SF 6 (f_off t 1) z && h_sl SF w l r SF)))))))) = true then (match f_iv E r with
        | some (_, hr) => (match f_clamp E r 1 hr with
          | some E1 => some [(n, E1, CF, SF)]
          | none => some [])
        | none => some [(n, E, CF, SF)]) else some [(n, E, CF, SF)]
    | _, _, _, _ => some [(n, E, CF, SF)])
  | _, _, _, F => some [F]
section HKC
variable {T : TBt} {cy : Nat → ClassId} {I : IN} {ks : List Nat} {wp : va_W} {F : FS} {cu : CUt} {n : Nat} {E : EB} {SF : List SFt}
theorem hk_b0_ok : HKP T FPX cy hk_b0 := by
  intro S L h I ks wp lv vs _ hlo _ hF
  obtain ⟨pc, lo, st, ⟨n, E, CF, SF⟩, q⟩ := S
  unfold hk_b0 at h
  simp only at h hF hlo
  have same : ∃ F ∈ [((n, E, CF, SF) : FS)], ∃ J : IN, hxt I J ∧ J.2 = I.2 ∧ HS T FPX cy J ks wp F := ⟨_, List.mem_cons_self, I, hxt.rf, rfl, hF⟩
  split at h
  · rename_i l n9 E9 CF9 SF9 hl heq
    cases heq
    split at h
    · rename_i hi
      cases h
      obtain ⟨k9, v, -, g1⟩ := f_find_ok hlo hl
      obtain ⟨y, rfl, hy⟩ := (hv_ev_iff hi).mp g1
      exact ⟨_, List.mem_cons_self, I, hxt.rf, rfl, hF.sf ⟨[0, y.toInt, y.toInt], by simp only [f_evs, hy]; rfl, 0, y.toInt, y.toInt, rfl, by omega⟩⟩
    · cases h; exact same
  · cases h; exact same
theorem h_b48_ok {n1 v z : BV} {hz : Int} : ∀ {L : List SFt}, h_b48 E n1 v L = some (z, hz) → ∃ a, f_off a 1 = n1 ∧ (48, [a, v, z]) ∈ L ∧ ∃ lz, f_iv E z = some (lz, hz) := by
  intro L
  induction L with
  | nil => intro h; cases h
  | cons f r ih =>
    obtain ⟨id, as⟩ := f
    intro h
    have nx : ∀ {h : h_b48 E n1 v r = some (z, hz)}, ∃ a, f_off a 1 = n1 ∧ (48, [a, v, z]) ∈ (id, as) :: r ∧ ∃ lz, f_iv E z = some (lz, hz) := fun {h} => by
      obtain ⟨x, h1, h2, h3⟩ := ih h
      exact ⟨x, h1, List.mem_cons_of_mem _ h2, h3⟩
    unfold h_b48 at h
    simp only at h
    split at h
    · rename_i a b z9
      split at h
      · rename_i lz hz9 hiv
        split at h
        · rename_i c
          simp only [Bool.and_eq_true] at c
          have c1 := bv_eq_ok c.1
          have c2 := bv_eq_ok c.2
          subst c2
          cases h
          exact ⟨a, c1, List.mem_cons_self, lz, hiv⟩
        · exact nx (h := h)
      · exact nx (h := h)
    · exact nx (h := h)
theorem h_b18_ok {n1 v1 v z : BV} {hz : Int} : ∀ {L : List SFt}, h_b18 E SF n1 v1 L = some (v, z, hz) → (18, [v, f_off v (-1), v1]) ∈ L ∧ h_in E (some v) 1 iMax = true ∧ h_in E (some v1) 0 iMax = true ∧ h_b48 E n1 v SF = some (z, hz) := by
  intro L
  induction L with
  | nil => intro h; cases h
  | cons f r ih =>
    obtain ⟨id, as⟩ := f
    intro h
    have nx : ∀ {h : h_b18 E SF n1 v1 r = some (v, z, hz)}, (18, [v, f_off v (-1), v1]) ∈ (id, as) :: r ∧ h_in E (some v) 1 iMax = true ∧ h_in E (some v1) 0 iMax = true ∧ h_b48 E n1 v SF = some (z, hz) := fun {h} => by
      obtain ⟨h1, h2⟩ := ih h
      exact ⟨List.mem_cons_of_mem _ h1, h2⟩
    unfold h_b18 at h
    simp only at h
    split at h
    · rename_i a b w
      split at h
      · rename_i c
        simp only [Bool.and_eq_true] at c
        obtain ⟨c1, c2, c3, c4⟩ := c
        have c1 := bv_eq_ok c1
        have c2 := bv_eq_ok c2
        subst c1
        subst c2
        split at h
        · rename_i z9 hz9 h48
          cases h
          exact ⟨List.mem_cons_self, c3, c4, h48⟩
        · exact nx (h := h)
      · exact nx (h := h)
    · exact nx (h := h)
theorem hk_b1_ok : HKP T FPX cy hk_b1 := by
  intro S L h I ks wp lv vs _ hlo _ hF
  obtain ⟨pc, lo, st, ⟨n, E, CF, SF⟩, q⟩ := S
  unfold hk_b1 at h
  simp only at h hF hlo
  have same : ∃ F ∈ [((n, E, CF, SF) : FS)], ∃ J : IN, hxt I J ∧ J.2 = I.2 ∧ HS T FPX cy J ks wp F := ⟨_, List.mem_cons_self, I, hxt.rf, rfl, hF⟩
  split at h
  · rename_i n1 v1 n9 E9 CF9 SF9 hn1 hv1 heq
    cases heq
    split at h
    · rename_i v z hz ln hn h18 hiv
      obtain ⟨m1, m2, m3, m4⟩ := h_b18_ok h18
      obtain ⟨a, e1, m5, lz, m6⟩ := h_b48_ok m4
      obtain ⟨x, y, x1, x2, x3⟩ := sf_num (by simp) (hF.2.2.2 _ m1)
      have x3 : f_ev I.1 v1 = some (x &&& y).toInt := x3
      rw [ev_off x1] at x2
      have x2 := Option.some.inj x2
      obtain ⟨zs, z1, p, q9, r, rfl, z2⟩ := hF.2.2.2 _ m5
      obtain ⟨z3, z4, z5⟩ := evs_three z1
      rw [x1] at z4
      have z4 := Option.some.inj z4
      have i1 := in_ev hF.2.1 m2 x1
      have i2 := in_ev hF.2.1 m3 x3
      have i3 := en_andr (x := x) (y := y) (by omega)
      have en1 : f_ev I.1 n1 = some (p + 1) := by rw [← e1]; exact ev_off z3
      have w := ev_iv hF.2.1 z5 m6
      have wn := ev_iv hF.2.1 en1 hiv
      obtain ⟨E1, k1, k2, -⟩ := f_clamp_ev (lo := ln) (hi := hz) hF.2.1 en1 ⟨_, hiv⟩ wn.1 (by omega)
      rw [k1] at h
      cases h
      refine ⟨_, List.mem_cons_self, I, hxt.rf, rfl, ?_⟩
      have hF1 : HS T FPX cy I ks wp (n, E1, CF, SF) := ⟨hF.1, k2, hF.2.2.1, hF.2.2.2⟩
      refine HS.sf (HS.sf hF1 ⟨[(x &&& y).toInt + 1, x.toInt], by simp only [f_evs, ev_off x3, x1], _, _, rfl, by omega⟩) ⟨[p + 1, (x &&& y).toInt, r], by simp only [f_evs, en1, x3, z5], _, _, _, rfl, by omega⟩
    · cases h; exact same
  · cases h; exact same
/-- a bit, by shifting and the last bit -/
theorem shr_bit {a b d : Int32} {x i : Nat} (ha : a.toInt = (x : Int)) (hb : b.toInt = (i : Int)) (hi : i ≤ 30) (hd : d.toInt = 1) : ((a >>> (b &&& 31)) &&& d).toInt = ((x / 2 ^ i % 2 : Nat) : Int) := by
  obtain ⟨e1, l1⟩ := en_of ha (by omega)
  obtain ⟨e2, l2⟩ := en_of hb (by omega)
  obtain ⟨e3, l3⟩ := en_of hd (by omega)
  rw [Int.toNat_natCast] at e1 l1 e2
  rw [e1, e2, e3, pk_shrN l1 (nI i &&& 31) i (en_cnt i (by omega)), fa_and, show (1 : Int).toNat = 1 from rfl, Nat.and_one_is_mod, nI_toInt (by omega)]
theorem bits0 {x : Nat} : ∀ {k : Nat}, x < 2 ^ k → (∀ i, i < k → x / 2 ^ i % 2 = 0) → x = 0 := by
  intro k h1 h2
  apply Nat.eq_of_testBit_eq
  intro i
  rw [Nat.zero_testBit]
  by_cases hi : i < k
  · rw [Nat.testBit_eq_decide_div_mod_eq, h2 i hi]
    decide
  · exact Nat.testBit_lt_two_pow (Nat.lt_of_lt_of_le h1 (Nat.pow_le_pow_right (by omega) (by omega)))
theorem h_fo_ok {x : BV} {x0 : Nat} (hE : henv I.1 n E) (hS : ∀ f ∈ SF, hsf FPX I cu f) (hx : f_ev I.1 x = some (x0 : Int)) : ∀ k : Nat, k ≤ 31 → h_fo E SF x k = true → ∀ i, i < k → x0 / 2 ^ i % 2 = 0 := by
  intro k
  induction k with
  | zero => intro _ _ i hi; omega
  | succ k ih =>
    intro hk h i hi
    simp only [h_fo, Bool.and_eq_true] at h
    rcases (show i < k ∨ i = k by omega) with h9 | rfl
    · exact ih (by omega) h.1 i h9
    · have h2 := h.2
      split at h2
      · rename_i v hv9
        split at h2
        · rename_i w hw
          obtain ⟨a, b, a1, a2, a3⟩ := sf_num (by simp) (hS _ (f_sfind_in hv9))
          obtain ⟨c, d, c1, c2, c3⟩ := sf_num (by simp) (hS _ (f_sfind_in hw))
          have a3 : f_ev I.1 v = some (a >>> (b &&& 31)).toInt := a3
          have c3 : f_ev I.1 w = some (c &&& d).toInt := c3
          rw [hx] at a1
          have a1 := Option.some.inj a1
          have a2 : (i : Int) = b.toInt := Option.some.inj a2
          have c2 : (1 : Int) = d.toInt := Option.some.inj c2
          rw [a3] at c1
          have c1 := (fa_eq _ _).mpr (Option.some.inj c1)
          rw [← c1, shr_bit a1.symm a2.symm (by omega) c2.symm] at c3
          have := in_ev hE h2 c3
          omega
        · cases h2
      · cases h2
theorem hk_fo_ok : HKP T FPX cy hk_fo := by
  intro S L h I ks wp lv vs _ hlo _ hF
  obtain ⟨pc, lo, st, ⟨n, E, CF, SF⟩, q⟩ := S
  unfold hk_fo at h
  simp only at h hF hlo
  have same : ∃ F ∈ [((n, E, CF, SF) : FS)], ∃ J : IN, hxt I J ∧ J.2 = I.2 ∧ HS T FPX cy J ks wp F := ⟨_, List.mem_cons_self, I, hxt.rf, rfl, hF⟩
  split at h
  · rename_i x j n9 E9 CF9 SF9 hx9 hj9 heq
    cases heq
    split at h
    · rename_i q
      simp only [Bool.and_eq_true, decide_eq_true_eq] at q
      obtain ⟨q1, q2, q3, q4⟩ := q
      exfalso
      obtain ⟨k9, v, -, g1⟩ := f_find_ok hlo hx9
      have hiv : ∃ w, f_iv E x = some w := by
        unfold h_in at q3
        split at q3
        · rename_i a9 e9
          cases e9
          split at q3
          · rename_i hiv
            exact ⟨_, hiv⟩
          · cases q3
        · cases q3
      obtain ⟨⟨w1, w2⟩, hiv⟩ := hiv
      obtain ⟨y, rfl, -, -⟩ := hv_int hF.2.1 g1 hiv
      have hy := hv_ev g1
      have b := in_ev hF.2.1 q3 hy
      obtain ⟨x0, e1, l1, e2⟩ := en_nn (x := y) (by omega)
      rw [e2] at hy b
      have hb := h_fo_ok hF.2.1 hF.2.2.2 hy (j.toNat + 1) (by omega) q4
      have hlt : x0 < 2 ^ (j.toNat + 1) := by
        have h9 := b.2
        have e9 : ((2 : Int) ^ (j.toNat + 1)) = ((2 ^ (j.toNat + 1) : Nat) : Int) := by rw [Int.natCast_pow]; rfl
        rw [e9] at h9
        omega
      have := bits0 hlt hb
      omega
    · cases h; exact same
  · cases h; exact same
/-- a mark alone, if it is among the marks -/
theorem and_mark {c k w : Int32} {x i : Nat} (hc : c.toInt = (x : Int)) (hw : w.toInt = ((2 ^ i : Nat) : Int)) (hb : x / 2 ^ i % 2 = 1) : c &&& (w &&& k) = w &&& k := by
  obtain ⟨e1, l1⟩ := en_of hc (by omega)
  obtain ⟨e2, l2⟩ := en_of hw (Int.natCast_nonneg _)
  rw [Int.toNat_natCast] at e1 e2
  have h1 : c &&& w = w := by
    rw [e1, e2, fa_and]
    congr 1
    apply Nat.eq_of_testBit_eq
    intro j
    rw [Nat.testBit_and]
    by_cases hj : i = j
    · subst hj
      have : x.testBit i = true := by rw [Nat.testBit_eq_decide_div_mod_eq, hb]; decide
      rw [this, Bool.true_and]
    · rw [Nat.testBit_two_pow_of_ne hj, Bool.and_false]
  have h2 : c &&& (w &&& k) = (c &&& w) &&& k := (Int32.and_assoc c w k).symm
  rw [h2, h1]
theorem hk_slip_ok : HKP T FPX cy hk_slip := by
  intro S L h I ks wp lv vs _ hlo _ hF
  obtain ⟨pc, lo, st, ⟨n, E, CF, SF⟩, q⟩ := S
  unfold hk_slip at h
  simp only at h hF hlo
  have same : ∃ F ∈ [((n, E, CF, SF) : FS)], ∃ J : IN, hxt I J ∧ J.2 = I.2 ∧ HS T FPX cy J ks wp F := ⟨_, List.mem_cons_self, I, hxt.rf, rfl, hF⟩
  split at h
  · rename_i t i r r9 n9 E9 CF9 SF9 ht9 hi9 heq hst
    cases heq
    split at h
    · rename_i z c l w hz hc hl hw
      split at h
      · rename_i q
        simp only [Bool.and_eq_true] at q
        obtain ⟨q1, q2, q3, q4, q5, q6, q7, q8, q9⟩ := q
        split at h
        · rename_i lr hr hiv
          obtain ⟨⟨id, as⟩, m1, m2⟩ := List.any_eq_true.mp q9
          simp only at m2
          split at m2
          · rename_i a9 k9 m
            simp only [Bool.and_eq_true] at m2
            have e0 := bv_eq_ok m2.1
            subst e0
            obtain ⟨zs, z1, l0, m0, rfl, h8⟩ := hF.2.2.2 _ (f_sin_ok m2.2)
            obtain ⟨f1, f2, f3⟩ := evs_three z1
            -- the numbers
            obtain ⟨c1, d1, u1, u2, u3⟩ := sf_num (by simp) (hF.2.2.2 _ (f_sfind_in hw))
            have u3 : f_ev I.1 a9 = some (c1 <<< (d1 &&& 31)).toInt := u3
            have u1 : (1 : Int) = c1.toInt := Option.some.inj u1
            have iq := in_ev hF.2.1 q5 u2
            obtain ⟨i0, -, -, ei⟩ := en_nn (x := d1) (by omega)
            rw [shl_nat u1.symm ei (by omega)] at u3
            obtain ⟨c2, d2, v1, v2, v3⟩ := sf_num (by simp) (hF.2.2.2 _ m1)
            have v3 : f_ev I.1 m = some (c2 &&& d2).toInt := v3
            rw [u3] at v1
            have v1 := Option.some.inj v1
            rw [v3] at f2
            have f2 := Option.some.inj f2
            -- t
            obtain ⟨zc, zc1, zc2⟩ := hcf_int hF hc q2.1
            have ht : f_ev I.1 t = some ((zc : Int) - 16) := by
              obtain ⟨k7, v7, -, g7⟩ := f_find_ok hlo ht9
              have hiv7 : ∃ w, f_iv E t = some w := by
                unfold h_in at q4
                split at q4
                · rename_i a7 e7
                  cases e7
                  split at q4
                  · rename_i hiv7
                    exact ⟨_, hiv7⟩
                  · cases q4
                · cases q4
              obtain ⟨⟨w1, w2⟩, hiv7⟩ := hiv7
              obtain ⟨y7, rfl, -, -⟩ := hv_int hF.2.1 g7 hiv7
              have hy := hv_ev g7
              rw [ev_off hy] at zc1
              have := Option.some.inj zc1
              rw [hy]
              congr 1
              omega
            have tq := in_ev hF.2.1 q4 ht
            obtain ⟨t0, et⟩ : ∃ t0 : Nat, (zc : Int) - 16 = (t0 : Int) := ⟨zc - 16, by omega⟩
            rw [et] at ht tq
            have ezc : zc = 16 + t0 := by omega
            subst ezc
            -- the marks of t
            unfold h_slb at q7
            split at q7
            · rename_i v hv9
              split at q7
              · rename_i b hb9
                obtain ⟨a, d, a1, a2, a3⟩ := sf_num (by simp) (hF.2.2.2 _ (f_sfind_in hv9))
                obtain ⟨c3, d3, b1, b2, b3⟩ := sf_num (by simp) (hF.2.2.2 _ (f_sfind_in hb9))
                have a3 : f_ev I.1 v = some (a >>> (d &&& 31)).toInt := a3
                have b3 : f_ev I.1 b = some (c3 &&& d3).toInt := b3
                have b2 : (1 : Int) = d3.toInt := Option.some.inj b2
                rw [u2] at a2
                have a2 := (fa_eq _ _).mpr (Option.some.inj a2)
                subst a2
                rw [a3] at b1
                have b1 := (fa_eq _ _).mpr (Option.some.inj b1)
                rw [zc2] at a1
                have a1 := Option.some.inj a1
                have key : a &&& (c2 &&& d2) = c2 &&& d2 := by
                  have ca := in_ev hF.2.1 q2.2 zc2
                  obtain ⟨x0, -, -, ex⟩ := en_nn (x := a) (by omega)
                  rw [← b1, shr_bit ex ei (by omega) b2.symm] at b3
                  have bq := in_ev hF.2.1 q7 b3
                  exact and_mark ex v1.symm (by omega)
                have pos : 1 ≤ ftP (cint (c_cu ks wp) 27) l0 m0 (cint (c_cu ks wp) 27 2).toNat := by
                  obtain ⟨zl, zl1, zl2⟩ := hcf_int hF hl q3
                  rw [ev_off ht] at zl1
                  have ezl : zl = 46 + t0 := by have := Option.some.inj zl1; omega
                  subst ezl
                  rw [f1] at zl2
                  have zl2 := Option.some.inj zl2
                  have h54 := h_in_ok (z := 54 + t0) hF (by rw [ev_off ht]; congr 1; omega) q6
                  obtain ⟨zz, zz1, zz2⟩ := hcf_int hF hz q1
                  have ezz : zz = 2 := by
                    have : (2 : Int) = (zz : Int) := Option.some.inj zz1
                    omega
                  subst ezz
                  have hlt := g_leq_ok FPX0 hF.2.1 hF.2.2.2 6 q8 (ev_off ht) zz2
                  refine ftP_pos (t := t0) (by omega) (by omega) h54.2 zl2.symm ?_ _
                  rw [a1, ← f2, Int32.ofInt_toInt, Int32.ofInt_toInt]
                  exact key
                have wr9 := ev_iv hF.2.1 f3 hiv
                obtain ⟨E1, k1, k2, -⟩ := f_clamp_ev (lo := 1) (hi := hr) hF.2.1 f3 ⟨_, hiv⟩ (by omega) wr9.2
                rw [k1] at h
                cases h
                exact ⟨_, List.mem_cons_self, I, hxt.rf, rfl, hF.1, k2, hF.2.2.1, hF.2.2.2⟩
              · cases q7
            · cases q7
          · cases m2
        · cases h; exact same
      · cases h; exact same
    · cases h; exact same
  · cases h; exact same
end HKC
