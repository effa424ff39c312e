/-! the main scene's city, the history's, the images': hooks -/
def h_fst (id : Nat) (SF : List SFt) : Option (List BV) := match SF with
  | [] => none
  | f :: r => if Nat.beq f.1 id = true then some f.2 else h_fst id r
/-- the name of a reference that is not null -/
def h_pn (κ : Nat) (v : Option BV) : Option Nat := match v with
  | some (.inr (.inr (.inr (.inl (some (κ', true, some k)))))) => if Nat.beq κ' κ = true then some k else none
  | _ => none
def h_city (CF : List CFt) : Option Nat := h_pn 51 (f_cf CF 44 none (bI 0))
def hk_name : HKt := fun S => match S.2.2.2.1 with
  | (n, E, CF, SF) => (match f_cf CF 44 none (bI 0) with
    | none => some [(n + 1, E, (44, none, bI 0, bP 51 true (some n)) :: CF, SF)]
    | some _ => some [(n, E, CF, SF)])
/-- the history's facts, by the city's name and by numbers -/
def hk_op (id : Nat) : HKt := fun S => match S.2.2.2.1 with
  | (n, E, CF, SF) => (match h_city CF, f_cf CF 7 none (bI 1), f_cf CF 7 none (bI 2) with
    | some k, some a, some b => if (f_isI a && (f_isI b && f_sin SF id [])) = true then some [(n, E, CF, (93, [bV k 0, a, f_off b (if Nat.beq id 92 = true then 1 else 0)]) :: SF)] else some [(n, E, CF, SF)]
    | _, _, _ => some [(n, E, CF, SF)])
def hk_op90 : HKt := fun S => match S.2.2.2.1 with
  | (n, E, CF, SF) => (match h_city CF with
    | some k => if f_sin SF 90 [] = true then some [(n, E, CF, (101, [bV k 0]) :: SF)] else some [(n, E, CF, SF)]
    | none => some [(n, E, CF, SF)])
def h_rows (E : EB) (SF : List SFt) (t : BV) (d : Int) : Option (BV × BV × BV × BV) := match h_fst 93 SF, h_fst 100 SF with
  | some [k, f, s], some [f', i, t'] => if (bv_eq f' f && (bv_eq (f_off i d) s && (bv_eq t' t && (h_in E (some i) 0 9 && h_in E (some t) 0 8)))) = true then some (k, f, s, i) else none
  | _, _ => none
def hk_split : HKt := fun S => match S.2.2.1, S.2.2.2.1 with
  | t :: _, (n, E, CF, SF) => (match h_rows E SF t 0 with
    | some (k, f, s, _) => some [(n, E, (8, none, t, bN) :: CF, (98, [k, f, s, t, f_off t 1]) :: SF), (n + 1, E, (8, none, t, bP 64 true (some n)) :: CF, (98, [k, f, s, t, f_off t 1]) :: SF)]
    | none => some [(n, E, CF, SF)])
  | _, (n, E, CF, SF) => some [(n, E, CF, SF)]
def hk_take : HKt := fun S => match S.2.2.1, S.2.2.2.1 with
  | t :: _, (n, E, CF, SF) => (match h_rows E SF t 1 with
    | some (.inr (.inl (k, 0)), _, _, _) => some [(n + 1, E, (8, none, t, bP 64 true (some n)) :: (64, some n, bI 0, bP 51 true (some k)) :: CF, SF)]
    | _ => some [(n, E, CF, SF)])
  | _, (n, E, CF, SF) => some [(n, E, CF, SF)]
def hk_fill : HKt := fun S => match S.2.2.2.1 with
  | (n, E, CF, SF) => (match h_fst 98 SF with
    | some [k, f, s, t, _] => (match h_pn 64 (f_cf CF 8 none t) with
      | some q => (match h_pn 51 (f_cf CF 64 (some q) (bI 0)) with
        | some k' => if (bv_eq k (bV k' 0) && f_sin SF 100 [f, s, t]) = true then some [(n, E, CF, (93, [k, f, f_off s 1]) :: SF)] else some [(n, E, CF, SF)]
        | none => some [(n, E, CF, SF)])
      | none => some [(n, E, CF, SF)])
    | _ => some [(n, E, CF, SF)])
def hk_cl91 : HKt := fun S => match S.2.2.2.1 with
  | (n, E, CF, SF) => (match h_city CF, f_cf CF 7 none (bI 1), f_cf CF 7 none (bI 2), h_fst 93 SF with
    | some k, some a, some b, some [k', f, z] => if (f_isI a && (f_isI b && (bv_eq k' (bV k 0) && (bv_eq f a && f_lez E b z)))) = true then some [(n, E, CF, (91, []) :: SF)] else some [(n, E, CF, SF)]
    | _, _, _, _ => some [(n, E, CF, SF)])
def hk_cl92 : HKt := fun S => match S.2.2.2.1 with
  | (n, E, CF, SF) => (match h_city CF, f_cf CF 7 none (bI 1), f_cf CF 7 none (bI 2), h_fst 93 SF with
    | some k, some a, some b, some [k', f, z] => if (f_isI a && (f_isI b && (bv_eq k' (bV k 0) && (bv_eq f a && bv_eq (f_off b 1) z)))) = true then some [(n, E, CF, (92, []) :: SF)] else some [(n, E, CF, SF)]
    | _, _, _, _ => some [(n, E, CF, SF)])
def hk_cl93 : HKt := fun S => match S.2.2.2.1 with
  | (n, E, CF, SF) => (match h_city CF, f_cf CF 7 none (bI 1), f_cf CF 7 none (bI 2), h_fst 93 SF with
    | some k, some a, some b, some [k', f, z] => if (f_isI a && (f_isI b && (bv_eq k' (bV k 0) && (f_sin SF 100 [f, bI 1, a] && bv_eq (f_off b 1) z)))) = true then some [(n, E, CF, (91, []) :: SF)] else some [(n, E, CF, SF)]
    | _, _, _, _ => some [(n, E, CF, SF)])
def hk_cl90 : HKt := fun S => match S.2.2.2.1 with
  | (n, E, CF, SF) => (match h_city CF with
    | some k => if f_sin SF 101 [bV k 0] = true then some [(n, E, CF, (90, []) :: SF)] else some [(n, E, CF, SF)]
    | none => some [(n, E, CF, SF)])
abbrev ki (j : Nat) : Nat := 71 + 7 * j
def hk_isplit (j : Nat) : HKt := fun S => match S.2.2.2.1 with
  | (n, E, CF, SF) => (match f_cf CF 21 none (bI (j : Int)) with
    | some _ => some [(n, E, CF, SF)]
    | none => some [(n, E, (21, none, bI (j : Int), bN) :: CF, SF), (n + 1, E, (21, none, bI (j : Int), bP (ki j) true (some n)) :: CF, SF)])
def hk_iname (j : Nat) : HKt := fun S => match S.2.2.2.1 with
  | (n, E, CF, SF) => (match h_pn (ki j) (f_cf CF 21 none (bI (j : Int))) with
    | some q => some [(n + 1, E, (ki j, some q, bI 0, bP 51 true (some n)) :: CF, SF)]
    | none => some [(n, E, CF, SF)])
def hk_isame (j : Nat) : HKt := fun S => match S.2.2.2.1 with
  | (n, E, CF, SF) => (match h_city CF, h_pn (ki j) (f_cf CF 21 none (bI (j : Int))) with
    | some k, some q => (match h_pn 51 (f_cf CF (ki j) (some q) (bI 0)) with
      | some k' => if Nat.beq k' k = true then some [(n, E, CF, (102 + j, []) :: SF)] else some [(n, E, CF, SF)]
      | none => some [(n, E, CF, SF)])
    | _, _ => some [(n, E, CF, SF)])
def hk_none : HKt := fun S => match S.2.2.2.1 with
  | (n, E, CF, SF) => (match h_city CF, f_cf CF 7 none (bI 2) with
    | some _, some b => if bv_eq b (bI 0) = true then some [(n, E, CF, (91, []) :: SF)] else some [(n, E, CF, SF)]
    | _, _ => some [(n, E, CF, SF)])
def h_row (j : Nat) (SF : List SFt) : Bool := if Nat.beq j 0 = true then f_sin SF 38 [bI 269] else f_sin SF 39 [bI 269, bI 538]
def hk_gim (j : Nat) : HKt := fun S => match S.2.2.2.1 with
  | (n, E, CF, SF) => if (f_sin SF (102 + j) [] && (f_sin SF 90 [] && h_row j SF)) = true then some [(n, E, CF, (94 + j, []) :: SF)] else some [(n, E, CF, SF)]
def hk_gre (j : Nat) : HKt := fun S => match S.2.2.2.1 with
  | (n, E, CF, SF) => if (f_sin SF (102 + j) [] && (f_sin SF (94 + j) [] && h_row j SF)) = true then some [(n, E, CF, (90, []) :: SF)] else some [(n, E, CF, SF)]
def hk_38e : HKt := fun S => match f_find S.2.1 2, S.2.2.2.1 with
  | some i, (n, E, CF, SF) => if h_in E (some i) 269 iMax = true then (if f_sin SF 38 [i] = true then some [(n, E, CF, (38, [bI 269]) :: SF)] else if f_sin SF 39 [i, f_off i 269] = true then some [(n, E, CF, (39, [bI 269, bI 538]) :: SF)] else some [(n, E, CF, SF)]) else some [(n, E, CF, SF)]
  | none, (n, E, CF, SF) => some [(n, E, CF, SF)]
def hk_kp (j : Nat) : HKt := fun S => match S.2.2.2.1 with
  | (n, E, CF, SF) => if f_sin SF (78 + j) [] = true then some [(n, E, (21, none, bI (j : Int), bN) :: (43, none, bI (j : Int), bI 0) :: CF, SF), (n + 1, E, (21, none, bI (j : Int), bP (ki j) true (some n)) :: (43, none, bI (j : Int), bI 1) :: CF, SF)] else none
def hk_ks (j : Nat) : HKt := fun S => match S.2.2.2.1 with
  | (n, E, CF, SF) => (match f_cf CF 21 none (bI (j : Int)), f_cf CF 43 none (bI (j : Int)) with
    | some (.inr (.inr (.inr (.inl (some (_, true, _)))))), some b => if bv_eq b (bI 1) = true then some [(n, E, CF, (78 + j, []) :: SF)] else some [(n, E, CF, SF)]
    | _, _ => some [(n, E, CF, SF)])
def h_cntq : List (Int × Int) := [(iMin, -1), (0, 7), (8, 8), (9, iMax)]
def h_cnt (n : Nat) (E : EB) (CF : List CFt) (SF : List SFt) (a : BV) (l : Int) : FS := if decide (l = 0) = true then (n + 3, (n + 2, -1, 20) :: E, (44, none, bI 0, bP 51 true (some n)) :: (51, some n, bI 0, bP 52 true (some (n + 1))) :: (52, some (n + 1), a, bV (n + 2) 0) :: (27, none, a, bV (n + 2) 0) :: CF, SF)
  else if decide (l = 8) = true then (n + 1, (n, 0, 940) :: E, (1, none, bI 1, bV n 0) :: (25, none, bI 2, bV n 0) :: CF, SF) else (n, E, CF, SF)
def hk_cnt : HKt := fun S => match S.2.2.1, S.2.2.2.1 with
  | a :: _, (n, E, CF, SF) => (match f_iv E a with
    | some _ => if (f_sin SF 77 [] && f_sin SF 90 []) = true then some (h_cntq.filterMap (fun q => (f_clamp E a q.1 q.2).map (fun E1 => h_cnt n E1 CF SF a q.1))) else none
    | none => none)
  | _, _ => none
section HKH
variable {cy : Nat → ClassId} {I : IN} {ks : List Nat} {wp : va_W} {F : FS} {n : Nat} {E : EB} {CF : List CFt} {SF : List SFt}
theorem h_fst_in {id : Nat} {as : List BV} : ∀ {SF : List SFt}, h_fst id SF = some as → (id, as) ∈ SF := by
  intro SF
  induction SF with
  | nil => intro h; cases h
  | cons f r ih =>
    intro h
    simp only [h_fst] at h
    split at h
    · rename_i q
      cases h
      rw [← Nat.eq_of_beq_eq_true q]
      exact List.mem_cons_self
    · exact List.mem_cons_of_mem _ (ih h)
theorem h_pn_ok {κ k : Nat} {v : Option BV} (h : h_pn κ v = some k) : v = some (bP κ true (some k)) := by
  unfold h_pn at h
  split at h
  · split at h
    · rename_i q
      cases h
      rw [Nat.eq_of_beq_eq_true q]
    · cases h
  · cases h
theorem cu_nm {AK : List (Nat × Nat)} {κ q i j : Nat} {e : va_E} (ha : hap wp) (hp : hpool T2 cy AK ks wp) (hi : ks[i]? = some κ) (hw : wp[i]? = some (q, e)) : c_cu ks wp (ky q κ) j = cval e j := by
  have h100 := hp_100 (T := T2) suok2.1 hp
  rw [c_cu_ky h100 (h100 κ (List.mem_of_getElem? hi))]
  rw [c_fa_of hi hw (fun i' hlt h9 => by obtain ⟨-, e', h9⟩ := h9; have := ha i' i _ _ h9 hw rfl; omega)]
theorem cf_un {κ : Nat} {p v : BV} (hF : HS T2 FPX cy I ks wp F) (hu : κ < 51) (hm : (κ, none, p, v) ∈ F.2.2.1) : ∃ (z : Nat) (x : Value), f_ev I.1 p = some (z : Int) ∧ c_cu ks wp κ z = some x ∧ hv I v x := by
  obtain ⟨i, q, e, z, x, h1, h2, h3, h4, h5, h6⟩ := hF.2.2.1 _ hm
  exact ⟨z, x, h4, by rw [c_cu_one (T := T2) hF.1 hu h1 h2]; exact h5, h6⟩
theorem cf_uz {κ z : Nat} {v : BV} (hF : HS T2 FPX cy I ks wp F) (hu : κ < 51) (hm : f_cf F.2.2.1 κ none (bI (z : Int)) = some v) : ∃ x : Value, c_cu ks wp κ z = some x ∧ hv I v x := by
  obtain ⟨z', x, h1, h2, h3⟩ := cf_un hF hu (f_cf_in hm)
  have h1 : (z : Int) = (z' : Int) := Option.some.inj h1
  have e : z' = z := by omega
  rw [e] at h2
  exact ⟨x, h2, h3⟩
theorem cf_nm {κ k : Nat} {p v : BV} (ha : hap wp) (hF : HS T2 FPX cy I ks wp F) (hm : (κ, some k, p, v) ∈ F.2.2.1) : ∃ (q z : Nat) (x : Value), I.1[k]? = some (q : Int) ∧ f_ev I.1 p = some (z : Int) ∧ c_cu ks wp (ky q κ) z = some x ∧ hv I v x := by
  obtain ⟨i, q, e, z, x, h1, h2, h3, h4, h5, h6⟩ := hF.2.2.1 _ hm
  exact ⟨q, z, x, h3, h4, by rw [cu_nm ha hF.1 h1 h2]; exact h5, h6⟩
theorem hv_rn {κ k : Nat} {v : Value} (h : hv I (bP κ true (some k)) v) : ∃ q : Nat, v = .ref q ∧ I.1[k]? = some (q : Int) ∧ (q, κ) ∈ I.2.1 := by
  obtain ⟨h1, h2⟩ := h
  obtain ⟨y, y1, y2⟩ := h2 k rfl
  rcases h1 with ⟨h9, -⟩ | ⟨q, h3, rfl⟩
  · cases h9
  · rcases y2 with ⟨-, q', e, rfl⟩ | ⟨h9, -⟩
    · cases e
      exact ⟨q, rfl, y1, h3⟩
    · cases h9
theorem ev_nm {ν : List Int} {k : Nat} {y : Int} (h : ν[k]? = some y) : f_ev ν (bV k 0) = some y := by
  simp only [f_ev, h, Int.add_zero]
theorem nm_eq {ν : List Int} {k : Nat} {q q' : Nat} (h : ν[k]? = some (q : Int)) (h' : ν[k]? = some (q' : Int)) : q = q' := by
  rw [h] at h'
  have := Option.some.inj h'
  omega
theorem hs_add {f : SFt} (h : HS T2 FPX cy I ks wp (n, E, CF, SF)) (hf : hsf FPX I (c_cu ks wp) f) : HS T2 FPX cy I ks wp (n, E, CF, f :: SF) := by
  obtain ⟨h1, h2, h3, h4⟩ := h
  refine ⟨h1, h2, h3, fun g hg => ?_⟩
  rcases List.mem_cons.mp hg with rfl | hg
  · exact hf
  · exact h4 g hg
theorem hs_cf {f : CFt} (h : HS T2 FPX cy I ks wp (n, E, CF, SF)) (hf : hcf T2 I ks wp f) : HS T2 FPX cy I ks wp (n, E, f :: CF, SF) := by
  obtain ⟨h1, h2, h3, h4⟩ := h
  refine ⟨h1, h2, fun g hg => ?_, h4⟩
  rcases List.mem_cons.mp hg with rfl | hg
  · exact hf
  · exact h3 g hg
theorem henv_nm {ν : List Int} (y : Int) (h : henv ν n E) : henv (ν ++ [y]) (n + 1) E := by
  refine ⟨by rw [List.length_append, h.1]; rfl, fun k q hk => ?_⟩
  obtain ⟨y', h1, h2⟩ := h.2 k q hk
  exact ⟨y', by rw [List.getElem?_append_left (List.getElem?_eq_some_iff.mp h1).1]; exact h1, h2⟩
/-- a name more, for an address -/
theorem hs_nm (q : Nat) (h : HS T2 FPX cy I ks wp (n, E, CF, SF)) : ∃ J : IN, hxt I J ∧ J.2 = I.2 ∧ J.1[n]? = some (q : Int) ∧ HS T2 FPX cy J ks wp (n + 1, E, CF, SF) :=
  ⟨(I.1 ++ [(q : Int)], I.2), hxt_app _, rfl, at_app (k := 0) h.2.1.1 rfl, h.xt (hxt_app _) rfl (henv_nm _ h.2.1)⟩
theorem hv_nm {κ q : Nat} (h : (q, κ) ∈ I.2.1) (hn : I.1[n]? = some (q : Int)) : hv I (bP κ true (some n)) (.ref q) := by
  refine ⟨Or.inr ⟨q, h, rfl⟩, fun k hk => ?_⟩
  cases hk
  exact ⟨_, hn, Or.inl ⟨rfl, q, rfl, rfl⟩⟩
/-- a place of the only cell of a kind, as a fact -/
theorem cf_mk {κ z : Nat} {p v : BV} {d : KD} {t : BT} {x : Value} (hF : HS T2 FPX cy I ks wp F) (hu : κ < 51) (hT : TK2[κ]? = some d) (hz : z < k_len d) (ht9 : k_ty d z = some t) (hp : f_ev I.1 p = some (z : Int)) (hx : c_cu ks wp κ z = some x) (hv9 : hv I v x) : hcf T2 I ks wp (κ, none, p, v) := by
  obtain ⟨i, q, e, v', r1, r2, r3, r4, -⟩ := cell_any hF hu hT hz ht9
  rw [r4] at hx
  cases hx
  exact ⟨i, q, e, z, _, r1, r2, hu, hp, r3, hv9⟩
/-- of a cell that has a name -/
theorem cf_mkn {κ q z : Nat} {p v : BV} {d : KD} {x : Value} (ha : hap wp) (hF : HS T2 FPX cy I ks wp F) (hT : TK2[κ]? = some d) (hq : (q, κ) ∈ I.2.1) (hn : I.1[n]? = some (q : Int)) (hp : f_ev I.1 p = some (z : Int)) (hx : c_cu ks wp (ky q κ) z = some x) (hv9 : hv I v x) : hcf T2 I ks wp (κ, some n, p, v) := by
  obtain ⟨i, e, g1, g2⟩ := hF.1.2.2.1 q κ d hq hT
  rw [cu_nm ha hF.1 g1 g2] at hx
  exact ⟨i, q, e, z, x, g1, g2, hn, hp, hx, hv9⟩
/-- what stands in a place of a cell of a kind has its sort -/
theorem nm_ty {κ q z : Nat} {d : KD} {t : BT} (ha : hap wp) (hF : HS T2 FPX cy I ks wp F) (hT : TK2[κ]? = some d) (hz : z < k_len d) (ht9 : k_ty d z = some t) (hq : (q, κ) ∈ I.2.1) : ∃ x, c_cu ks wp (ky q κ) z = some x ∧ ht I.2.1 t x := by
  obtain ⟨i, e, g1, g2⟩ := hF.1.2.2.1 q κ d hq hT
  obtain ⟨q', e', d', h1, h2, h3, -⟩ := hF.1.2.1 i κ g1
  rw [g2] at h1
  cases h1
  have h2 : TK2[κ]? = some d' := h2
  rw [hT] at h2
  cases h2
  obtain ⟨x, x1, x2⟩ := h3.2 z t hz ht9
  exact ⟨x, by rw [cu_nm ha hF.1 g1 g2]; exact x1, x2⟩
theorem ht_ref {AK : List (Nat × Nat)} {κ : Nat} {x : Value} (h : ht AK (.inr (.inr (κ, true))) x) : ∃ q : Nat, (q, κ) ∈ AK ∧ x = .ref q := by
  rcases h with ⟨h, -⟩ | h
  · cases h
  · exact h
theorem t2_44 : ∃ d, TK2[44]? = some d ∧ 0 < k_len d ∧ k_ty d 0 = some (.inr (.inr (51, true))) := ⟨_, rfl, by decide, rfl⟩
theorem t2_8 : ∃ d, TK2[8]? = some d ∧ k_len d = 9 ∧ ∀ j, j < 9 → k_ty d j = some (.inr (.inr (64, false))) := ⟨_, rfl, rfl, fun j hj => by
  have h : ∀ k : Fin 9, k_seg [(9, .inr (.inr (64, false)))] k.val = some ((.inr (.inr (64, false))) : BT) := by decide
  exact h ⟨j, hj⟩⟩
theorem t2_64 : ∃ d, TK2[64]? = some d ∧ 0 < k_len d ∧ k_ty d 0 = some (.inr (.inr (51, true))) := ⟨_, rfl, by decide, rfl⟩
theorem t2_ki {j : Nat} (hj : j < 2) : ∃ d, TK2[ki j]? = some d ∧ 0 < k_len d ∧ k_ty d 0 = some (.inr (.inr (51, true))) := by
  rcases (show j = 0 ∨ j = 1 by omega) with rfl | rfl
  · exact ⟨_, rfl, by decide, rfl⟩
  · exact ⟨_, rfl, by decide, rfl⟩
theorem t2_21 {j : Nat} (hj : j < 2) : ∃ d, TK2[21]? = some d ∧ j < k_len d ∧ k_ty d j = some (.inr (.inr (ki j, false))) := by
  rcases (show j = 0 ∨ j = 1 by omega) with rfl | rfl
  · exact ⟨_, rfl, by decide, rfl⟩
  · exact ⟨_, rfl, by decide, rfl⟩
theorem city_at {k : Nat} (hF : HS T2 FPX cy I ks wp F) (h : h_city F.2.2.1 = some k) : ∃ q : Nat, c_cu ks wp 44 0 = some (.ref q) ∧ I.1[k]? = some (q : Int) ∧ (q, 51) ∈ I.2.1 := by
  obtain ⟨x, h1, h2⟩ := cf_uz (z := 0) hF (by decide) (h_pn_ok h)
  obtain ⟨q, rfl, h3, h4⟩ := hv_rn h2
  exact ⟨q, h1, h3, h4⟩
theorem int_at {κ z : Nat} {a : BV} (hF : HS T2 FPX cy I ks wp F) (hu : κ < 51) (hm : f_cf F.2.2.1 κ none (bI (z : Int)) = some a) (ha : f_isI a = true) : f_ev I.1 a = some (cint (c_cu ks wp) κ z) := by
  obtain ⟨x, h1, h2⟩ := cf_uz hF hu hm
  obtain ⟨y, rfl⟩ := hv_isI h2 ha
  rw [hv_ev h2]
  unfold cint
  rw [h1]
theorem fact0 {id : Nat} (hF : HS T2 FPX cy I ks wp F) (h : f_sin F.2.2.2 id [] = true) : FPX id (c_cu ks wp) [] := by
  obtain ⟨zs, h1, h2⟩ := hF.2.2.2 _ (f_sin_ok h)
  cases h1
  exact h2
theorem ev3s {ν : List Int} {a b c : BV} {x y z : Int} (h1 : f_ev ν a = some x) (h2 : f_ev ν b = some y) (h3 : f_ev ν c = some z) : f_evs ν [a, b, c] = some [x, y, z] := by
  simp only [f_evs, h1, h2, h3]
theorem evs3_inv {ν : List Int} {a b c : BV} {zs : List Int} (h : f_evs ν [a, b, c] = some zs) : ∃ x y z, f_ev ν a = some x ∧ f_ev ν b = some y ∧ f_ev ν c = some z ∧ zs = [x, y, z] := by
  simp only [f_evs] at h
  cases h1 : f_ev ν a with
  | none => rw [h1] at h; simp at h
  | some x =>
    cases h2 : f_ev ν b with
    | none => rw [h1, h2] at h; simp at h
    | some y =>
      cases h3 : f_ev ν c with
      | none => rw [h1, h2, h3] at h; simp at h
      | some z =>
        rw [h1, h2, h3] at h
        simp only [Option.some.injEq] at h
        exact ⟨x, y, z, rfl, rfl, rfl, h.symm⟩
theorem evs5_inv {ν : List Int} {a b c d e : BV} {zs : List Int} (h : f_evs ν [a, b, c, d, e] = some zs) : ∃ x y z u w, f_ev ν a = some x ∧ f_ev ν b = some y ∧ f_ev ν c = some z ∧ f_ev ν d = some u ∧ f_ev ν e = some w ∧ zs = [x, y, z, u, w] := by
  cases h1 : f_ev ν a with
  | none => simp only [f_evs, h1] at h; cases h
  | some x =>
    cases h2 : f_ev ν b with
    | none => simp only [f_evs, h1, h2] at h; cases h
    | some y =>
      cases h3 : f_ev ν c with
      | none => simp only [f_evs, h1, h2, h3] at h; cases h
      | some z =>
        cases h4 : f_ev ν d with
        | none => simp only [f_evs, h1, h2, h3, h4] at h; cases h
        | some u =>
          cases h5 : f_ev ν e with
          | none => simp only [f_evs, h1, h2, h3, h4, h5] at h; cases h
          | some w =>
            simp only [f_evs, h1, h2, h3, h4, h5, Option.some.injEq] at h
            exact ⟨x, y, z, u, w, rfl, rfl, rfl, rfl, rfl, h.symm⟩
theorem fact93 {k f s : BV} (hF : HS T2 FPX cy I ks wp F) (h : h_fst 93 F.2.2.2 = some [k, f, s]) : ∃ (qc : Nat) (f0 s0 : Int), f_ev I.1 k = some (qc : Int) ∧ f_ev I.1 f = some f0 ∧ f_ev I.1 s = some s0 ∧ hGo (c_cu ks wp) qc f0 s0 (-1) := by
  obtain ⟨zs, h1, qc, f0, s0, rfl, h2⟩ := hF.2.2.2 _ (h_fst_in h)
  obtain ⟨x, y, z, e1, e2, e3, e4⟩ := evs3_inv h1
  simp only [List.cons.injEq, and_true] at e4
  obtain ⟨rfl, rfl, rfl⟩ := e4
  exact ⟨qc, f0, s0, e1, e2, e3, h2⟩
theorem fact100 {f i t : BV} (hF : HS T2 FPX cy I ks wp F) (h : (100, [f, i, t]) ∈ F.2.2.2) : ∃ f0 i0 : Int, f_ev I.1 f = some f0 ∧ f_ev I.1 i = some i0 ∧ f_ev I.1 t = some ((f0 + i0) % 9) := by
  obtain ⟨zs, h1, f0, i0, rfl⟩ := hF.2.2.2 _ h
  obtain ⟨x, y, z, e1, e2, e3, e4⟩ := evs3_inv h1
  simp only [List.cons.injEq, and_true] at e4
  obtain ⟨rfl, rfl, rfl⟩ := e4
  exact ⟨f0, i0, e1, e2, e3⟩
theorem in_iv {a : BV} {z lo hi : Int} (hE : henv I.1 n E) (h : h_in E (some a) lo hi = true) (hz : f_ev I.1 a = some z) : lo ≤ z ∧ z ≤ hi := by
  simp only [h_in] at h
  split at h
  · rename_i l h9 hq
    simp only [Bool.and_eq_true, decide_eq_true_eq] at h
    have := ev_iv hE hz hq
    omega
  · cases h
end HKH
/-! the main scene's city, the history's, the images': the hooks are right -/
section HKI
variable {cy : Nat → ClassId}
theorem one_of {I : IN} {ks : List Nat} {wp : va_W} {F : FS} (h : HS T2 FPX cy I ks wp F) : ∃ F' ∈ [F], ∃ J : IN, hxt I J ∧ J.2 = I.2 ∧ HS T2 FPX cy J ks wp F' := ⟨F, List.mem_cons_self, I, hxt.rf, rfl, h⟩
theorem hk_name_ok : HKP T2 FPX cy hk_name := by
  intro S L h I ks wp lv vs ha _ _ hF
  obtain ⟨pc, lo, st, ⟨n, E, CF, SF⟩, q⟩ := S
  unfold hk_name at h
  simp only at h hF
  split at h
  · cases h
    obtain ⟨d, a1, a2, a3⟩ := t2_44
    obtain ⟨i1, p1, e1, v1, r1, r2, r3, r4, r5⟩ := cell_any hF (by decide) a1 a2 a3
    obtain ⟨w, w1, rfl⟩ := ht_ref r5
    obtain ⟨J, j1, j2, j3, j4⟩ := hs_nm w hF
    exact ⟨_, List.mem_cons_self, J, j1, j2, hs_cf j4 (cf_mk j4 (by decide) a1 a2 a3 rfl r4 (hv_nm (by rw [j2]; exact w1) j3))⟩
  · cases h
    exact one_of hF
theorem hk_op_ok {id : Nat} (hid : id = 91 ∨ id = 92) : HKP T2 FPX cy (hk_op id) := by
  intro S L h I ks wp lv vs ha _ _ hF
  obtain ⟨pc, lo, st, ⟨n, E, CF, SF⟩, q⟩ := S
  unfold hk_op at h
  simp only at h hF
  split at h
  · rename_i k a b h1 h2 h3
    split at h
    · rename_i q1
      simp only [Bool.and_eq_true] at q1
      obtain ⟨q1, q2, q3⟩ := q1
      cases h
      obtain ⟨w, w1, w2, w3⟩ := city_at hF h1
      have ea := int_at (z := 1) hF (by decide) h2 q1
      have eb := int_at (z := 2) hF (by decide) h3 q2
      have hf := fact0 hF q3
      refine one_of (hs_add hF ?_)
      rcases hid with rfl | rfl
      · obtain ⟨-, qc, g1, g2⟩ := hf
        rw [w1] at g1
        cases g1
        exact ⟨_, ev3s (ev_nm w2) ea (ev_off eb), w, _, _, rfl, by simpa using g2⟩
      · obtain ⟨-, qc, g1, g2⟩ := hf
        rw [w1] at g1
        cases g1
        exact ⟨_, ev3s (ev_nm w2) ea (ev_off eb), w, _, _, rfl, g2⟩
    · cases h
      exact one_of hF
  · cases h
    exact one_of hF
theorem evs1 {ν : List Int} {a : BV} {x : Int} (h : f_ev ν a = some x) : f_evs ν [a] = some [x] := by
  simp only [f_evs, h]
theorem evs1_inv {ν : List Int} {a : BV} {zs : List Int} (h : f_evs ν [a] = some zs) : ∃ x, f_ev ν a = some x ∧ zs = [x] := by
  simp only [f_evs] at h
  cases h1 : f_ev ν a with
  | none => rw [h1] at h; simp at h
  | some x =>
    rw [h1] at h
    simp only [Option.some.injEq] at h
    exact ⟨x, rfl, h.symm⟩
theorem hk_op90_ok : HKP T2 FPX cy hk_op90 := by
  intro S L h I ks wp lv vs ha _ _ hF
  obtain ⟨pc, lo, st, ⟨n, E, CF, SF⟩, q⟩ := S
  unfold hk_op90 at h
  simp only at h hF
  split at h
  · rename_i k h1
    split at h
    · rename_i q1
      cases h
      obtain ⟨w, w1, w2, w3⟩ := city_at hF h1
      obtain ⟨-, qc, g1, g2⟩ := fact0 hF q1
      rw [w1] at g1
      cases g1
      exact one_of (hs_add hF ⟨_, evs1 (ev_nm w2), w, rfl, g2⟩)
    · cases h
      exact one_of hF
  · cases h
    exact one_of hF
theorem hk_cl90_ok : HKP T2 FPX cy hk_cl90 := by
  intro S L h I ks wp lv vs ha _ _ hF
  obtain ⟨pc, lo, st, ⟨n, E, CF, SF⟩, q⟩ := S
  unfold hk_cl90 at h
  simp only at h hF
  split at h
  · rename_i k h1
    split at h
    · rename_i q1
      cases h
      obtain ⟨w, w1, w2, w3⟩ := city_at hF h1
      obtain ⟨zs, z1, qc, rfl, g2⟩ := hF.2.2.2 _ (f_sin_ok q1)
      obtain ⟨x, x1, x2⟩ := evs1_inv z1
      rw [ev_nm w2] at x1
      cases x1
      simp only [List.cons.injEq, and_true] at x2
      have e : qc = w := by omega
      subst e
      exact one_of (hs_add hF ⟨[], rfl, rfl, qc, w1, g2⟩)
    · cases h
      exact one_of hF
  · cases h
    exact one_of hF
theorem h_rows_ok {I : IN} {ks : List Nat} {wp : va_W} {n : Nat} {E : EB} {CF : List CFt} {SF : List SFt} {t k f s i : BV} {d : Int} (hF : HS T2 FPX cy I ks wp (n, E, CF, SF)) (h : h_rows E SF t d = some (k, f, s, i)) :
    ∃ (qc : Nat) (f0 i0 : Int), f_ev I.1 k = some (qc : Int) ∧ f_ev I.1 f = some f0 ∧ f_ev I.1 s = some (i0 + d) ∧ f_ev I.1 t = some ((f0 + i0) % 9) ∧ 0 ≤ i0 ∧ hGo (c_cu ks wp) qc f0 (i0 + d) (-1) := by
  unfold h_rows at h
  split at h
  · rename_i k1 f1 s1 f2 i2 t2 h1 h2
    split at h
    · rename_i q1
      simp only [Bool.and_eq_true] at q1
      obtain ⟨q1, q2, q3, q4, q5⟩ := q1
      have q1 := bv_eq_ok q1
      have q2 := bv_eq_ok q2
      have q3 := bv_eq_ok q3
      subst q1
      subst q2
      subst q3
      cases h
      obtain ⟨qc, f0, s0, e1, e2, e3, g⟩ := fact93 hF h1
      obtain ⟨f9, i0, e4, e5, e6⟩ := fact100 hF (h_fst_in h2)
      rw [e2] at e4
      cases e4
      rw [ev_off e5] at e3
      cases e3
      have := in_iv hF.2.1 q4 e5
      exact ⟨qc, f0, i0, e1, e2, ev_off e5, e6, this.1, g⟩
    · cases h
  · cases h
theorem hk_split_ok : HKP T2 FPX cy hk_split := by
  intro S L h I ks wp lv vs ha _ _ hF
  obtain ⟨pc, lo, st, ⟨n, E, CF, SF⟩, q⟩ := S
  unfold hk_split at h
  cases st with
  | nil =>
    simp only at h
    cases h
    exact one_of hF
  | cons t st' =>
    simp only at h hF
    split at h
    · rename_i k f s i h1
      cases h
      obtain ⟨qc, f0, i0, e1, e2, e3, e4, e5, g⟩ := h_rows_ok hF h1
      have hf : hsf FPX I (c_cu ks wp) (98, [k, f, s, t, f_off t 1]) := by
        refine ⟨[(qc : Int), f0, i0 + 0, (f0 + i0) % 9, (f0 + i0) % 9 + 1], ?_, qc, f0, i0 + 0, _, rfl, fun j hj _ => g j hj (by omega)⟩
        simp only [f_evs, e1, e2, e3, e4, ev_off e4]
      have hF1 := hs_add hF hf
      obtain ⟨d, a1, a2, a3⟩ := t2_8
      have ez : ((f0 + i0) % 9) = ((((f0 + i0) % 9).toNat : Nat) : Int) := by omega
      have ept := e4
      rw [ez] at ept
      obtain ⟨i1, p1, e9, v1, r1, r2, r3, r4, r5⟩ := cell_any hF (by decide) a1 (z := ((f0 + i0) % 9).toNat) (by omega) (a3 _ (by omega))
      rcases r5 with ⟨-, rfl⟩ | ⟨w, w1, rfl⟩
      · exact ⟨_, List.mem_cons_self, I, hxt.rf, rfl, hs_cf hF1 ⟨i1, p1, e9, _, .null, r1, r2, (by show 8 < 51; omega), ept, r3, rfl⟩⟩
      · obtain ⟨J, j1, j2, j3, j4⟩ := hs_nm w hF1
        exact ⟨_, List.mem_cons_of_mem _ List.mem_cons_self, J, j1, j2, hs_cf j4 ⟨i1, p1, e9, _, .ref w, r1, r2, (by show 8 < 51; omega), ev_xt j1 ept, r3, hv_nm (by rw [j2]; exact w1) j3⟩⟩
    · cases h
      exact one_of hF
theorem hk_take_ok : HKP T2 FPX cy hk_take := by
  intro S L h I ks wp lv vs ha _ _ hF
  obtain ⟨pc, lo, st, ⟨n, E, CF, SF⟩, q⟩ := S
  unfold hk_take at h
  cases st with
  | nil =>
    simp only at h
    cases h
    exact one_of hF
  | cons t st' =>
    simp only at h hF
    split at h
    · rename_i k f s i h1
      cases h
      obtain ⟨qc, f0, i0, e1, e2, e3, e4, e5, g⟩ := h_rows_ok hF h1
      obtain ⟨qh, g1, g2⟩ := g i0.toNat (by omega) (by omega)
      rw [show f0 + ((i0.toNat : Nat) : Int) = f0 + i0 by omega] at g1
      obtain ⟨d, a1, a2, a3⟩ := t2_8
      have ez : ((f0 + i0) % 9) = ((((f0 + i0) % 9).toNat : Nat) : Int) := by omega
      have ept := e4
      rw [ez] at ept
      obtain ⟨i1, p1, e9, v1, r1, r2, r3, r4, r5⟩ := cell_any hF (by decide) a1 (z := ((f0 + i0) % 9).toNat) (by omega) (a3 _ (by omega))
      rw [r4] at g1
      cases g1
      rcases r5 with ⟨-, h9⟩ | ⟨w, w1, h9⟩
      · cases h9
      · cases h9
        obtain ⟨d2, b1, b2, b3⟩ := t2_64
        obtain ⟨x, x1, x2⟩ := nm_ty ha hF b1 b2 b3 w1
        rw [g2] at x1
        cases x1
        obtain ⟨w9, y1, y2⟩ := ht_ref x2
        cases y2
        obtain ⟨J, j1, j2, j3, j4⟩ := hs_nm qh hF
        have ek : I.1[k]? = some (qc : Int) := by
          simp only [f_ev] at e1
          split at e1
          · rename_i y hy
            rw [hy]
            have := Option.some.inj e1
            rw [show y = (qc : Int) by omega]
          · cases e1
        have c1 : hcf T2 J ks wp (64, some n, bI 0, bP 51 true (some k)) := cf_mkn (z := 0) ha j4 b1 (by rw [j2]; exact w1) j3 rfl g2 (hv_nm (by rw [j2]; exact y1) (j1.at ek))
        exact ⟨_, List.mem_cons_self, J, j1, j2, hs_cf (hs_cf j4 c1) ⟨i1, p1, e9, _, .ref qh, r1, r2, (by show 8 < 51; omega), ev_xt j1 ept, r3, hv_nm (by rw [j2]; exact w1) j3⟩⟩
    · cases h
      exact one_of hF
theorem hk_fill_ok : HKP T2 FPX cy hk_fill := by
  intro S L h I ks wp lv vs ha _ _ hF
  obtain ⟨pc, lo, st, ⟨n, E, CF, SF⟩, q⟩ := S
  unfold hk_fill at h
  simp only at h hF
  split at h
  · rename_i k f s t t1 h1
    split at h
    · rename_i qn h2
      split at h
      · rename_i k' h3
        split at h
        · rename_i q1
          simp only [Bool.and_eq_true] at q1
          have q2 := bv_eq_ok q1.1
          subst q2
          cases h
          obtain ⟨zs, z1, qc, f0, s0, t0, rfl, g⟩ := hF.2.2.2 _ (h_fst_in h1)
          obtain ⟨x1, x2, x3, x4, x5, e1, e2, e3, e4, e5, e6⟩ := evs5_inv z1
          simp only [List.cons.injEq, and_true] at e6
          obtain ⟨rfl, rfl, rfl, rfl, rfl⟩ := e6
          obtain ⟨f9, i0, w1, w2, w3⟩ := fact100 hF (f_sin_ok q1.2)
          rw [e2] at w1
          cases w1
          rw [e3] at w2
          cases w2
          rw [e4] at w3
          have w3 := Option.some.inj w3
          obtain ⟨zt, xt, y1, y2, y3⟩ := cf_un hF (by decide) (f_cf_in (h_pn_ok h2))
          obtain ⟨qh, rfl, y4, y5⟩ := hv_rn y3
          rw [e4] at y1
          have y1 := Option.some.inj y1
          obtain ⟨q9, z9, x9, u1, u2, u3, u4⟩ := cf_nm ha hF (f_cf_in (h_pn_ok h3))
          obtain ⟨qc9, rfl, u5, u6⟩ := hv_rn u4
          have u2 : (0 : Int) = (z9 : Int) := Option.some.inj u2
          have e9 : z9 = 0 := by omega
          subst e9
          have e8 := nm_eq y4 u1
          subst e8
          rw [ev_nm u5] at e1
          have e7 : qc9 = qc := by have := Option.some.inj e1; omega
          subst e7
          refine one_of (hs_add hF ⟨_, ev3s (ev_nm u5) e2 (ev_off e3), qc9, _, _, rfl, fun j hj _ => ?_⟩)
          by_cases ht : (f0 + (j : Int)) % 9 = t0
          · refine ⟨qh, ?_, u3⟩
            rw [ht, show t0.toNat = zt by omega]
            exact y2
          · exact g j (by
              rcases (show (j : Int) < s0 ∨ (j : Int) = s0 by omega) with h9 | h9
              · exact h9
              · rw [h9] at ht
                exact absurd w3.symm ht) ht
        · cases h
          exact one_of hF
      · cases h
        exact one_of hF
    · cases h
      exact one_of hF
  · cases h
    exact one_of hF
theorem cl_go {I : IN} {ks : List Nat} {wp : va_W} {n : Nat} {E : EB} {CF : List CFt} {SF : List SFt} {a b f k' z : BV} {k : Nat} (hF : HS T2 FPX cy I ks wp (n, E, CF, SF)) (h1 : h_city CF = some k) (h2 : f_cf CF 7 none (bI 1) = some a) (h3 : f_cf CF 7 none (bI 2) = some b) (h4 : h_fst 93 SF = some [k', f, z]) (q1 : f_isI a = true) (q2 : f_isI b = true) (q3 : bv_eq k' (bV k 0) = true) :
    ∃ (w : Nat) (f0 z0 : Int), c_cu ks wp 44 0 = some (.ref w) ∧ f_ev I.1 a = some (cint (c_cu ks wp) 7 1) ∧ f_ev I.1 b = some (cint (c_cu ks wp) 7 2) ∧ f_ev I.1 f = some f0 ∧ f_ev I.1 z = some z0 ∧ hGo (c_cu ks wp) w f0 z0 (-1) := by
  obtain ⟨w, w1, w2, w3⟩ := city_at hF h1
  have ea := int_at (z := 1) hF (by decide) h2 q1
  have eb := int_at (z := 2) hF (by decide) h3 q2
  obtain ⟨qc, f0, s0, e1, e2, e3, g⟩ := fact93 hF h4
  rw [bv_eq_ok q3, ev_nm w2] at e1
  have e7 : w = qc := by have := Option.some.inj e1; omega
  subst e7
  exact ⟨w, f0, s0, w1, ea, eb, e2, e3, g⟩
theorem hk_cl91_ok : HKP T2 FPX cy hk_cl91 := by
  intro S L h I ks wp lv vs ha _ _ hF
  obtain ⟨pc, lo, st, ⟨n, E, CF, SF⟩, q⟩ := S
  unfold hk_cl91 at h
  simp only at h hF
  split at h
  · rename_i k a b k' f z h1 h2 h3 h4
    split at h
    · rename_i q1
      simp only [Bool.and_eq_true] at q1
      obtain ⟨q1, q2, q3, q4, q5⟩ := q1
      cases h
      obtain ⟨w, f0, z0, w1, ea, eb, e2, e3, g⟩ := cl_go hF h1 h2 h3 h4 q1 q2 q3
      rw [bv_eq_ok q4, ea] at e2
      cases e2
      have hl := f_lez_ok hF.2.1 q5 eb e3
      exact one_of (hs_add hF ⟨[], rfl, rfl, w, w1, fun j hj ht => g j (by omega) ht⟩)
    · cases h
      exact one_of hF
  · cases h
    exact one_of hF
theorem hk_cl92_ok : HKP T2 FPX cy hk_cl92 := by
  intro S L h I ks wp lv vs ha _ _ hF
  obtain ⟨pc, lo, st, ⟨n, E, CF, SF⟩, q⟩ := S
  unfold hk_cl92 at h
  simp only at h hF
  split at h
  · rename_i k a b k' f z h1 h2 h3 h4
    split at h
    · rename_i q1
      simp only [Bool.and_eq_true] at q1
      obtain ⟨q1, q2, q3, q4, q5⟩ := q1
      cases h
      obtain ⟨w, f0, z0, w1, ea, eb, e2, e3, g⟩ := cl_go hF h1 h2 h3 h4 q1 q2 q3
      rw [bv_eq_ok q4, ea] at e2
      cases e2
      rw [← bv_eq_ok q5, ev_off eb] at e3
      cases e3
      exact one_of (hs_add hF ⟨[], rfl, rfl, w, w1, g⟩)
    · cases h
      exact one_of hF
  · cases h
    exact one_of hF
theorem hk_cl93_ok : HKP T2 FPX cy hk_cl93 := by
  intro S L h I ks wp lv vs ha _ _ hF
  obtain ⟨pc, lo, st, ⟨n, E, CF, SF⟩, q⟩ := S
  unfold hk_cl93 at h
  simp only at h hF
  split at h
  · rename_i k a b k' f z h1 h2 h3 h4
    split at h
    · rename_i q1
      simp only [Bool.and_eq_true] at q1
      obtain ⟨q1, q2, q3, q4, q5⟩ := q1
      cases h
      obtain ⟨w, f0, z0, w1, ea, eb, e2, e3, g⟩ := cl_go hF h1 h2 h3 h4 q1 q2 q3
      obtain ⟨f9, i0, u1, u2, u3⟩ := fact100 hF (f_sin_ok q4)
      rw [e2] at u1
      cases u1
      have u2 : (1 : Int) = i0 := Option.some.inj u2
      subst u2
      rw [ea] at u3
      have u3 := Option.some.inj u3
      rw [← bv_eq_ok q5, ev_off eb] at e3
      cases e3
      refine one_of (hs_add hF ⟨[], rfl, rfl, w, w1, fun j hj ht => ?_⟩)
      obtain ⟨qh, g1, g2⟩ := g (j + 1) (by omega) (by omega)
      refine ⟨qh, ?_, g2⟩
      rw [u3, show ((f0 + 1) % 9 + (j : Int)) % 9 = (f0 + ((j + 1 : Nat) : Int)) % 9 by omega]
      exact g1
    · cases h
      exact one_of hF
  · cases h
    exact one_of hF
end HKI
