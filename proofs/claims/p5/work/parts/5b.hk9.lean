/-! hooks of the reference: sums, a copied row, a row of codes read again -/
/-- how far two numbers of one name are apart -/
def f_dif (a b : BV) : Option Int := match a, b with
  | .inl x, .inl y => some (x - y)
  | .inr (.inl (k, c)), .inr (.inl (k', c')) => if Nat.beq k k' = true then some (c - c') else none
  | _, _ => none
def h_lu (c t o : BV) (w : Int) (L : List SFt) : Bool := match L with
  | [] => false
  | f :: r => (match f.1, f.2 with
    | 72, [c0, t0, o0, .inl w0] => (match f_dif c c0, f_dif t t0, f_dif o o0 with
      | some x, some y, some z => decide (x + y + (w - w0) ≤ 2 * z) || h_lu c t o w r
      | _, _, _ => h_lu c t o w r)
    | _, _ => h_lu c t o w r)
def hk_linup (κ kc kt ko kw : Nat) : HKt := fun S => match S.2.2.2.1 with
  | (n, E, CF, SF) => (match f_cf CF κ none (bI (kc : Int)), f_cf CF κ none (bI (kt : Int)), f_cf CF κ none (bI (ko : Int)), f_cf CF κ none (bI (kw : Int)) with
    | some c, some t, some o, some w => (match f_iv E w with
      | some (l, h) => if (decide (l = h) && h_lu c t o l SF) = true then some [(n, E, CF, (72, [c, t, o, bI l]) :: SF)] else some [(n, E, CF, SF)]
      | none => some [(n, E, CF, SF)])
    | _, _, _, _ => some [(n, E, CF, SF)])
/-- one more copied -/
def hk_cp1 (li : Nat) : HKt := fun S => match f_find S.2.1 li, S.2.2.2.1 with
  | some i, (n, E, CF, SF) => (match f_cf CF 29 none i, f_cf CF 27 none (f_off i 89) with
    | some a, some b => if (f_isI a && (bv_eq a b && f_sin SF 75 [i, f_off i 89])) = true then some [(n, E, CF, (75, [f_off i 1, f_off i 90]) :: SF)] else some [(n, E, CF, SF)]
    | _, _ => some [(n, E, CF, SF)])
  | _, _ => none
/-- all copied -/
def h_cpe (E : EB) (SF : List SFt) (c i : BV) (L : List SFt) : Bool := match L with
  | [] => false
  | f :: r => (match f.1, f.2 with
    | 70, [a, z, _] => (bv_eq a c && g_leq E SF 6 z i) || h_cpe E SF c i r
    | _, _ => h_cpe E SF c i r)
def hk_cpe (li κ k : Nat) : HKt := fun S => match f_find S.2.1 li, S.2.2.2.1 with
  | some i, (n, E, CF, SF) => (match f_cf CF κ none (bI (k : Int)), f_cf CF 27 none (bI 88) with
    | some c, some s => if (f_isI c && (bv_eq s c && (h_in E (some c) 0 60 && (f_sin SF 75 [i, f_off i 89] && h_cpe E SF c i SF)))) = true then some [(n, E, CF, (74, []) :: SF)] else some [(n, E, CF, SF)]
    | _, _ => some [(n, E, CF, SF)])
  | _, _ => none
section HK9
variable {T : TBt} {cy : Nat → ClassId} {I : IN} {ks : List Nat} {wp : va_W} {F : FS}
theorem f_dif_ok {ν : List Int} {a b : BV} {d y : Int} (h : f_dif a b = some d) (hb : f_ev ν b = some y) : f_ev ν a = some (y + d) := by
  unfold f_dif at h
  split at h
  · cases h
    simp only [f_ev, Option.some.injEq] at hb ⊢
    omega
  · rename_i k c k' c'
    split at h
    · rename_i q
      cases h
      have := Nat.eq_of_beq_eq_true q
      subst this
      simp only [f_ev] at hb ⊢
      cases hk : ν[k]? with
      | none => rw [hk] at hb; cases hb
      | some x =>
        rw [hk] at hb
        simp only [Option.some.injEq] at hb ⊢
        omega
    · cases h
  · cases h
theorem h_lu_ok {cu : CUt} {c t o : BV} {w : Int} : ∀ {L : List SFt}, (∀ f ∈ L, hsf FPX I cu f) → h_lu c t o w L = true → ∃ x y z, f_ev I.1 c = some x ∧ f_ev I.1 t = some y ∧ f_ev I.1 o = some z ∧ x + y + w ≤ 2 * z := by
  intro L
  induction L with
  | nil => intro _ h; cases h
  | cons f r ih =>
    obtain ⟨id, as⟩ := f
    intro hL h
    have ihr := ih (fun f9 h9 => hL f9 (List.mem_cons_of_mem _ h9))
    unfold h_lu at h
    simp only at h
    split at h
    · rename_i c0 t0 o0 w0
      split at h
      · rename_i x y z hx hy hz
        rcases Bool.or_eq_true_iff.mp h with h | h
        · rw [decide_eq_true_eq] at h
          obtain ⟨a, b, e, g1, g2, g3, g4⟩ := sf_lin (hL _ List.mem_cons_self)
          exact ⟨_, _, _, f_dif_ok hx g1, f_dif_ok hy g2, f_dif_ok hz g3, by omega⟩
        · exact ihr h
      · exact ihr h
    · exact ihr h
theorem hk_linup_ok {κ kc kt ko kw : Nat} : HKP T FPX cy (hk_linup κ kc kt ko kw) := by
  intro S L h I ks wp lv vs _ _ _ hF
  obtain ⟨pc, lo, st, ⟨n, E, CF, SF⟩, q⟩ := S
  unfold hk_linup at h
  simp only at h hF
  have same : ∃ F ∈ [((n, E, CF, SF) : FS)], ∃ J : IN, hxt I J ∧ J.2 = I.2 ∧ HS T FPX cy J ks wp F := ⟨_, List.mem_cons_self, I, hxt.rf, rfl, hF⟩
  split at h
  · split at h
    · split at h
      · rename_i q
        simp only [Bool.and_eq_true] at q
        cases h
        obtain ⟨x, y, z, g1, g2, g3, g4⟩ := h_lu_ok hF.2.2.2 q.2
        exact ⟨_, List.mem_cons_self, I, hxt.rf, rfl, hF.sf ⟨[x, y, z, _], by simp only [f_evs, g1, g2, g3]; rfl, x, y, z, _, rfl, g4⟩⟩
      · cases h; exact same
    · cases h; exact same
  · cases h; exact same
/-- a fact of a cell: the cell's int -/
theorem hcf_int {κ : Nat} {p v : BV} (hF : HS T FPX cy I ks wp F) (hm : f_cf F.2.2.1 κ none p = some v) (hi : f_isI v = true) : ∃ z : Nat, f_ev I.1 p = some (z : Int) ∧ f_ev I.1 v = some (cint (c_cu ks wp) κ z) := by
  obtain ⟨i, q, e, z, x, h1, h2, h3, h4, h5, h6⟩ := hF.2.2.1 _ (f_cf_in hm)
  simp only at h1 h3 h4 h6
  obtain ⟨y, rfl, hy⟩ := (hv_ev_iff hi).mp h6
  refine ⟨z, h4, ?_⟩
  unfold cint
  rw [c_cu_one hF.1 h3 h1 h2, h5]
  exact hy
theorem sf_cp {cu : CUt} {i : BV} (h : hsf FPX I cu (75, [i, f_off i 89])) : ∃ j : Nat, f_ev I.1 i = some (j : Int) ∧ ∀ m : Nat, m < j → cint cu 27 (89 + m) = cint cu 29 m := by
  obtain ⟨zs, z1, j, rfl, h9⟩ := h
  exact ⟨j, (evs_two z1).1, h9⟩
theorem hk_cp1_ok {li : Nat} : HKP T FPX cy (hk_cp1 li) := by
  intro S L h I ks wp lv vs _ hlo _ hF
  obtain ⟨pc, lo, st, ⟨n, E, CF, SF⟩, q⟩ := S
  unfold hk_cp1 at h
  simp only at h hF hlo
  have same : ∃ F ∈ [((n, E, CF, SF) : FS)], ∃ J : IN, hxt I J ∧ J.2 = I.2 ∧ HS T FPX cy J ks wp F := ⟨_, List.mem_cons_self, I, hxt.rf, rfl, hF⟩
  split at h
  · rename_i i n9 E9 CF9 SF9 hi heq
    cases heq
    split at h
    · rename_i a b ha hb
      split at h
      · rename_i q
        simp only [Bool.and_eq_true] at q
        obtain ⟨q1, q2, q3⟩ := q
        cases h
        have e1 := bv_eq_ok q2
        subst e1
        obtain ⟨j, j1, j2⟩ := sf_cp (hF.2.2.2 _ (f_sin_ok q3))
        obtain ⟨z, z1, z2⟩ := hcf_int hF ha q1
        obtain ⟨y, y1, y2⟩ := hcf_int hF hb q1
        rw [j1] at z1
        have e2 : z = j := by have := Option.some.inj z1; omega
        subst e2
        rw [ev_off j1] at y1
        have e3 : y = 89 + z := by have := Option.some.inj y1; omega
        subst e3
        rw [z2] at y2
        have e4 := Option.some.inj y2
        refine ⟨_, List.mem_cons_self, I, hxt.rf, rfl, hF.sf ⟨[(z : Int) + 1, (z : Int) + 90], by simp only [f_evs, ev_off j1], z + 1, ?_, fun m hm => ?_⟩⟩
        · rw [show ((z + 1 : Nat) : Int) = (z : Int) + 1 by omega, show (z : Int) + 1 + 89 = (z : Int) + 90 by omega]
        · rcases (show m < z ∨ m = z by omega) with h | rfl
          · exact j2 m h
          · exact e4.symm
      · cases h; exact same
    · cases h; exact same
  · cases h
theorem h_cpe_ok {n : Nat} {E : EB} {SF : List SFt} {cu : CUt} {c i : BV} {j : Int} (hE : henv I.1 n E) (hS : ∀ f ∈ SF, hsf FPX I cu f) (hj : f_ev I.1 i = some j) : ∀ {L : List SFt}, (∀ f ∈ L, hsf FPX I cu f) → h_cpe E SF c i L = true → ∃ (k : Nat) (d : Int), f_ev I.1 c = some (k : Int) ∧ 3 * (k : Int) ≤ j ∧ rdep (fun j => cint cu 29 (3 * j)) k = some d := by
  intro L
  induction L with
  | nil => intro _ h; cases h
  | cons f r ih =>
    obtain ⟨id, as⟩ := f
    intro hL h
    have ihr := ih (fun f9 h9 => hL f9 (List.mem_cons_of_mem _ h9))
    unfold h_cpe at h
    simp only at h
    split at h
    · rename_i a z D
      rcases Bool.or_eq_true_iff.mp h with h | h
      · simp only [Bool.and_eq_true] at h
        obtain ⟨zs, z1, k, d, rfl, hd⟩ := hL _ List.mem_cons_self
        obtain ⟨k1, k2, k3⟩ := evs_three z1
        rw [bv_eq_ok h.1] at k1
        exact ⟨k, d, k1, g_leq_ok FPX0 hE hS 6 h.2 k2 hj, hd⟩
      · exact ihr h
    · exact ihr h
theorem hk_cpe_ok {li κ c : Nat} : HKP T FPX cy (hk_cpe li κ c) := by
  intro S L h I ks wp lv vs _ hlo _ hF
  obtain ⟨pc, lo, st, ⟨n, E, CF, SF⟩, q⟩ := S
  unfold hk_cpe at h
  simp only at h hF hlo
  have same : ∃ F ∈ [((n, E, CF, SF) : FS)], ∃ J : IN, hxt I J ∧ J.2 = I.2 ∧ HS T FPX cy J ks wp F := ⟨_, List.mem_cons_self, I, hxt.rf, rfl, hF⟩
  split at h
  · rename_i i n9 E9 CF9 SF9 hi heq
    cases heq
    split at h
    · rename_i c9 s hc hs
      split at h
      · rename_i q
        simp only [Bool.and_eq_true] at q
        obtain ⟨q1, q2, q3, q4, q5⟩ := q
        cases h
        have e1 := bv_eq_ok q2
        subst e1
        obtain ⟨j, j1, j2⟩ := sf_cp (hF.2.2.2 _ (f_sin_ok q4))
        obtain ⟨k, d, k1, k2, k3⟩ := h_cpe_ok hF.2.1 hF.2.2.2 j1 hF.2.2.2 q5
        obtain ⟨y, y1, y2, y3⟩ := cell_ev hF hc q1 q3
        obtain ⟨z, z1, z2⟩ := hcf_int hF hs q1
        have e2 : z = 88 := by
          have : (88 : Int) = (z : Int) := Option.some.inj z1
          omega
        subst e2
        rw [k1] at z2 y1
        have e3 := Option.some.inj z2
        have e4 := Option.some.inj y1
        have e5 : (cint (c_cu ks wp) 27 88).toNat = k := by omega
        refine ⟨_, List.mem_cons_self, I, hxt.rf, rfl, hF.sf ⟨[], rfl, rfl, d, by omega, ?_⟩⟩
        rw [e5, ← k3]
        exact rdep_congr (fun m hm => j2 (3 * m) (by omega))
      · cases h; exact same
    · cases h; exact same
  · cases h
end HK9
