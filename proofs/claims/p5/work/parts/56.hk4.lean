/-! hooks: the bytes that were told -/
/-- the two tapes: row and fact -/
def byK (κ id : Nat) : Prop := (κ = 2 ∧ id = 3) ∨ (κ = 26 ∧ id = 5)
section HK4
variable {T : TBt} {cy : Nat → ClassId} {I : IN} {ks : List Nat} {wp : va_W} {F : FS} {κ id : Nat}
theorem by_in {cu : CUt} {zs : List Int} (hk : byK κ id) (h : FPX id cu zs) : ∃ n, zs = [n] ∧ ∀ j : Nat, (j : Int) < n → 0 ≤ cint cu κ j ∧ cint cu κ j ≤ 7 := by
  rcases hk with ⟨rfl, rfl⟩ | ⟨rfl, rfl⟩
  · exact h
  · exact h
theorem by_of {cu : CUt} {n : Int} (hk : byK κ id) (h : ∀ j : Nat, (j : Int) < n → 0 ≤ cint cu κ j ∧ cint cu κ j ≤ 7) : FPX id cu [n] := by
  rcases hk with ⟨rfl, rfl⟩ | ⟨rfl, rfl⟩
  · exact ⟨n, rfl, h⟩
  · exact ⟨n, rfl, h⟩
/-- a fact of one argument -/
theorem sf_one {cu : CUt} {m : BV} (hk : byK κ id) (h : hsf FPX I cu (id, [m])) : ∃ n, f_ev I.1 m = some n ∧ ∀ j : Nat, (j : Int) < n → 0 ≤ cint cu κ j ∧ cint cu κ j ≤ 7 := by
  obtain ⟨zs, z1, z2⟩ := h
  obtain ⟨n, rfl, h9⟩ := by_in hk z2
  simp only [f_evs] at z1
  split at z1
  · rename_i w ws w1 w2
    cases w2
    simp only [Option.some.injEq, List.cons.injEq, and_true] at z1
    subst z1
    exact ⟨_, w1, h9⟩
  · cases z1
theorem sf_mk {cu : CUt} {m : BV} {n : Int} (hk : byK κ id) (hm : f_ev I.1 m = some n) (h : ∀ j : Nat, (j : Int) < n → 0 ≤ cint cu κ j ∧ cint cu κ j ≤ 7) : hsf FPX I cu (id, [m]) := ⟨[n], by simp only [f_evs, hm], by_of hk h⟩
theorem h_small_ok {m : BV} (hF : HS T FPX cy I ks wp F) (h : h_small F.2.1 F.2.2.1 κ m = true) : ∃ z : Nat, f_ev I.1 m = some (z : Int) ∧ 0 ≤ cint (c_cu ks wp) κ z ∧ cint (c_cu ks wp) κ z ≤ 7 := by
  unfold h_small at h
  cases hc : f_cf F.2.2.1 κ none m with
  | none => rw [hc] at h; cases h
  | some a =>
    rw [hc] at h
    simp only [h_in] at h
    split at h
    · rename_i l9 h9 hiv
      simp only [Bool.and_eq_true, decide_eq_true_eq] at h
      obtain ⟨z', g1, g2, g3⟩ := hcf_cint hF (f_cf_in hc) hiv
      exact ⟨z', g1, by omega, by omega⟩
    · cases h
theorem h_o7_ok {n : Nat} {E : EB} {CF : List CFt} {SF : List SFt} (hk : byK κ id) (hF : HS T FPX cy I ks wp (n, E, CF, SF)) : ∀ {L : List SFt}, (∀ f ∈ L, hsf FPX I (c_cu ks wp) f) → ∀ f ∈ h_o7 κ id E CF L, hsf FPX I (c_cu ks wp) f := by
  intro L
  induction L with
  | nil => intro _ f hf; cases hf
  | cons g r ih =>
    intro hL f hf
    have ihr := ih (fun f9 h9 => hL f9 (List.mem_cons_of_mem _ h9))
    simp only [h_o7] at hf
    split at hf
    · rename_i m hm
      split at hf
      · rename_i q
        simp only [Bool.and_eq_true] at q
        rcases List.mem_cons.mp hf with rfl | hf
        · have hg := hL g List.mem_cons_self
          have e1 : g = (id, [m]) := by
            rw [← Nat.eq_of_beq_eq_true q.1, ← hm]
          rw [e1] at hg
          obtain ⟨w, w1, w2⟩ := sf_one hk hg
          obtain ⟨z, z1, z2, z3⟩ := h_small_ok hF q.2
          rw [w1] at z1
          cases z1
          by_cases h2 : h_small E CF κ (f_off m 1) = true
          · rw [if_pos h2]
            obtain ⟨y, y1, y2, y3⟩ := h_small_ok hF h2
            rw [ev_off w1] at y1
            have y4 := Option.some.inj y1
            refine sf_mk hk (ev_off w1) (fun j hj => ?_)
            rcases (show (j : Int) < z ∨ j = z ∨ j = y by omega) with h | rfl | rfl
            · exact w2 j h
            · exact ⟨z2, z3⟩
            · exact ⟨y2, y3⟩
          · rw [if_neg h2]
            refine sf_mk hk (ev_off w1) (fun j hj => ?_)
            rcases (show (j : Int) < z ∨ j = z by omega) with h | rfl
            · exact w2 j h
            · exact ⟨z2, z3⟩
        · exact ihr f hf
      · exact ihr f hf
    · exact ihr f hf
theorem hk_o7_ok (hk : byK κ id) : HKP T FPX cy (hk_o7 κ id) := by
  intro S L h I ks wp lv vs _ _ _ hF
  obtain ⟨pc, lo, st, ⟨n, E, CF, SF⟩, q⟩ := S
  unfold hk_o7 at h
  simp only at h hF
  cases h
  have h0 : ∀ f ∈ (id, [bI 0]) :: SF, hsf FPX I (c_cu ks wp) f := by
    intro f hf
    rcases List.mem_cons.mp hf with rfl | hf
    · exact sf_mk (n := 0) hk rfl (fun j hj => by omega)
    · exact hF.2.2.2 f hf
  refine ⟨_, List.mem_cons_self, I, hxt.rf, rfl, hF.1, hF.2.1, hF.2.2.1, fun f hf => ?_⟩
  rcases List.mem_append.mp hf with hf | hf
  · exact h_o7_ok hk hF h0 f hf
  · exact h0 f hf
theorem any_one {SF : List SFt} {p : BV → Bool} (h : (SF.any (fun f => match f.2 with | [m] => Nat.beq f.1 id && p m | _ => false)) = true) : ∃ m, (id, [m]) ∈ SF ∧ p m = true := by
  obtain ⟨⟨i, as⟩, m1, m2⟩ := List.any_eq_true.mp h
  simp only at m2
  split at m2
  · rename_i m
    simp only [Bool.and_eq_true] at m2
    exact ⟨m, by rw [← Nat.eq_of_beq_eq_true m2.1]; exact m1, m2.2⟩
  · cases m2
theorem ev_of_isI {n : Nat} {E : EB} {a : BV} {v : Value} (h : hv I a v) (ha : f_isI a = true) : ∃ z, f_ev I.1 a = some z := by
  obtain ⟨x, -, h1⟩ := (hv_ev_iff ha).mp h
  exact ⟨_, h1⟩
theorem hk_o7e_ok {k : Nat} {d : Int} (hk : byK κ id) {κ' : Nat} : HKP T FPX cy (hk_o7e id κ' k d) := by
  intro S L h I ks wp lv vs _ _ _ hF
  obtain ⟨pc, lo, st, ⟨n, E, CF, SF⟩, q⟩ := S
  unfold hk_o7e at h
  simp only at h hF
  have same : ∃ F ∈ [((n, E, CF, SF) : FS)], ∃ J : IN, hxt I J ∧ J.2 = I.2 ∧ HS T FPX cy J ks wp F := ⟨_, List.mem_cons_self, I, hxt.rf, rfl, hF⟩
  split at h
  · rename_i L9 hL
    split at h
    · rename_i q
      simp only [Bool.and_eq_true] at q
      obtain ⟨q1, q2⟩ := q
      obtain ⟨m, m1, m2⟩ := any_one q2
      cases h
      obtain ⟨i, q9, e, z, x, g1, g2, g3, g4, g5, g6⟩ := hF.2.2.1 _ (f_cf_in hL)
      simp only at g6
      obtain ⟨y, rfl, hy⟩ := (hv_ev_iff q1).mp g6
      obtain ⟨w, w1, w2⟩ := sf_one hk (hF.2.2.2 _ m1)
      have hle := g_leq_ok FPX0 hF.2.1 hF.2.2.2 6 m2 (ev_off hy) w1
      exact ⟨_, List.mem_cons_self, I, hxt.rf, rfl, hF.sf (sf_mk hk (ev_off hy) (fun j hj => w2 j (by omega)))⟩
    · cases h; exact same
  · cases h; exact same
theorem hk_o7a_ok {li t9 : Nat} {a0 b0 : Int} (hk : byK κ id) (hu : κ < T.2.1) (hT : T.1[κ]? = some (.inl (t9, 940, [(940, .inl (a0, b0))]))) : HKP T FPX cy (hk_o7a κ id li) := by
  intro S L h I ks wp lv vs _ hlo _ hF
  obtain ⟨pc, lo, st, ⟨n, E, CF, SF⟩, q⟩ := S
  unfold hk_o7a at h
  simp only at h hF hlo
  split at h
  · rename_i i n9 E9 CF9 SF9 hi heq
    cases heq
    split at h
    · rename_i l h9 hiv
      split at h
      · rename_i q
        simp only [Bool.and_eq_true, decide_eq_true_eq] at q
        obtain ⟨q1, q2, -, q4⟩ := q
        obtain ⟨m, m1, m2⟩ := any_one q4
        cases h
        obtain ⟨k9, v, e1, g1⟩ := f_find_ok hlo hi
        obtain ⟨y, rfl, y1, y2⟩ := hv_int hF.2.1 g1 hiv
        have hy := hv_ev g1
        obtain ⟨w, w1, w2⟩ := sf_one hk (hF.2.2.2 _ m1)
        have hle := g_leq_ok FPX0 hF.2.1 hF.2.2.2 6 m2 (ev_off hy) w1
        obtain ⟨z, hz⟩ : ∃ z : Nat, y.toInt = (z : Int) := ⟨y.toInt.toNat, by omega⟩
        obtain ⟨i1, p1, c1, x1, s1, s2, s3, s4, -⟩ := cell_int hF hu hT (show z < 940 by omega)
        have hb := w2 z (by omega)
        rw [s4] at hb
        have hn : I.1.length = n := hF.2.1.1
        let J : IN := (I.1 ++ [x1.toInt], I.2)
        have hIJ : hxt I J := hxt_app _
        have hF' := hF.xt hIJ rfl (henv_cons hF.2.1 hb.1 hb.2)
        have hiz : f_ev J.1 i = some (z : Int) := by rw [← hz]; exact ev_xt hIJ hy
        refine ⟨_, List.mem_cons_self, J, hIJ, rfl, hF'.1, hF'.2.1, fun f hf => ?_, hF'.2.2.2⟩
        rcases List.mem_cons.mp hf with rfl | hf
        · exact ⟨i1, p1, c1, z, .int x1, s1, s2, hu, hiz, s3, x1, x1.toInt, rfl, at_app (k := 0) hn rfl, by omega⟩
        · exact hF'.2.2.1 f hf
      · cases h
        exact ⟨_, List.mem_cons_self, I, hxt.rf, rfl, hF⟩
    · cases h
  · cases h
end HK4
