/-! hooks of the reference: rows that are cleared or copied whole, and what is known of them then -/
def fs_36 : List SFt := [(36, [bI 0])]
def fs_37 : List SFt := [(37, [bI 0])]
def fs_38 : List SFt := [(38, [bI 0]), (39, [bI 0, bI 269])]
def h_same (CF : List CFt) (κ : Nat) (p a : BV) : Bool := match f_cf CF κ none p with
  | some b => bv_eq a b
  | none => false
def hk_clr : HKt := fun S => match f_find S.2.1 1, S.2.2.2.1 with
  | some i, (n, E, CF, SF) => (match f_cf CF 28 none i with
    | some a => if (bv_eq a (bI 0) && f_sin SF 36 [i]) = true then some [(n, E, CF, (36, [f_off i 1]) :: SF)] else some [(n, E, CF, SF)]
    | none => some [(n, E, CF, SF)])
  | none, F => some [F]
def hk_clre : HKt := fun S => match f_find S.2.1 1, S.2.2.2.1 with
  | some i, (n, E, CF, SF) => if (h_in E (some i) 4 iMax && f_sin SF 36 [i]) = true then some [(n, E, CF, (33, []) :: SF)] else some [(n, E, CF, SF)]
  | none, F => some [F]
def h_ge1 (E : EB) (c : BV) (SF : List SFt) : Bool := SF.any (fun f => match f.1, f.2 with
  | 0, [a, b] => bv_eq b c && h_in E (some a) 1 iMax
  | _, _ => false)
def hk_33 : HKt := fun S => match S.2.2.2.1 with
  | (n, E, CF, SF) => (match f_cf CF 28 none (bI 0) with
    | some c => if (f_isI c && (h_in E (some c) 1 iMax || h_ge1 E c SF)) = true then some [(n, E, CF, (33, []) :: SF)] else some [(n, E, CF, SF)]
    | none => some [(n, E, CF, SF)])
def hk_cty : HKt := fun S => match f_find S.2.1 1, S.2.2.2.1 with
  | some i, (n, E, CF, SF) => (match f_cf CF 27 none i with
    | some a => if (f_sin SF 37 [i] && ((h_in E (some i) 43 iMax && bv_eq a (bI 0)) || (h_in E (some i) 0 42 && (f_isI a && h_same CF 28 i a)))) = true then some [(n, E, CF, (37, [f_off i 1]) :: SF)] else some [(n, E, CF, SF)]
    | none => some [(n, E, CF, SF)])
  | none, F => some [F]
def hk_ctye : HKt := fun S => match f_find S.2.1 1, S.2.2.2.1 with
  | some i, (n, E, CF, SF) => if (h_in E (some i) 89 iMax && (f_sin SF 37 [i] && f_sin SF 33 [])) = true then some [(n, E, CF, (30, []) :: (74, []) :: SF)] else some [(n, E, CF, SF)]
  | none, F => some [F]
def hk_im1 : HKt := fun S => match f_find S.2.1 2, S.2.2.2.1 with
  | some i, (n, E, CF, SF) => (match f_cf CF 27 none i with
    | some a => if (f_isI a && (f_sin SF 38 [i] && h_same CF 41 i a)) = true then some [(n, E, CF, (38, [f_off i 1]) :: SF)]
      else if (f_isI a && (f_sin SF 39 [i, f_off i 269] && h_same CF 41 (f_off i 269) a)) = true then some [(n, E, CF, (39, [f_off i 1, f_off i 270]) :: SF)] else some [(n, E, CF, SF)]
    | none => some [(n, E, CF, SF)])
  | none, F => some [F]
def hk_ime : HKt := fun S => match f_find S.2.1 2, S.2.2.2.1 with
  | some i, (n, E, CF, SF) => if (h_in E (some i) 269 iMax && (f_sin SF 30 [] && f_sin SF 74 [])) = true then
      (if f_sin SF 38 [i] = true then some [(n, E, CF, (31, []) :: (34, []) :: SF)] else if f_sin SF 39 [i, f_off i 269] = true then some [(n, E, CF, (32, []) :: (35, []) :: SF)] else some [(n, E, CF, SF)]) else some [(n, E, CF, SF)]
  | none, F => some [F]
def hk_res : HKt := fun S => match f_find S.2.1 2, S.2.2.2.1 with
  | some i, (n, E, CF, SF) => if h_in E (some i) 269 iMax = true then
      (if (f_sin SF 38 [i] && (f_sin SF 31 [] && f_sin SF 34 [])) = true then some [(n, E, CF, (30, []) :: (74, []) :: SF)] else if (f_sin SF 39 [i, f_off i 269] && (f_sin SF 32 [] && f_sin SF 35 [])) = true then some [(n, E, CF, (30, []) :: (74, []) :: SF)] else some [(n, E, CF, SF)]) else some [(n, E, CF, SF)]
  | none, F => some [F]
section HKD
variable {T : TBt} {cy : Nat → ClassId} {I : IN} {ks : List Nat} {wp : va_W} {F : FS} {cu : CUt} {n : Nat} {E : EB} {SF : List SFt}
theorem fs_36_ok (I : IN) (cu : CUt) : ∀ f ∈ fs_36, hsf FPX I cu f := by
  intro f hf
  rcases List.mem_cons.mp hf with rfl | hf
  · exact ⟨[0], rfl, 0, rfl, fun j hj => by omega⟩
  · cases hf
theorem fs_37_ok (I : IN) (cu : CUt) : ∀ f ∈ fs_37, hsf FPX I cu f := by
  intro f hf
  rcases List.mem_cons.mp hf with rfl | hf
  · exact ⟨[0], rfl, 0, rfl, fun j hj => by omega⟩
  · cases hf
theorem fs_38_ok (I : IN) (cu : CUt) : ∀ f ∈ fs_38, hsf FPX I cu f := by
  intro f hf
  rcases List.mem_cons.mp hf with rfl | hf
  · exact ⟨[0], rfl, 0, rfl, fun j hj => by omega⟩
  · rcases List.mem_cons.mp hf with rfl | hf
    · exact ⟨[0, 269], rfl, 0, rfl, fun j hj => by omega⟩
    · cases hf
theorem evs_one {ν : List Int} {a : BV} {x : Int} (h : f_evs ν [a] = some [x]) : f_ev ν a = some x := by
  simp only [f_evs] at h
  cases h1 : f_ev ν a with
  | none => rw [h1] at h; cases h
  | some a' =>
    rw [h1] at h
    simp only [Option.some.injEq, List.cons.injEq, and_true] at h
    rw [h]
/-- a cell's int, by a place that is known -/
theorem cell_at {κ z : Nat} {p v : BV} (hF : HS T FPX cy I ks wp F) (hz : f_ev I.1 p = some (z : Int)) (hm : f_cf F.2.2.1 κ none p = some v) (hi : f_isI v = true) : f_ev I.1 v = some (cint (c_cu ks wp) κ z) := by
  obtain ⟨y, y1, y2⟩ := hcf_int hF hm hi
  rw [hz] at y1
  have e : z = y := by have := Option.some.inj y1; omega
  rw [e]; exact y2
theorem hk_clr_ok : HKP T FPX cy hk_clr := by
  intro S L h I ks wp lv vs _ hlo _ hF
  obtain ⟨pc, lo, st, ⟨n, E, CF, SF⟩, q⟩ := S
  unfold hk_clr at h
  simp only at h hF hlo
  have same : ∃ F ∈ [((n, E, CF, SF) : FS)], ∃ J : IN, hxt I J ∧ J.2 = I.2 ∧ HS T FPX cy J ks wp F := ⟨_, List.mem_cons_self, I, hxt.rf, rfl, hF⟩
  split at h
  · rename_i i n9 E9 CF9 SF9 hi9 heq
    cases heq
    split at h
    · rename_i a ha
      split at h
      · rename_i q
        simp only [Bool.and_eq_true] at q
        have e0 := bv_eq_ok q.1
        subst e0
        cases h
        obtain ⟨zs, z1, k, rfl, h9⟩ := hF.2.2.2 _ (f_sin_ok q.2)
        have g1 := evs_one z1
        have c1 := cell_at hF g1 ha rfl
        have c1 : (0 : Int) = cint (c_cu ks wp) 28 k := Option.some.inj c1
        refine ⟨_, List.mem_cons_self, I, hxt.rf, rfl, hF.sf ⟨[(k : Int) + 1], by simp only [f_evs, ev_off g1], k + 1, by rw [show ((k + 1 : Nat) : Int) = (k : Int) + 1 by omega], fun j hj => ?_⟩⟩
        rcases (show j < k ∨ j = k by omega) with hj | rfl
        · exact h9 j hj
        · exact c1.symm
      · cases h; exact same
    · cases h; exact same
  · cases h; exact same
theorem hk_clre_ok : HKP T FPX cy hk_clre := by
  intro S L h I ks wp lv vs _ hlo _ hF
  obtain ⟨pc, lo, st, ⟨n, E, CF, SF⟩, q⟩ := S
  unfold hk_clre at h
  simp only at h hF hlo
  have same : ∃ F ∈ [((n, E, CF, SF) : FS)], ∃ J : IN, hxt I J ∧ J.2 = I.2 ∧ HS T FPX cy J ks wp F := ⟨_, List.mem_cons_self, I, hxt.rf, rfl, hF⟩
  split at h
  · rename_i i n9 E9 CF9 SF9 hi9 heq
    cases heq
    split at h
    · rename_i q
      simp only [Bool.and_eq_true] at q
      cases h
      obtain ⟨zs, z1, k, rfl, h9⟩ := hF.2.2.2 _ (f_sin_ok q.2)
      have b := in_ev hF.2.1 q.1 (evs_one z1)
      refine ⟨_, List.mem_cons_self, I, hxt.rf, rfl, hF.sf ⟨[], rfl, rfl, Or.inl ?_⟩⟩
      rw [h9 3 (by omega)]
      omega
    · cases h; exact same
  · cases h; exact same
theorem hk_33_ok : HKP T FPX cy hk_33 := by
  intro S L h I ks wp lv vs _ hlo _ hF
  obtain ⟨pc, lo, st, ⟨n, E, CF, SF⟩, q⟩ := S
  unfold hk_33 at h
  simp only at h hF hlo
  have same : ∃ F ∈ [((n, E, CF, SF) : FS)], ∃ J : IN, hxt I J ∧ J.2 = I.2 ∧ HS T FPX cy J ks wp F := ⟨_, List.mem_cons_self, I, hxt.rf, rfl, hF⟩
  split at h
  · rename_i c hc
    split at h
    · rename_i q
      simp only [Bool.and_eq_true, Bool.or_eq_true] at q
      cases h
      have c1 := cell_at (z := 0) hF (by rfl) hc q.1
      refine ⟨_, List.mem_cons_self, I, hxt.rf, rfl, hF.sf ⟨[], rfl, rfl, Or.inr ?_⟩⟩
      rcases q.2 with q2 | q2
      · exact (in_ev hF.2.1 q2 c1).1
      · obtain ⟨⟨id, as⟩, m1, m2⟩ := List.any_eq_true.mp q2
        simp only at m2
        split at m2
        · rename_i a b
          simp only [Bool.and_eq_true] at m2
          have e0 := bv_eq_ok m2.1
          subst e0
          obtain ⟨x, y, g1, g2, g3⟩ := sf_le (x := a) (y := b) FPX0 (hF.2.2.2 _ m1) rfl rfl
          have g3 : x ≤ y := g3
          have g2 : f_ev I.1 b = some y := g2
          have g1 : f_ev I.1 a = some x := g1
          have b1 := in_ev hF.2.1 m2.2 g1
          rw [c1] at g2
          have := Option.some.inj g2
          omega
        · cases m2
    · cases h; exact same
  · cases h; exact same
theorem hk_cty_ok : HKP T FPX cy hk_cty := by
  intro S L h I ks wp lv vs _ hlo _ hF
  obtain ⟨pc, lo, st, ⟨n, E, CF, SF⟩, q⟩ := S
  unfold hk_cty at h
  simp only at h hF hlo
  have same : ∃ F ∈ [((n, E, CF, SF) : FS)], ∃ J : IN, hxt I J ∧ J.2 = I.2 ∧ HS T FPX cy J ks wp F := ⟨_, List.mem_cons_self, I, hxt.rf, rfl, hF⟩
  split at h
  · rename_i i n9 E9 CF9 SF9 hi9 heq
    cases heq
    split at h
    · rename_i a ha
      split at h
      · rename_i q
        simp only [Bool.and_eq_true, Bool.or_eq_true] at q
        obtain ⟨q1, q2⟩ := q
        cases h
        obtain ⟨zs, z1, k, rfl, h9⟩ := hF.2.2.2 _ (f_sin_ok q1)
        have g1 := evs_one z1
        have key : cint (c_cu ks wp) 27 k = (if k < 43 then cint (c_cu ks wp) 28 k else 0) := by
          rcases q2 with ⟨p1, p2⟩ | ⟨p1, p2, p3⟩
          · have e0 := bv_eq_ok p2
            subst e0
            have c1 : (0 : Int) = cint (c_cu ks wp) 27 k := Option.some.inj (cell_at hF g1 ha rfl)
            have b := in_ev hF.2.1 p1 g1
            rw [if_neg (by omega)]
            exact c1.symm
          · have b := in_ev hF.2.1 p1 g1
            rw [if_pos (by omega)]
            unfold h_same at p3
            split at p3
            · rename_i b9 hb9
              have e0 := bv_eq_ok p3
              subst e0
              have c1 := cell_at hF g1 ha p2
              have c2 := cell_at hF g1 hb9 p2
              rw [c1] at c2
              exact Option.some.inj c2
            · cases p3
        refine ⟨_, List.mem_cons_self, I, hxt.rf, rfl, hF.sf ⟨[(k : Int) + 1], by simp only [f_evs, ev_off g1], k + 1, by rw [show ((k + 1 : Nat) : Int) = (k : Int) + 1 by omega], fun j hj => ?_⟩⟩
        rcases (show j < k ∨ j = k by omega) with hj | rfl
        · exact h9 j hj
        · exact key
      · cases h; exact same
    · cases h; exact same
  · cases h; exact same
theorem hk_ctye_ok : HKP T FPX cy hk_ctye := by
  intro S L h I ks wp lv vs _ hlo _ hF
  obtain ⟨pc, lo, st, ⟨n, E, CF, SF⟩, q⟩ := S
  unfold hk_ctye at h
  simp only at h hF hlo
  have same : ∃ F ∈ [((n, E, CF, SF) : FS)], ∃ J : IN, hxt I J ∧ J.2 = I.2 ∧ HS T FPX cy J ks wp F := ⟨_, List.mem_cons_self, I, hxt.rf, rfl, hF⟩
  split at h
  · rename_i i n9 E9 CF9 SF9 hi9 heq
    cases heq
    split at h
    · rename_i q
      simp only [Bool.and_eq_true] at q
      obtain ⟨q1, q2, q3⟩ := q
      cases h
      obtain ⟨zs, z1, k, rfl, h9⟩ := hF.2.2.2 _ (f_sin_ok q2)
      have b := in_ev hF.2.1 q1 (evs_one z1)
      obtain ⟨zs3, z3, e3, h3⟩ := hF.2.2.2 _ (f_sin_ok q3)
      have c3 : cint (c_cu ks wp) 27 3 = cint (c_cu ks wp) 28 3 := by rw [h9 3 (by omega), if_pos (by omega)]
      have c0 : cint (c_cu ks wp) 27 0 = cint (c_cu ks wp) 28 0 := by rw [h9 0 (by omega), if_pos (by omega)]
      have c88 : cint (c_cu ks wp) 27 88 = 0 := by rw [h9 88 (by omega), if_neg (by omega)]
      refine ⟨_, List.mem_cons_self, I, hxt.rf, rfl, HS.sf (HS.sf hF ⟨[], rfl, rfl, 0, by rw [c88]; decide, by rw [c88]; rfl⟩) ⟨[], rfl, rfl, ?_⟩⟩
      rw [c3, c0]
      exact h3
    · cases h; exact same
  · cases h; exact same
theorem sf_38 {i : BV} (h : hsf FPX I cu (38, [i])) : ∃ k : Nat, f_ev I.1 i = some (k : Int) ∧ ∀ j : Nat, j < k → cint cu 27 j = cint cu 41 j := by
  obtain ⟨zs, z1, k, rfl, h9⟩ := h
  exact ⟨k, evs_one z1, h9⟩
theorem sf_39 {i : BV} (h : hsf FPX I cu (39, [i, f_off i 269])) : ∃ k : Nat, f_ev I.1 i = some (k : Int) ∧ ∀ j : Nat, j < k → cint cu 27 j = cint cu 41 (269 + j) := by
  obtain ⟨zs, z1, k, rfl, h9⟩ := h
  exact ⟨k, (evs_two z1).1, h9⟩
theorem hk_im1_ok : HKP T FPX cy hk_im1 := by
  intro S L h I ks wp lv vs _ hlo _ hF
  obtain ⟨pc, lo, st, ⟨n, E, CF, SF⟩, q⟩ := S
  unfold hk_im1 at h
  simp only at h hF hlo
  have same : ∃ F ∈ [((n, E, CF, SF) : FS)], ∃ J : IN, hxt I J ∧ J.2 = I.2 ∧ HS T FPX cy J ks wp F := ⟨_, List.mem_cons_self, I, hxt.rf, rfl, hF⟩
  split at h
  · rename_i i n9 E9 CF9 SF9 hi9 heq
    cases heq
    split at h
    · rename_i a ha
      split at h
      · rename_i q
        simp only [Bool.and_eq_true] at q
        obtain ⟨q1, q2, q3⟩ := q
        cases h
        obtain ⟨k, g1, h9⟩ := sf_38 (hF.2.2.2 _ (f_sin_ok q2))
        unfold h_same at q3
        split at q3
        · rename_i b9 hb9
          have e0 := bv_eq_ok q3
          subst e0
          have c1 := cell_at hF g1 ha q1
          have c2 := cell_at hF g1 hb9 q1
          rw [c1] at c2
          refine ⟨_, List.mem_cons_self, I, hxt.rf, rfl, hF.sf ⟨[(k : Int) + 1], by simp only [f_evs, ev_off g1], k + 1, by rw [show ((k + 1 : Nat) : Int) = (k : Int) + 1 by omega], fun j hj => ?_⟩⟩
          rcases (show j < k ∨ j = k by omega) with hj | rfl
          · exact h9 j hj
          · exact Option.some.inj c2
        · cases q3
      · split at h
        · rename_i q
          simp only [Bool.and_eq_true] at q
          obtain ⟨q1, q2, q3⟩ := q
          cases h
          obtain ⟨k, g1, h9⟩ := sf_39 (hF.2.2.2 _ (f_sin_ok q2))
          unfold h_same at q3
          split at q3
          · rename_i b9 hb9
            have e0 := bv_eq_ok q3
            subst e0
            have c1 := cell_at hF g1 ha q1
            have c2 := cell_at (z := 269 + k) hF (by rw [ev_off g1]; congr 1; omega) hb9 q1
            rw [c1] at c2
            refine ⟨_, List.mem_cons_self, I, hxt.rf, rfl, hF.sf ⟨[(k : Int) + 1, (k : Int) + 270], by simp only [f_evs, ev_off g1], k + 1, ?_, fun j hj => ?_⟩⟩
            · rw [show ((k + 1 : Nat) : Int) = (k : Int) + 1 by omega, show (k : Int) + 1 + 269 = (k : Int) + 270 by omega]
            · rcases (show j < k ∨ j = k by omega) with hj | rfl
              · exact h9 j hj
              · exact Option.some.inj c2
          · cases q3
        · cases h; exact same
    · cases h; exact same
  · cases h; exact same
theorem hk_ime_ok : HKP T FPX cy hk_ime := by
  intro S L h I ks wp lv vs _ hlo _ hF
  obtain ⟨pc, lo, st, ⟨n, E, CF, SF⟩, q⟩ := S
  unfold hk_ime at h
  simp only at h hF hlo
  have same : ∃ F ∈ [((n, E, CF, SF) : FS)], ∃ J : IN, hxt I J ∧ J.2 = I.2 ∧ HS T FPX cy J ks wp F := ⟨_, List.mem_cons_self, I, hxt.rf, rfl, hF⟩
  split at h
  · rename_i i n9 E9 CF9 SF9 hi9 heq
    cases heq
    split at h
    · rename_i q
      simp only [Bool.and_eq_true] at q
      obtain ⟨q1, q2, q3⟩ := q
      obtain ⟨zs2, z2, e2, h2⟩ := hF.2.2.2 _ (f_sin_ok q2)
      obtain ⟨zs3, z3, e3, d, h3, h4⟩ := hF.2.2.2 _ (f_sin_ok q3)
      split at h
      · rename_i q4
        cases h
        obtain ⟨k, g1, h9⟩ := sf_38 (hF.2.2.2 _ (f_sin_ok q4))
        have b := in_ev hF.2.1 q1 g1
        refine ⟨_, List.mem_cons_self, I, hxt.rf, rfl, HS.sf (HS.sf hF ⟨[], rfl, rfl, d, by rw [← h9 88 (by omega)]; exact h3, ?_⟩) ⟨[], rfl, rfl, ?_⟩⟩
        · rw [← h9 88 (by omega), ← h4]
          exact rdep_congr (fun j hj => (h9 _ (by omega)).symm)
        · rw [← h9 3 (by omega), ← h9 0 (by omega)]
          exact h2
      · split at h
        · rename_i q4
          cases h
          obtain ⟨k, g1, h9⟩ := sf_39 (hF.2.2.2 _ (f_sin_ok q4))
          have b := in_ev hF.2.1 q1 g1
          refine ⟨_, List.mem_cons_self, I, hxt.rf, rfl, HS.sf (HS.sf hF ⟨[], rfl, rfl, d, by rw [show (357 : Nat) = 269 + 88 from rfl, ← h9 88 (by omega)]; exact h3, ?_⟩) ⟨[], rfl, rfl, ?_⟩⟩
          · rw [show (357 : Nat) = 269 + 88 from rfl, ← h9 88 (by omega), ← h4]
            exact rdep_congr (fun j hj => by rw [show 358 + 3 * j = 269 + (89 + 3 * j) by omega]; exact (h9 _ (by omega)).symm)
          · rw [show (272 : Nat) = 269 + 3 from rfl, show (269 : Nat) = 269 + 0 from rfl, ← h9 3 (by omega), ← h9 0 (by omega)]
            exact h2
        · cases h; exact same
    · cases h; exact same
  · cases h; exact same
theorem hk_res_ok : HKP T FPX cy hk_res := by
  intro S L h I ks wp lv vs _ hlo _ hF
  obtain ⟨pc, lo, st, ⟨n, E, CF, SF⟩, q⟩ := S
  unfold hk_res at h
  simp only at h hF hlo
  have same : ∃ F ∈ [((n, E, CF, SF) : FS)], ∃ J : IN, hxt I J ∧ J.2 = I.2 ∧ HS T FPX cy J ks wp F := ⟨_, List.mem_cons_self, I, hxt.rf, rfl, hF⟩
  split at h
  · rename_i i n9 E9 CF9 SF9 hi9 heq
    cases heq
    split at h
    · rename_i q1
      split at h
      · rename_i q4
        simp only [Bool.and_eq_true] at q4
        obtain ⟨q4, q2, q3⟩ := q4
        cases h
        obtain ⟨zs2, z2, e2, h2⟩ := hF.2.2.2 _ (f_sin_ok q2)
        obtain ⟨zs3, z3, e3, d, h3, h4⟩ := hF.2.2.2 _ (f_sin_ok q3)
        obtain ⟨k, g1, h9⟩ := sf_38 (hF.2.2.2 _ (f_sin_ok q4))
        have b := in_ev hF.2.1 q1 g1
        refine ⟨_, List.mem_cons_self, I, hxt.rf, rfl, HS.sf (HS.sf hF ⟨[], rfl, rfl, d, by rw [h9 88 (by omega)]; exact h3, ?_⟩) ⟨[], rfl, rfl, ?_⟩⟩
        · rw [h9 88 (by omega), ← h4]
          exact rdep_congr (fun j hj => h9 _ (by omega))
        · rw [h9 3 (by omega), h9 0 (by omega)]
          exact h2
      · split at h
        · rename_i q4
          simp only [Bool.and_eq_true] at q4
          obtain ⟨q4, q2, q3⟩ := q4
          cases h
          obtain ⟨zs2, z2, e2, h2⟩ := hF.2.2.2 _ (f_sin_ok q2)
          obtain ⟨zs3, z3, e3, d, h3, h4⟩ := hF.2.2.2 _ (f_sin_ok q3)
          obtain ⟨k, g1, h9⟩ := sf_39 (hF.2.2.2 _ (f_sin_ok q4))
          have b := in_ev hF.2.1 q1 g1
          refine ⟨_, List.mem_cons_self, I, hxt.rf, rfl, HS.sf (HS.sf hF ⟨[], rfl, rfl, d, by rw [h9 88 (by omega)]; exact h3, ?_⟩) ⟨[], rfl, rfl, ?_⟩⟩
          · rw [h9 88 (by omega), ← h4]
            have e88 : (269 + 88 : Nat) = 357 := rfl
            rw [e88]
            exact rdep_congr (fun j hj => by rw [show 358 + 3 * j = 269 + (89 + 3 * j) by omega]; exact h9 _ (by omega))
          · rw [h9 3 (by omega), h9 0 (by omega)]
            exact h2
        · cases h; exact same
    · cases h; exact same
  · cases h; exact same
end HKD
