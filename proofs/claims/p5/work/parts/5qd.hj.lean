/-! images, counts: the hooks are right -/
section HKJ
variable {cy : Nat → ClassId}
theorem f102 {j : Nat} {cu : CUt} {zs : List Int} (hj : j < 2) : FPX (102 + j) cu zs ↔ (zs = [] ∧ ∃ q qc : Nat, cu 21 j = some (.ref q) ∧ cu (ky q (ki j)) 0 = some (.ref qc) ∧ cu 44 0 = some (.ref qc)) := by
  rcases (show j = 0 ∨ j = 1 by omega) with rfl | rfl <;> exact Iff.rfl
theorem f94 {j : Nat} {cu : CUt} {zs : List Int} (hj : j < 2) : FPX (94 + j) cu zs ↔ (zs = [] ∧ (cu 21 j = some .null ∨ ∃ q qc : Nat, cu 21 j = some (.ref q) ∧ cu (ky q (ki j)) 0 = some (.ref qc) ∧ cGood cu qc (fun s => cint cu 41 (269 * j + s)) (fun k => cu 42 (28 * j + k)))) := by
  rcases (show j = 0 ∨ j = 1 by omega) with rfl | rfl
  · have e : (fun s : Nat => cint cu 41 (269 * 0 + s)) = (fun s => cint cu 41 s) := by funext s; rw [Nat.mul_zero, Nat.zero_add]
    have e2 : (fun k : Nat => cu 42 (28 * 0 + k)) = (fun k => cu 42 k) := by funext k; rw [Nat.mul_zero, Nat.zero_add]
    rw [e, e2]
    exact Iff.rfl
  · exact Iff.rfl
theorem f78 {j : Nat} {cu : CUt} {zs : List Int} (hj : j < 2) : FPX (78 + j) cu zs ↔ (zs = [] ∧ (cu 21 j = some .null ↔ cint cu 43 j = 0)) := by
  rcases (show j = 0 ∨ j = 1 by omega) with rfl | rfl <;> exact Iff.rfl
theorem cGood_eq {cu : CUt} {qc : Nat} {g g' : Nat → Int} {b b' : Nat → Option Value} (h : ∀ s, s < 8 → g s = g' s) (hb : ∀ k, k < 28 → b k = b' k) (hg : cGood cu qc g b) : cGood cu qc g' b' :=
  cGood_tr (fun _ _ _ _ h => h) (fun _ _ _ _ h => h) (fun _ _ _ _ h => h) (fun s hs => (h s hs).symm) (fun k hk => (hb k hk).symm) hg
theorem f104 {j : Nat} {cu : CUt} {zs : List Int} (hj : j < 2) : FPX (104 + j) cu zs ↔ (∃ i : Nat, zs = [(i : Int)] ∧ i ≤ 28 ∧ ∀ k : Nat, k < i → cu 30 k = cu 42 (28 * j + k)) := by
  rcases (show j = 0 ∨ j = 1 by omega) with rfl | rfl
  · have e : ∀ k : Nat, 28 * 0 + k = k := fun k => by omega
    simp only [e]
    exact Iff.rfl
  · exact Iff.rfl
theorem fs_104_ok (I : IN) (cu : CUt) : ∀ f ∈ fs_104, hsf FPX I cu f := by
  intro f hf
  rcases List.mem_cons.mp hf with rfl | hf
  · exact ⟨[0], rfl, 0, rfl, by omega, fun j hj => by omega⟩
  · rcases List.mem_cons.mp hf with rfl | hf
    · exact ⟨[0], rfl, 0, rfl, by omega, fun j hj => by omega⟩
    · cases hf
theorem row28 {I : IN} {ks : List Nat} {wp : va_W} {F : FS} {j : Nat} (hj : j < 2) (hF : HS T2 FPX cy I ks wp F) (h : f_sin F.2.2.2 (104 + j) [bI 28] = true) : ∀ k : Nat, k < 28 → c_cu ks wp 30 k = c_cu ks wp 42 (28 * j + k) := by
  obtain ⟨zs, z1, z2⟩ := hF.2.2.2 _ (f_sin_ok h)
  obtain ⟨i, rfl, h9, h2⟩ := (f104 hj).mp z2
  obtain ⟨x, x1, x2⟩ := evs1_inv z1
  cases x1
  simp only [List.cons.injEq, and_true] at x2
  intro k hk
  exact h2 k (by omega)
theorem hk_28_ok : HKP T2 FPX cy hk_28 := by
  intro S L h I ks wp lv vs ha _ _ hF
  obtain ⟨pc, lo, st, ⟨n, E, CF, SF⟩, q⟩ := S
  unfold hk_28 at h
  simp only at h hF
  cases h0 : f_find lo 2 with
  | none =>
    rw [h0] at h
    simp only at h
    cases h
    exact one_of hF
  | some i =>
    rw [h0] at h
    simp only at h
    split at h
    · rename_i q0
      split at h
      · rename_i q1
        cases h
        obtain ⟨zs, z1, i0, rfl, h9, h2⟩ := hF.2.2.2 _ (f_sin_ok q1)
        obtain ⟨x, x1, x2⟩ := evs1_inv z1
        simp only [List.cons.injEq, and_true] at x2
        have := in_iv hF.2.1 q0 x1
        exact one_of (hs_add hF ⟨[28], rfl, 28, rfl, by omega, fun j hj => h2 j (by omega)⟩)
      · split at h
        · rename_i q1
          cases h
          obtain ⟨zs, z1, i0, rfl, h9, h2⟩ := hF.2.2.2 _ (f_sin_ok q1)
          obtain ⟨x, x1, x2⟩ := evs1_inv z1
          simp only [List.cons.injEq, and_true] at x2
          have := in_iv hF.2.1 q0 x1
          exact one_of (hs_add hF ⟨[28], rfl, 28, rfl, by omega, fun j hj => h2 j (by omega)⟩)
        · cases h
          exact one_of hF
    · cases h
      exact one_of hF
/-- the row of an image is the reference's city -/
theorem h_row_ok {I : IN} {ks : List Nat} {wp : va_W} {F : FS} {j : Nat} (hj : j < 2) (hF : HS T2 FPX cy I ks wp F) (h : h_row j F.2.2.2 = true) : ∀ s, s < 8 → cint (c_cu ks wp) 27 s = cint (c_cu ks wp) 41 (269 * j + s) := by
  rcases (show j = 0 ∨ j = 1 by omega) with rfl | rfl
  · have h : f_sin F.2.2.2 38 [bI 269] = true := h
    obtain ⟨zs, z1, i, rfl, h2⟩ := hF.2.2.2 _ (f_sin_ok h)
    obtain ⟨x, x1, x2⟩ := evs1_inv z1
    cases x1
    simp only [List.cons.injEq, and_true] at x2
    intro s hs
    rw [Nat.mul_zero, Nat.zero_add]
    exact h2 s (by omega)
  · have h : f_sin F.2.2.2 39 [bI 269, bI 538] = true := h
    obtain ⟨zs, z1, i, rfl, h2⟩ := hF.2.2.2 _ (f_sin_ok h)
    have z1 : some [(269 : Int), 538] = some [(i : Int), (i : Int) + 269] := z1
    have z1 := Option.some.inj z1
    simp only [List.cons.injEq, and_true] at z1
    intro s hs
    exact h2 s (by omega)
theorem hk_isplit_ok {j : Nat} (hj : j < 2) : HKP T2 FPX cy (hk_isplit j) := by
  intro S L h I ks wp lv vs ha _ _ hF
  obtain ⟨pc, lo, st, ⟨n, E, CF, SF⟩, q⟩ := S
  unfold hk_isplit at h
  simp only at h hF
  split at h
  · cases h
    exact one_of hF
  · cases h
    obtain ⟨d, a1, a2, a3⟩ := t2_21 hj
    obtain ⟨i1, p1, e1, v1, r1, r2, r3, r4, r5⟩ := cell_any hF (by decide) a1 a2 a3
    rcases r5 with ⟨-, rfl⟩ | ⟨w, w1, rfl⟩
    · exact ⟨_, List.mem_cons_self, I, hxt.rf, rfl, hs_cf hF ⟨i1, p1, e1, j, .null, r1, r2, (by show 21 < 51; omega), rfl, r3, rfl⟩⟩
    · obtain ⟨J, j1, j2, j3, j4⟩ := hs_nm w hF
      exact ⟨_, List.mem_cons_of_mem _ List.mem_cons_self, J, j1, j2, hs_cf j4 ⟨i1, p1, e1, j, .ref w, r1, r2, (by show 21 < 51; omega), rfl, r3, hv_nm (by rw [j2]; exact w1) j3⟩⟩
theorem hk_iname_ok {j : Nat} (hj : j < 2) : HKP T2 FPX cy (hk_iname j) := by
  intro S L h I ks wp lv vs ha _ _ hF
  obtain ⟨pc, lo, st, ⟨n, E, CF, SF⟩, q⟩ := S
  unfold hk_iname at h
  simp only at h hF
  split at h
  · rename_i q9 h1
    cases h
    obtain ⟨x, x1, x2⟩ := cf_uz (z := j) hF (by decide) (h_pn_ok h1)
    obtain ⟨w, rfl, w1, w2⟩ := hv_rn x2
    obtain ⟨d, a1, a2, a3⟩ := t2_ki hj
    obtain ⟨y, y1, y2⟩ := nm_ty ha hF a1 a2 a3 w2
    obtain ⟨qc, c1, rfl⟩ := ht_ref y2
    obtain ⟨J, j1, j2, j3, j4⟩ := hs_nm qc hF
    exact ⟨_, List.mem_cons_self, J, j1, j2, hs_cf j4 (cf_mkn (z := 0) ha j4 a1 (by rw [j2]; exact w2) (j1.at w1) rfl y1 (hv_nm (by rw [j2]; exact c1) j3))⟩
  · cases h
    exact one_of hF
theorem hk_isame_ok {j : Nat} (hj : j < 2) : HKP T2 FPX cy (hk_isame j) := by
  intro S L h I ks wp lv vs ha _ _ hF
  obtain ⟨pc, lo, st, ⟨n, E, CF, SF⟩, q⟩ := S
  unfold hk_isame at h
  simp only at h hF
  split at h
  · rename_i k q9 h1 h2
    split at h
    · rename_i k' h3
      split at h
      · rename_i q1
        have q1 := beq3 q1
        subst q1
        cases h
        obtain ⟨w, w1, w2, w3⟩ := city_at hF h1
        obtain ⟨x, x1, x2⟩ := cf_uz (z := j) hF (by decide) (h_pn_ok h2)
        obtain ⟨v, rfl, v1, v2⟩ := hv_rn x2
        obtain ⟨u, z9, x9, u1, u2, u3, u4⟩ := cf_nm ha hF (f_cf_in (h_pn_ok h3))
        obtain ⟨qc9, rfl, u5, u6⟩ := hv_rn u4
        have u2 : (0 : Int) = (z9 : Int) := Option.some.inj u2
        have e9 : z9 = 0 := by omega
        subst e9
        have e8 := nm_eq v1 u1
        subst e8
        have e7 := nm_eq w2 u5
        subst e7
        exact one_of (hs_add hF ⟨[], rfl, (f102 hj).mpr ⟨rfl, v, w, x1, u3, w1⟩⟩)
      · cases h
        exact one_of hF
    · cases h
      exact one_of hF
  · cases h
    exact one_of hF
theorem hk_none_ok : HKP T2 FPX cy hk_none := by
  intro S L h I ks wp lv vs ha _ _ hF
  obtain ⟨pc, lo, st, ⟨n, E, CF, SF⟩, q⟩ := S
  unfold hk_none at h
  simp only at h hF
  split at h
  · rename_i k b h1 h2
    split at h
    · rename_i q1
      have q1 := bv_eq_ok q1
      subst q1
      cases h
      obtain ⟨w, w1, w2, w3⟩ := city_at hF h1
      have eb := int_at (z := 2) hF (by decide) h2 rfl
      have eb : (0 : Int) = cint (c_cu ks wp) 7 2 := Option.some.inj eb
      exact one_of (hs_add hF ⟨[], rfl, rfl, w, w1, fun i hi _ => by omega⟩)
    · cases h
      exact one_of hF
  · cases h
    exact one_of hF
theorem hk_gim_ok {j : Nat} (hj : j < 2) : HKP T2 FPX cy (hk_gim j) := by
  intro S L h I ks wp lv vs ha _ _ hF
  obtain ⟨pc, lo, st, ⟨n, E, CF, SF⟩, q⟩ := S
  unfold hk_gim at h
  simp only at h hF
  split at h
  · rename_i q1
    simp only [Bool.and_eq_true] at q1
    obtain ⟨q1, q2, q3⟩ := q1
    cases h
    obtain ⟨-, q, qc, g1, g2, g3⟩ := (f102 hj).mp (fact0 hF q1)
    obtain ⟨-, qc', g4, g5⟩ := fact0 hF q2
    rw [g3] at g4
    cases g4
    exact one_of (hs_add hF ⟨[], rfl, (f94 hj).mpr ⟨rfl, Or.inr ⟨q, qc, g1, g2, cGood_eq (fun s hs => h_row_ok hj hF q3.1 s hs) (row28 hj hF q3.2) g5⟩⟩⟩)
  · cases h
    exact one_of hF
theorem hk_gre_ok {j : Nat} (hj : j < 2) : HKP T2 FPX cy (hk_gre j) := by
  intro S L h I ks wp lv vs ha _ _ hF
  obtain ⟨pc, lo, st, ⟨n, E, CF, SF⟩, q⟩ := S
  unfold hk_gre at h
  simp only at h hF
  split at h
  · rename_i q1
    simp only [Bool.and_eq_true] at q1
    obtain ⟨q1, q2, q3⟩ := q1
    cases h
    obtain ⟨-, q, qc, g1, g2, g3⟩ := (f102 hj).mp (fact0 hF q1)
    obtain ⟨-, g4⟩ := (f94 hj).mp (fact0 hF q2)
    rcases g4 with g4 | ⟨q', qc', g4, g5, g6⟩
    · rw [g1] at g4
      cases g4
    · rw [g1] at g4
      cases g4
      rw [g2] at g5
      cases g5
      exact one_of (hs_add hF ⟨[], rfl, rfl, qc, g3, cGood_eq (fun s hs => (h_row_ok hj hF q3.1 s hs).symm) (fun k hk => (row28 hj hF q3.2 k hk).symm) g6⟩)
  · cases h
    exact one_of hF
theorem hk_38e_ok : HKP T2 FPX cy hk_38e := by
  intro S L h I ks wp lv vs ha _ _ hF
  obtain ⟨pc, lo, st, ⟨n, E, CF, SF⟩, q⟩ := S
  unfold hk_38e at h
  simp only at h hF
  cases h0 : f_find lo 2 with
  | none =>
    rw [h0] at h
    simp only at h
    cases h
    exact one_of hF
  | some i =>
    rw [h0] at h
    simp only at h
    split at h
    · rename_i q0
      split at h
      · rename_i q1
        cases h
        obtain ⟨zs, z1, i0, rfl, h2⟩ := hF.2.2.2 _ (f_sin_ok q1)
        obtain ⟨x, x1, x2⟩ := evs1_inv z1
        simp only [List.cons.injEq, and_true] at x2
        have := in_iv hF.2.1 q0 x1
        exact one_of (hs_add hF ⟨[269], rfl, 269, rfl, fun j hj => h2 j (by omega)⟩)
      · split at h
        · rename_i q1
          cases h
          obtain ⟨zs, z1, i0, rfl, h2⟩ := hF.2.2.2 _ (f_sin_ok q1)
          have e1 : ∃ x, f_ev I.1 i = some x ∧ x = (i0 : Int) := by
            simp only [f_evs] at z1
            cases h9 : f_ev I.1 i with
            | none => rw [h9] at z1; simp at z1
            | some x =>
              rw [ev_off h9, h9] at z1
              simp only [Option.some.injEq, List.cons.injEq, and_true] at z1
              exact ⟨x, rfl, z1.1⟩
          obtain ⟨x, x1, x2⟩ := e1
          have := in_iv hF.2.1 q0 x1
          exact one_of (hs_add hF ⟨[269, 538], rfl, 269, rfl, fun j hj => h2 j (by omega)⟩)
        · cases h
          exact one_of hF
    · cases h
      exact one_of hF
theorem hk_kp_ok {j : Nat} (hj : j < 2) : HKP T2 FPX cy (hk_kp j) := by
  intro S L h I ks wp lv vs ha _ _ hF
  obtain ⟨pc, lo, st, ⟨n, E, CF, SF⟩, q⟩ := S
  unfold hk_kp at h
  simp only at h hF
  split at h
  · rename_i q1
    cases h
    obtain ⟨-, z2⟩ := (f78 hj).mp (fact0 hF q1)
    obtain ⟨d1, a1, a2, a3⟩ := t2_21 hj
    obtain ⟨d2, b1, b2, b3⟩ := t2_43
    obtain ⟨i1, p1, e1, v1, r1, r2, r3, r4, r5⟩ := cell_any hF (by decide) a1 a2 a3
    obtain ⟨i2, p2, e2, v2, s1, s2, s3, s4, x2, rfl, s5, s6⟩ := cell_any hF (by decide) b1 (by omega) (b3 j hj)
    have c2 : cint (c_cu ks wp) 43 j = x2.toInt := by unfold cint; rw [s4]
    rw [r4, c2] at z2
    have hev : f_ev I.1 (bI (j : Int)) = some (j : Int) := rfl
    rcases r5 with ⟨-, rfl⟩ | ⟨w, w1, rfl⟩
    · have h0 := z2.mp rfl
      exact ⟨_, List.mem_cons_self, I, hxt.rf, rfl, hs_cf (hs_cf hF ⟨i2, p2, e2, j, .int x2, s1, s2, (by show 43 < 51; omega), hev, s3, x2, rfl, h0⟩) ⟨i1, p1, e1, j, .null, r1, r2, (by show 21 < 51; omega), hev, r3, rfl⟩⟩
    · have h0 : x2.toInt ≠ 0 := fun h9 => by have := z2.mpr h9; cases this
      obtain ⟨J, j1, j2, j3, j4⟩ := hs_nm w hF
      exact ⟨_, List.mem_cons_of_mem _ List.mem_cons_self, J, j1, j2, hs_cf (hs_cf j4 ⟨i2, p2, e2, j, .int x2, s1, s2, (by show 43 < 51; omega), rfl, s3, x2, rfl, by omega⟩) ⟨i1, p1, e1, j, .ref w, r1, r2, (by show 21 < 51; omega), rfl, r3, hv_nm (by rw [j2]; exact w1) j3⟩⟩
  · cases h
theorem hk_ks_ok {j : Nat} (hj : j < 2) : HKP T2 FPX cy (hk_ks j) := by
  intro S L h I ks wp lv vs ha _ _ hF
  obtain ⟨pc, lo, st, ⟨n, E, CF, SF⟩, q⟩ := S
  unfold hk_ks at h
  simp only at h hF
  split at h
  · rename_i κ9 nm9 b h1 h2
    split at h
    · rename_i q1
      have q1 := bv_eq_ok q1
      subst q1
      cases h
      obtain ⟨x1, g1, g2⟩ := cf_uz (z := j) hF (by decide) h1
      have eb := int_at (z := j) hF (by decide) h2 rfl
      have eb : (1 : Int) = cint (c_cu ks wp) 43 j := Option.some.inj eb
      refine one_of (hs_add hF ⟨[], rfl, (f78 hj).mpr ⟨rfl, ?_⟩⟩)
      rw [g1, ← eb]
      constructor
      · intro h9
        rcases g2.1 with ⟨h8, -⟩ | ⟨w, -, h8⟩
        · cases h8
        · rw [h8] at h9; cases h9
      · intro h9; omega
    · cases h
      exact one_of hF
  · cases h
    exact one_of hF
theorem cnt_in {z : Int} (h1 : iMin ≤ z) (h2 : z ≤ iMax) : ∃ q ∈ h_cntq, (q.1 ≤ z ∧ z ≤ q.2) ∧ (q = (0, 7) ∨ q = (8, 8) ∨ (q.1 ≠ 0 ∧ q.1 ≠ 8)) := by
  unfold h_cntq
  rcases (show z ≤ -1 ∨ (0 ≤ z ∧ z ≤ 7) ∨ z = 8 ∨ 9 ≤ z by omega) with h | h | h | h
  · exact ⟨(iMin, -1), by simp, ⟨h1, h⟩, Or.inr (Or.inr ⟨by decide, by decide⟩)⟩
  · exact ⟨(0, 7), by simp, h, Or.inl rfl⟩
  · exact ⟨(8, 8), by simp, ⟨by simp only; omega, by simp only; omega⟩, Or.inr (Or.inl rfl)⟩
  · exact ⟨(9, iMax), by simp, ⟨h, h2⟩, Or.inr (Or.inr ⟨by decide, by decide⟩)⟩
theorem t2_51 : ∃ d, TK2[51]? = some d ∧ 0 < k_len d ∧ k_ty d 0 = some (.inr (.inr (52, true))) := ⟨_, rfl, by decide, rfl⟩
theorem t2_52 : ∃ d, TK2[52]? = some d ∧ k_len d = 8 ∧ ∀ j, j < 8 → ∃ lo hi, k_ty d j = some (.inl (lo, hi)) ∧ -1 ≤ lo ∧ hi ≤ 20 := by
  refine ⟨_, rfl, rfl, fun j hj => ?_⟩
  rcases (show j = 0 ∨ j = 1 ∨ j = 2 ∨ j = 3 ∨ j = 4 ∨ j = 5 ∨ j = 6 ∨ j = 7 by omega) with rfl | rfl | rfl | rfl | rfl | rfl | rfl | rfl <;> exact ⟨_, _, rfl, by decide, by decide⟩
theorem t2_27 : ∃ d, TK2[27]? = some d ∧ 8 ≤ k_len d ∧ ∀ j, j < 8 → ∃ lo hi, k_ty d j = some (.inl (lo, hi)) := by
  refine ⟨_, rfl, by decide, fun j hj => ?_⟩
  rcases (show j = 0 ∨ j = 1 ∨ j = 2 ∨ j = 3 ∨ j = 4 ∨ j = 5 ∨ j = 6 ∨ j = 7 by omega) with rfl | rfl | rfl | rfl | rfl | rfl | rfl | rfl <;> exact ⟨_, _, rfl⟩
theorem hk_cnt_ok : HKP T2 FPX cy hk_cnt := by
  intro S L h I ks wp lv vs ha _ hst hF
  obtain ⟨pc, lo, st, ⟨n, E, CF, SF⟩, q⟩ := S
  cases st with
  | nil => unfold hk_cnt at h; simp only at h; cases h
  | cons a st' =>
    unfold hk_cnt at h
    simp only at h hF hst
    split at h
    · rename_i q9 hiv
      split at h
      · rename_i q1
        simp only [Bool.and_eq_true] at q1
        cases h
        obtain ⟨v, vs', rfl, g1, g2⟩ := hvs_cons hst
        obtain ⟨y, rfl, i1, i2⟩ := hv_int (lo := q9.1) (hi := q9.2) hF.2.1 g1 hiv
        have hr := fb_rng y
        have hya := hv_ev g1
        obtain ⟨r, r1, ⟨r2, r3⟩, r4⟩ := cnt_in (z := y.toInt) hr.1 (Int.le_of_lt_add_one hr.2)
        obtain ⟨E1, e1, e2, -⟩ := f_clamp_ev (lo := r.1) (hi := r.2) hF.2.1 hya ⟨_, hiv⟩ r2 r3
        have hm : h_cnt n E1 CF SF a r.1 ∈ h_cntq.filterMap (fun q => (f_clamp E a q.1 q.2).map (fun E1 => h_cnt n E1 CF SF a q.1)) := List.mem_filterMap.mpr ⟨r, r1, by rw [e1]; rfl⟩
        have hF1 : HS T2 FPX cy I ks wp (n, E1, CF, SF) := ⟨hF.1, e2, hF.2.2.1, hF.2.2.2⟩
        rcases r4 with rfl | rfl | ⟨r4, r5⟩
        · -- one of the city's counts
          simp only at r2 r3
          obtain ⟨-, qc, c1, qn, qm, NM, x9, c2, -, c3, -, -, -⟩ := fact0 hF q1.2
          obtain ⟨x, x1, x2⟩ := c3 y.toInt.toNat (by omega)
          obtain ⟨d, a1, a2, a3⟩ := t2_44
          obtain ⟨d5, b1, b2, b3⟩ := t2_51
          obtain ⟨d6, f1, f2, f3⟩ := t2_52
          obtain ⟨d7, m1, m2, m3⟩ := t2_27
          obtain ⟨i9, p9, e9, v9, k1, k2, k3, k4, k5⟩ := cell_any hF (by decide) a1 a2 a3
          obtain ⟨w, w1, rfl⟩ := ht_ref k5
          rw [c1] at k4
          cases k4
          obtain ⟨v8, n1, n2⟩ := nm_ty ha hF b1 b2 b3 w1
          rw [c2] at n1
          cases n1
          obtain ⟨w8, w9, h8⟩ := ht_ref n2
          cases h8
          obtain ⟨lo8, hi8, f4, f5, f6⟩ := f3 y.toInt.toNat (by omega)
          obtain ⟨v7, o1, o2⟩ := nm_ty ha hF f1 (by omega) f4 w9
          rw [x1] at o1
          cases o1
          obtain ⟨x7, h7, o3, o4⟩ := o2
          cases h7
          obtain ⟨lo7, hi7, m4⟩ := m3 y.toInt.toNat (by omega)
          obtain ⟨i6, p6, e6, v6, s1, s2, s3, s4, x6, rfl, s5, s6⟩ := cell_any hF (by decide) m1 (by omega) m4
          have ex : x6 = x := by
            have : cint (c_cu ks wp) 27 y.toInt.toNat = x6.toInt := by unfold cint; rw [s4]
            have x2 : x.toInt = cint (c_cu ks wp) 27 y.toInt.toNat := x2
            rw [this] at x2
            exact ((fa_eq _ _).mpr x2).symm
          subst ex
          let J : IN := (I.1 ++ [(qc : Int), (qn : Int), x6.toInt], I.2)
          have hIJ : hxt I J := hxt_app _
          have hn : I.1.length = n := hF.2.1.1
          have hEJ : henv J.1 (n + 3) ((n + 2, -1, 20) :: E1) := by
            have h1 := henv_cons (lo := -1) (hi := 20) (henv_nm (qn : Int) (henv_nm (qc : Int) e2)) (y := x6.toInt) (by omega) (by omega)
            have e : J.1 = I.1 ++ [(qc : Int)] ++ [(qn : Int)] ++ [x6.toInt] := by show I.1 ++ [(qc : Int), (qn : Int), x6.toInt] = _; simp
            rw [e]
            exact h1
          have hJ := hF1.xt hIJ rfl hEJ
          have n0 : J.1[n]? = some (qc : Int) := at_app (k := 0) hn rfl
          have n1 : J.1[n + 1]? = some (qn : Int) := at_app (k := 1) hn rfl
          have n2 : J.1[n + 2]? = some x6.toInt := at_app (k := 2) hn rfl
          have hya2 : f_ev J.1 a = some ((y.toInt.toNat : Nat) : Int) := by rw [ev_xt hIJ hya]; congr 1; omega
          have hvx : hv J (bV (n + 2) 0) (.int x6) := ⟨x6, x6.toInt, rfl, n2, by omega⟩
          refine ⟨_, hm, J, hIJ, rfl, ?_⟩
          unfold h_cnt
          rw [if_pos (by decide)]
          refine hs_cf (hs_cf (hs_cf (hs_cf hJ ⟨i6, p6, e6, _, .int x6, s1, s2, (by show 27 < 51; omega), hya2, s3, hvx⟩) (cf_mkn (κ := 52) ha hJ f1 w9 n1 hya2 x1 hvx)) (cf_mkn (κ := 51) (z := 0) ha hJ b1 w1 n0 rfl c2 (hv_nm w9 n1))) (cf_mk hJ (by decide) a1 a2 a3 rfl c1 (hv_nm w1 n0))
        · -- the tape's length
          obtain ⟨-, z2⟩ := fact0 hF q1.1
          obtain ⟨d1, a1, a2, a3⟩ := t2_1
          obtain ⟨d2, b1, b2, b3⟩ := t2_25
          obtain ⟨j1, p1, f1, v1, s1, s2, s3, s4, x1, rfl, s5, s6⟩ := cell_any hF (by decide) a1 (by omega) a3
          obtain ⟨j2, p2, f2, v2, t1, t2, t3, t4, x2, rfl, t5, t6⟩ := cell_any hF (by decide) b1 b2 b3
          have c1 : cint (c_cu ks wp) 1 1 = x1.toInt := by unfold cint; rw [s4]
          have c2 : cint (c_cu ks wp) 25 2 = x2.toInt := by unfold cint; rw [t4]
          have ex : x2.toInt = x1.toInt := by rw [← c1, ← c2]; exact z2.symm
          let J : IN := (I.1 ++ [x1.toInt], I.2)
          have hIJ : hxt I J := hxt_app _
          have hn : I.1.length = n := hF.2.1.1
          have hJ := hF1.xt hIJ rfl (henv_cons e2 s5 s6)
          refine ⟨_, hm, J, hIJ, rfl, ?_⟩
          unfold h_cnt
          rw [if_neg (by decide), if_pos (by decide)]
          refine hs_cf (hs_cf hJ ⟨j2, p2, f2, 2, .int x2, t1, t2, (by show 25 < 51; omega), rfl, t3, x2, x1.toInt, rfl, at_app (k := 0) hn rfl, by omega⟩) ⟨j1, p1, f1, 1, .int x1, s1, s2, (by show 1 < 51; omega), rfl, s3, x1, x1.toInt, rfl, at_app (k := 0) hn rfl, by omega⟩
        · refine ⟨_, hm, I, hxt.rf, rfl, ?_⟩
          unfold h_cnt
          rw [if_neg (by simp only [decide_eq_true_eq]; exact r4), if_neg (by simp only [decide_eq_true_eq]; exact r5)]
          exact hF1
      · cases h
    · cases h
theorem t2_0 : ∃ d, TK2[0]? = some d ∧ 14 < k_len d ∧ k_ty d 14 = some (.inl (0, 4)) := ⟨_, rfl, by decide, rfl⟩
theorem t2_25f : ∃ d lo hi, TK2[25]? = some d ∧ 15 < k_len d ∧ k_ty d 15 = some (.inl (lo, hi)) := ⟨_, _, _, rfl, by decide, rfl⟩
theorem hk_flt_ok : HKP T2 FPX cy hk_flt := by
  intro S L h I ks wp lv vs ha _ _ hF
  obtain ⟨pc, lo, st, ⟨n, E, CF, SF⟩, q⟩ := S
  unfold hk_flt at h
  simp only at h hF
  split at h
  · rename_i q1
    cases h
    obtain ⟨-, z2⟩ := fact0 hF q1
    obtain ⟨d1, a1, a2, a3⟩ := t2_0
    obtain ⟨d2, lo2, hi2, b1, b2, b3⟩ := t2_25f
    obtain ⟨j1, p1, f1, v1, s1, s2, s3, s4, x1, rfl, s5, s6⟩ := cell_any hF (by decide) a1 a2 a3
    obtain ⟨j2, p2, f2, v2, t1, t2, t3, t4, x2, rfl, t5, t6⟩ := cell_any hF (by decide) b1 b2 b3
    have c1 : cint (c_cu ks wp) 0 14 = x1.toInt := by unfold cint; rw [s4]
    have c2 : cint (c_cu ks wp) 25 15 = x2.toInt := by unfold cint; rw [t4]
    have ex : x2.toInt = x1.toInt := by rw [← c1, ← c2]; exact z2.symm
    let J : IN := (I.1 ++ [x1.toInt], I.2)
    have hIJ : hxt I J := hxt_app _
    have hn : I.1.length = n := hF.2.1.1
    have hJ := hF.xt hIJ rfl (henv_cons hF.2.1 s5 s6)
    refine ⟨_, List.mem_cons_self, J, hIJ, rfl, ?_⟩
    refine hs_cf (hs_cf hJ ⟨j2, p2, f2, 15, .int x2, t1, t2, (by show 25 < 51; omega), rfl, t3, x2, x1.toInt, rfl, at_app (k := 0) hn rfl, by omega⟩) ⟨j1, p1, f1, 14, .int x1, s1, s2, (by show 0 < 51; omega), rfl, s3, x1, x1.toInt, rfl, at_app (k := 0) hn rfl, by omega⟩
  · cases h
end HKJ
