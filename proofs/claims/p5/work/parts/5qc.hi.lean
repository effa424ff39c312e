/-! the main scene's city, the history's, the images': the hooks are right -/
section HKI
variable {cy : Nat → ClassId}
theorem one_of {I : IN} {ks : List Nat} {wp : va_W} {F : FS} (h : HS T2 FPX cy I ks wp F) : ∃ F' ∈ [F], ∃ J : IN, hxt I J ∧ J.2 = I.2 ∧ HS T2 FPX cy J ks wp F' := ⟨F, List.mem_cons_self, I, hxt.rf, rfl, h⟩
theorem hk_name_ok : HKP T2 FPX cy hk_name := by
  intro S L h I ks wp lv vs ha _ _ hF
  obtain ⟨pc, lo, st, ⟨n, E, CF, SF⟩, q⟩ := S
  unfold hk_name at h
  simp only at h hF
  split at h
  · cases h
    obtain ⟨d, a1, a2, a3⟩ := t2_44
    obtain ⟨i1, p1, e1, v1, r1, r2, r3, r4, r5⟩ := cell_any hF (by decide) a1 a2 a3
    obtain ⟨w, w1, rfl⟩ := ht_ref r5
    obtain ⟨J, j1, j2, j3, j4⟩ := hs_nm w hF
    exact ⟨_, List.mem_cons_self, J, j1, j2, hs_cf j4 (cf_mk j4 (by decide) a1 a2 a3 rfl r4 (hv_nm (by rw [j2]; exact w1) j3))⟩
  · cases h
    exact one_of hF
theorem hk_op_ok {id : Nat} (hid : id = 91 ∨ id = 92) : HKP T2 FPX cy (hk_op id) := by
  intro S L h I ks wp lv vs ha _ _ hF
  obtain ⟨pc, lo, st, ⟨n, E, CF, SF⟩, q⟩ := S
  unfold hk_op at h
  simp only at h hF
  split at h
  · rename_i k a b h1 h2 h3
    split at h
    · rename_i q1
      simp only [Bool.and_eq_true] at q1
      obtain ⟨q1, q2, q3⟩ := q1
      cases h
      obtain ⟨w, w1, w2, w3⟩ := city_at hF h1
      have ea := int_at (z := 1) hF (by decide) h2 q1
      have eb := int_at (z := 2) hF (by decide) h3 q2
      have hf := fact0 hF q3
      refine one_of (hs_add hF ?_)
      rcases hid with rfl | rfl
      · obtain ⟨-, qc, g1, g2⟩ := hf
        rw [w1] at g1
        cases g1
        exact ⟨_, ev3s (ev_nm w2) ea (ev_off eb), w, _, _, rfl, by simpa using g2⟩
      · obtain ⟨-, qc, g1, g2⟩ := hf
        rw [w1] at g1
        cases g1
        exact ⟨_, ev3s (ev_nm w2) ea (ev_off eb), w, _, _, rfl, g2⟩
    · cases h
      exact one_of hF
  · cases h
    exact one_of hF
theorem evs1 {ν : List Int} {a : BV} {x : Int} (h : f_ev ν a = some x) : f_evs ν [a] = some [x] := by
  simp only [f_evs, h]
theorem evs1_inv {ν : List Int} {a : BV} {zs : List Int} (h : f_evs ν [a] = some zs) : ∃ x, f_ev ν a = some x ∧ zs = [x] := by
  simp only [f_evs] at h
  cases h1 : f_ev ν a with
  | none => rw [h1] at h; simp at h
  | some x =>
    rw [h1] at h
    simp only [Option.some.injEq] at h
    exact ⟨x, rfl, h.symm⟩
theorem hk_op90_ok : HKP T2 FPX cy hk_op90 := by
  intro S L h I ks wp lv vs ha _ _ hF
  obtain ⟨pc, lo, st, ⟨n, E, CF, SF⟩, q⟩ := S
  unfold hk_op90 at h
  simp only at h hF
  split at h
  · rename_i k h1
    split at h
    · rename_i q1
      cases h
      obtain ⟨w, w1, w2, w3⟩ := city_at hF h1
      obtain ⟨-, qc, g1, g2⟩ := fact0 hF q1
      rw [w1] at g1
      cases g1
      exact one_of (hs_add hF ⟨_, evs1 (ev_nm w2), w, rfl, g2⟩)
    · cases h
      exact one_of hF
  · cases h
    exact one_of hF
theorem hk_cl90_ok : HKP T2 FPX cy hk_cl90 := by
  intro S L h I ks wp lv vs ha _ _ hF
  obtain ⟨pc, lo, st, ⟨n, E, CF, SF⟩, q⟩ := S
  unfold hk_cl90 at h
  simp only at h hF
  split at h
  · rename_i k h1
    split at h
    · rename_i q1
      cases h
      obtain ⟨w, w1, w2, w3⟩ := city_at hF h1
      obtain ⟨zs, z1, qc, rfl, g2⟩ := hF.2.2.2 _ (f_sin_ok q1)
      obtain ⟨x, x1, x2⟩ := evs1_inv z1
      rw [ev_nm w2] at x1
      cases x1
      simp only [List.cons.injEq, and_true] at x2
      have e : qc = w := by omega
      subst e
      exact one_of (hs_add hF ⟨[], rfl, rfl, qc, w1, g2⟩)
    · cases h
      exact one_of hF
  · cases h
    exact one_of hF
theorem h_rows_ok {I : IN} {ks : List Nat} {wp : va_W} {n : Nat} {E : EB} {CF : List CFt} {SF : List SFt} {t k f s i : BV} {d : Int} (hF : HS T2 FPX cy I ks wp (n, E, CF, SF)) (h : h_rows E SF t d = some (k, f, s, i)) :
    ∃ (qc : Nat) (f0 i0 : Int), f_ev I.1 k = some (qc : Int) ∧ f_ev I.1 f = some f0 ∧ f_ev I.1 s = some (i0 + d) ∧ f_ev I.1 t = some ((f0 + i0) % 9) ∧ 0 ≤ i0 ∧ hGo (c_cu ks wp) qc f0 (i0 + d) (-1) := by
  unfold h_rows at h
  split at h
  · rename_i k1 f1 s1 f2 i2 t2 h1 h2
    split at h
    · rename_i q1
      simp only [Bool.and_eq_true] at q1
      obtain ⟨q1, q2, q3, q4, q5⟩ := q1
      have q1 := bv_eq_ok q1
      have q2 := bv_eq_ok q2
      have q3 := bv_eq_ok q3
      subst q1
      subst q2
      subst q3
      cases h
      obtain ⟨qc, f0, s0, e1, e2, e3, g⟩ := fact93 hF h1
      obtain ⟨f9, i0, e4, e5, e6⟩ := fact100 hF (h_fst_in h2)
      rw [e2] at e4
      cases e4
      rw [ev_off e5] at e3
      cases e3
      have := in_iv hF.2.1 q4 e5
      exact ⟨qc, f0, i0, e1, e2, ev_off e5, e6, this.1, g⟩
    · cases h
  · cases h
theorem hk_split_ok : HKP T2 FPX cy hk_split := by
  intro S L h I ks wp lv vs ha _ _ hF
  obtain ⟨pc, lo, st, ⟨n, E, CF, SF⟩, q⟩ := S
  unfold hk_split at h
  cases st with
  | nil =>
    simp only at h
    cases h
    exact one_of hF
  | cons t st' =>
    simp only at h hF
    split at h
    · rename_i k f s i h1
      cases h
      obtain ⟨qc, f0, i0, e1, e2, e3, e4, e5, g⟩ := h_rows_ok hF h1
      have hf : hsf FPX I (c_cu ks wp) (98, [k, f, s, t, f_off t 1]) := by
        refine ⟨[(qc : Int), f0, i0 + 0, (f0 + i0) % 9, (f0 + i0) % 9 + 1], ?_, qc, f0, i0 + 0, _, rfl, fun j hj _ => g j hj (by omega)⟩
        simp only [f_evs, e1, e2, e3, e4, ev_off e4]
      have hF1 := hs_add hF hf
      obtain ⟨d, a1, a2, a3⟩ := t2_8
      have ez : ((f0 + i0) % 9) = ((((f0 + i0) % 9).toNat : Nat) : Int) := by omega
      have ept := e4
      rw [ez] at ept
      obtain ⟨i1, p1, e9, v1, r1, r2, r3, r4, r5⟩ := cell_any hF (by decide) a1 (z := ((f0 + i0) % 9).toNat) (by omega) (a3 _ (by omega))
      rcases r5 with ⟨-, rfl⟩ | ⟨w, w1, rfl⟩
      · exact ⟨_, List.mem_cons_self, I, hxt.rf, rfl, hs_cf hF1 ⟨i1, p1, e9, _, .null, r1, r2, (by show 8 < 51; omega), ept, r3, rfl⟩⟩
      · obtain ⟨J, j1, j2, j3, j4⟩ := hs_nm w hF1
        exact ⟨_, List.mem_cons_of_mem _ List.mem_cons_self, J, j1, j2, hs_cf j4 ⟨i1, p1, e9, _, .ref w, r1, r2, (by show 8 < 51; omega), ev_xt j1 ept, r3, hv_nm (by rw [j2]; exact w1) j3⟩⟩
    · cases h
      exact one_of hF
theorem hk_take_ok : HKP T2 FPX cy hk_take := by
  intro S L h I ks wp lv vs ha _ _ hF
  obtain ⟨pc, lo, st, ⟨n, E, CF, SF⟩, q⟩ := S
  unfold hk_take at h
  cases st with
  | nil =>
    simp only at h
    cases h
    exact one_of hF
  | cons t st' =>
    simp only at h hF
    split at h
    · rename_i k f s i h1
      cases h
      obtain ⟨qc, f0, i0, e1, e2, e3, e4, e5, g⟩ := h_rows_ok hF h1
      obtain ⟨qh, g1, g2⟩ := g i0.toNat (by omega) (by omega)
      rw [show f0 + ((i0.toNat : Nat) : Int) = f0 + i0 by omega] at g1
      obtain ⟨d, a1, a2, a3⟩ := t2_8
      have ez : ((f0 + i0) % 9) = ((((f0 + i0) % 9).toNat : Nat) : Int) := by omega
      have ept := e4
      rw [ez] at ept
      obtain ⟨i1, p1, e9, v1, r1, r2, r3, r4, r5⟩ := cell_any hF (by decide) a1 (z := ((f0 + i0) % 9).toNat) (by omega) (a3 _ (by omega))
      rw [r4] at g1
      cases g1
      rcases r5 with ⟨-, h9⟩ | ⟨w, w1, h9⟩
      · cases h9
      · cases h9
        obtain ⟨d2, b1, b2, b3⟩ := t2_64
        obtain ⟨x, x1, x2⟩ := nm_ty ha hF b1 b2 b3 w1
        rw [g2] at x1
        cases x1
        obtain ⟨w9, y1, y2⟩ := ht_ref x2
        cases y2
        obtain ⟨J, j1, j2, j3, j4⟩ := hs_nm qh hF
        have ek : I.1[k]? = some (qc : Int) := by
          simp only [f_ev] at e1
          split at e1
          · rename_i y hy
            rw [hy]
            have := Option.some.inj e1
            rw [show y = (qc : Int) by omega]
          · cases e1
        have c1 : hcf T2 J ks wp (64, some n, bI 0, bP 51 true (some k)) := cf_mkn (z := 0) ha j4 b1 (by rw [j2]; exact w1) j3 rfl g2 (hv_nm (by rw [j2]; exact y1) (j1.at ek))
        exact ⟨_, List.mem_cons_self, J, j1, j2, hs_cf (hs_cf j4 c1) ⟨i1, p1, e9, _, .ref qh, r1, r2, (by show 8 < 51; omega), ev_xt j1 ept, r3, hv_nm (by rw [j2]; exact w1) j3⟩⟩
    · cases h
      exact one_of hF
theorem hk_fill_ok : HKP T2 FPX cy hk_fill := by
  intro S L h I ks wp lv vs ha _ _ hF
  obtain ⟨pc, lo, st, ⟨n, E, CF, SF⟩, q⟩ := S
  unfold hk_fill at h
  simp only at h hF
  split at h
  · rename_i k f s t t1 h1
    split at h
    · rename_i qn h2
      split at h
      · rename_i k' h3
        split at h
        · rename_i q1
          simp only [Bool.and_eq_true] at q1
          have q2 := bv_eq_ok q1.1
          subst q2
          cases h
          obtain ⟨zs, z1, qc, f0, s0, t0, rfl, g⟩ := hF.2.2.2 _ (h_fst_in h1)
          obtain ⟨x1, x2, x3, x4, x5, e1, e2, e3, e4, e5, e6⟩ := evs5_inv z1
          simp only [List.cons.injEq, and_true] at e6
          obtain ⟨rfl, rfl, rfl, rfl, rfl⟩ := e6
          obtain ⟨f9, i0, w1, w2, w3⟩ := fact100 hF (f_sin_ok q1.2)
          rw [e2] at w1
          cases w1
          rw [e3] at w2
          cases w2
          rw [e4] at w3
          have w3 := Option.some.inj w3
          obtain ⟨zt, xt, y1, y2, y3⟩ := cf_un hF (by decide) (f_cf_in (h_pn_ok h2))
          obtain ⟨qh, rfl, y4, y5⟩ := hv_rn y3
          rw [e4] at y1
          have y1 := Option.some.inj y1
          obtain ⟨q9, z9, x9, u1, u2, u3, u4⟩ := cf_nm ha hF (f_cf_in (h_pn_ok h3))
          obtain ⟨qc9, rfl, u5, u6⟩ := hv_rn u4
          have u2 : (0 : Int) = (z9 : Int) := Option.some.inj u2
          have e9 : z9 = 0 := by omega
          subst e9
          have e8 := nm_eq y4 u1
          subst e8
          rw [ev_nm u5] at e1
          have e7 : qc9 = qc := by have := Option.some.inj e1; omega
          subst e7
          refine one_of (hs_add hF ⟨_, ev3s (ev_nm u5) e2 (ev_off e3), qc9, _, _, rfl, fun j hj _ => ?_⟩)
          by_cases ht : (f0 + (j : Int)) % 9 = t0
          · refine ⟨qh, ?_, u3⟩
            rw [ht, show t0.toNat = zt by omega]
            exact y2
          · exact g j (by
              rcases (show (j : Int) < s0 ∨ (j : Int) = s0 by omega) with h9 | h9
              · exact h9
              · rw [h9] at ht
                exact absurd w3.symm ht) ht
        · cases h
          exact one_of hF
      · cases h
        exact one_of hF
    · cases h
      exact one_of hF
  · cases h
    exact one_of hF
theorem cl_go {I : IN} {ks : List Nat} {wp : va_W} {n : Nat} {E : EB} {CF : List CFt} {SF : List SFt} {a b f k' z : BV} {k : Nat} (hF : HS T2 FPX cy I ks wp (n, E, CF, SF)) (h1 : h_city CF = some k) (h2 : f_cf CF 7 none (bI 1) = some a) (h3 : f_cf CF 7 none (bI 2) = some b) (h4 : h_fst 93 SF = some [k', f, z]) (q1 : f_isI a = true) (q2 : f_isI b = true) (q3 : bv_eq k' (bV k 0) = true) :
    ∃ (w : Nat) (f0 z0 : Int), c_cu ks wp 44 0 = some (.ref w) ∧ f_ev I.1 a = some (cint (c_cu ks wp) 7 1) ∧ f_ev I.1 b = some (cint (c_cu ks wp) 7 2) ∧ f_ev I.1 f = some f0 ∧ f_ev I.1 z = some z0 ∧ hGo (c_cu ks wp) w f0 z0 (-1) := by
  obtain ⟨w, w1, w2, w3⟩ := city_at hF h1
  have ea := int_at (z := 1) hF (by decide) h2 q1
  have eb := int_at (z := 2) hF (by decide) h3 q2
  obtain ⟨qc, f0, s0, e1, e2, e3, g⟩ := fact93 hF h4
  rw [bv_eq_ok q3, ev_nm w2] at e1
  have e7 : w = qc := by have := Option.some.inj e1; omega
  subst e7
  exact ⟨w, f0, s0, w1, ea, eb, e2, e3, g⟩
theorem hk_cl91_ok : HKP T2 FPX cy hk_cl91 := by
  intro S L h I ks wp lv vs ha _ _ hF
  obtain ⟨pc, lo, st, ⟨n, E, CF, SF⟩, q⟩ := S
  unfold hk_cl91 at h
  simp only at h hF
  split at h
  · rename_i k a b k' f z h1 h2 h3 h4
    split at h
    · rename_i q1
      simp only [Bool.and_eq_true] at q1
      obtain ⟨q1, q2, q3, q4, q5⟩ := q1
      cases h
      obtain ⟨w, f0, z0, w1, ea, eb, e2, e3, g⟩ := cl_go hF h1 h2 h3 h4 q1 q2 q3
      rw [bv_eq_ok q4, ea] at e2
      cases e2
      have hl := f_lez_ok hF.2.1 q5 eb e3
      exact one_of (hs_add hF ⟨[], rfl, rfl, w, w1, fun j hj ht => g j (by omega) ht⟩)
    · cases h
      exact one_of hF
  · cases h
    exact one_of hF
theorem hk_cl92_ok : HKP T2 FPX cy hk_cl92 := by
  intro S L h I ks wp lv vs ha _ _ hF
  obtain ⟨pc, lo, st, ⟨n, E, CF, SF⟩, q⟩ := S
  unfold hk_cl92 at h
  simp only at h hF
  split at h
  · rename_i k a b k' f z h1 h2 h3 h4
    split at h
    · rename_i q1
      simp only [Bool.and_eq_true] at q1
      obtain ⟨q1, q2, q3, q4, q5⟩ := q1
      cases h
      obtain ⟨w, f0, z0, w1, ea, eb, e2, e3, g⟩ := cl_go hF h1 h2 h3 h4 q1 q2 q3
      rw [bv_eq_ok q4, ea] at e2
      cases e2
      rw [← bv_eq_ok q5, ev_off eb] at e3
      cases e3
      exact one_of (hs_add hF ⟨[], rfl, rfl, w, w1, g⟩)
    · cases h
      exact one_of hF
  · cases h
    exact one_of hF
theorem hk_cl93_ok : HKP T2 FPX cy hk_cl93 := by
  intro S L h I ks wp lv vs ha _ _ hF
  obtain ⟨pc, lo, st, ⟨n, E, CF, SF⟩, q⟩ := S
  unfold hk_cl93 at h
  simp only at h hF
  split at h
  · rename_i k a b k' f z h1 h2 h3 h4
    split at h
    · rename_i q1
      simp only [Bool.and_eq_true] at q1
      obtain ⟨q1, q2, q3, q4, q5⟩ := q1
      cases h
      obtain ⟨w, f0, z0, w1, ea, eb, e2, e3, g⟩ := cl_go hF h1 h2 h3 h4 q1 q2 q3
      obtain ⟨f9, i0, u1, u2, u3⟩ := fact100 hF (f_sin_ok q4)
      rw [e2] at u1
      cases u1
      have u2 : (1 : Int) = i0 := Option.some.inj u2
      subst u2
      rw [ea] at u3
      have u3 := Option.some.inj u3
      rw [← bv_eq_ok q5, ev_off eb] at e3
      cases e3
      refine one_of (hs_add hF ⟨[], rfl, rfl, w, w1, fun j hj ht => ?_⟩)
      obtain ⟨qh, g1, g2⟩ := g (j + 1) (by omega) (by omega)
      refine ⟨qh, ?_, g2⟩
      rw [u3, show ((f0 + 1) % 9 + (j : Int)) % 9 = (f0 + ((j + 1 : Nat) : Int)) % 9 by omega]
      exact g1
    · cases h
      exact one_of hF
  · cases h
    exact one_of hF
end HKI
