/-! the two tapes, what was kept: hooks of the law -/
/-- the tapes are as long as each other: one name for both -/
def hk_eqp : HKt := fun S => match S.2.2.2.1 with
  | (n, E, CF, SF) => if f_sin SF 77 [] = true then some [(n + 1, (n, 0, 940) :: E, (1, none, bI 1, bV n 0) :: (25, none, bI 2, bV n 0) :: CF, SF)] else none
def hk_eqs : HKt := fun S => match S.2.2.2.1 with
  | (n, E, CF, SF) => (match f_cf CF 1 none (bI 1), f_cf CF 25 none (bI 2) with
    | some a, some b => if (bv_eq a b && f_isI a) = true then some [(n, E, CF, (77, []) :: SF)] else some [(n, E, CF, SF)]
    | _, _ => some [(n, E, CF, SF)])
/-- what lies on top: below 0, 0, 1, above -/
def h_four : List (Int × Int) := [(iMin, -1), (0, 0), (1, 1), (2, iMax)]
def hk_four : HKt := fun S => match S.2.2.1, S.2.2.2.1 with
  | a :: _, (n, E, CF, SF) => (match f_iv E a with
    | some _ => some (h_four.filterMap (fun q => (f_clamp E a q.1 q.2).map (fun E1 => (n, E1, CF, SF))))
    | none => none)
  | _, _ => none
section HKQ
variable {cy : Nat → ClassId}
theorem t2_1 : ∃ d, TK2[1]? = some d ∧ k_len d = 2 ∧ k_ty d 1 = some (.inl (0, 940)) := ⟨_, rfl, rfl, rfl⟩
theorem t2_25 : ∃ d, TK2[25]? = some d ∧ 2 < k_len d ∧ k_ty d 2 = some (.inl (0, 940)) := ⟨_, rfl, by decide, rfl⟩
theorem t2_43 : ∃ d, TK2[43]? = some d ∧ k_len d = 2 ∧ ∀ j, j < 2 → k_ty d j = some (.inl (0, 1)) := ⟨_, rfl, rfl, fun j hj => by
  rcases (show j = 0 ∨ j = 1 by omega) with rfl | rfl <;> rfl⟩
/-- a place of the only cell of a kind: what stands there -/
theorem cell_any {I : IN} {ks : List Nat} {wp : va_W} {F : FS} {κ z : Nat} {d : KD} {t : BT} (hF : HS T2 FPX cy I ks wp F) (hu : κ < 51) (hT : TK2[κ]? = some d) (hz : z < k_len d) (ht9 : k_ty d z = some t) : ∃ (i q : Nat) (e : va_E) (v : Value), ks[i]? = some κ ∧ wp[i]? = some (q, e) ∧ cval e z = some v ∧ c_cu ks wp κ z = some v ∧ ht I.2.1 t v := by
  obtain ⟨i, hi9⟩ := hF.1.2.2.2.2 κ hu
  obtain ⟨q, e, d', g1, g2, g3, -⟩ := hF.1.2.1 i κ hi9
  have g2 : TK2[κ]? = some d' := g2
  rw [hT] at g2
  cases g2
  obtain ⟨v, v1, v2⟩ := g3.2 z t hz ht9
  exact ⟨i, q, e, v, hi9, g1, v1, by rw [c_cu_one (T := T2) hF.1 hu hi9 g1, v1], v2⟩
theorem hk_eqp_ok : HKP T2 FPX cy hk_eqp := by
  intro S L h I ks wp lv vs _ _ _ hF
  obtain ⟨pc, lo, st, ⟨n, E, CF, SF⟩, q⟩ := S
  unfold hk_eqp at h
  simp only at h hF
  split at h
  · rename_i q1
    cases h
    obtain ⟨zs, z1, z2⟩ := hF.2.2.2 _ (f_sin_ok q1)
    have z2 : zs = [] ∧ cint (c_cu ks wp) 1 1 = cint (c_cu ks wp) 25 2 := z2
    obtain ⟨d1, a1, a2, a3⟩ := t2_1
    obtain ⟨d2, b1, b2, b3⟩ := t2_25
    obtain ⟨i1, p1, e1, v1, r1, r2, r3, r4, x1, rfl, r5, r6⟩ := cell_any hF (by decide) a1 (by omega) a3
    obtain ⟨i2, p2, e2, v2, s1, s2, s3, s4, x2, rfl, s5, s6⟩ := cell_any hF (by decide) b1 b2 b3
    have c1 : cint (c_cu ks wp) 1 1 = x1.toInt := by unfold cint; rw [r4]
    have c2 : cint (c_cu ks wp) 25 2 = x2.toInt := by unfold cint; rw [s4]
    have ex : x2.toInt = x1.toInt := by rw [← c1, ← c2]; exact z2.2.symm
    have hn : I.1.length = n := hF.2.1.1
    let J : IN := (I.1 ++ [x1.toInt], I.2)
    have hIJ : hxt I J := hxt_app _
    have hEJ : henv J.1 (n + 1) ((n, 0, 940) :: E) := henv_cons hF.2.1 r5 r6
    have hF' := hF.xt hIJ rfl hEJ
    refine ⟨_, List.mem_cons_self, J, hIJ, rfl, hF'.1, hF'.2.1, fun f hf => ?_, hF'.2.2.2⟩
    rcases List.mem_cons.mp hf with rfl | hf
    · exact ⟨i1, p1, e1, 1, .int x1, r1, r2, (by show 1 < 51; omega), rfl, r3, x1, x1.toInt, rfl, at_app (k := 0) hn rfl, by omega⟩
    · rcases List.mem_cons.mp hf with rfl | hf
      · exact ⟨i2, p2, e2, 2, .int x2, s1, s2, (by show 25 < 51; omega), rfl, s3, x2, x1.toInt, rfl, at_app (k := 0) hn rfl, by omega⟩
      · exact hF'.2.2.1 f hf
  · cases h
theorem hk_eqs_ok : HKP T2 FPX cy hk_eqs := by
  intro S L h I ks wp lv vs _ _ _ hF
  obtain ⟨pc, lo, st, ⟨n, E, CF, SF⟩, q⟩ := S
  unfold hk_eqs at h
  simp only at h hF
  split at h
  · rename_i a b h1 h2
    split at h
    · rename_i q1
      simp only [Bool.and_eq_true] at q1
      obtain ⟨q1, q2⟩ := q1
      have q1 := bv_eq_ok q1
      subst q1
      cases h
      obtain ⟨i1, p1, e1, z1, x1, r1, r2, r3, r4, r5, r6⟩ := hF.2.2.1 _ (f_cf_in h1)
      obtain ⟨i2, p2, e2, z2, x2, s1, s2, s3, s4, s5, s6⟩ := hF.2.2.1 _ (f_cf_in h2)
      simp only at r1 r3 r4 r5 r6 s1 s3 s4 s5 s6
      obtain ⟨y1, rfl, g1⟩ := (hv_ev_iff q2).mp r6
      obtain ⟨y2, rfl, g2⟩ := (hv_ev_iff q2).mp s6
      rw [g1] at g2
      have g2 := Option.some.inj g2
      have r4 : (1 : Int) = (z1 : Int) := Option.some.inj r4
      have s4 : (2 : Int) = (z2 : Int) := Option.some.inj s4
      have e1 : z1 = 1 := by omega
      have e2 : z2 = 2 := by omega
      subst e1
      subst e2
      have c1 : cint (c_cu ks wp) 1 1 = y1.toInt := by unfold cint; rw [c_cu_one (T := T2) hF.1 r3 r1 r2, r5]
      have c2 : cint (c_cu ks wp) 25 2 = y2.toInt := by unfold cint; rw [c_cu_one (T := T2) hF.1 s3 s1 s2, s5]
      refine ⟨_, List.mem_cons_self, I, hxt.rf, rfl, hF.1, hF.2.1, hF.2.2.1, fun f hf => ?_⟩
      rcases List.mem_cons.mp hf with rfl | hf
      · exact ⟨[], rfl, rfl, by rw [c1, c2]; exact g2⟩
      · exact hF.2.2.2 f hf
    · cases h
      exact ⟨_, List.mem_cons_self, I, hxt.rf, rfl, hF⟩
  · cases h
    exact ⟨_, List.mem_cons_self, I, hxt.rf, rfl, hF⟩
theorem four_in {z : Int} (h1 : iMin ≤ z) (h2 : z ≤ iMax) : ∃ q ∈ h_four, q.1 ≤ z ∧ z ≤ q.2 := by
  unfold h_four
  rcases (show z ≤ -1 ∨ z = 0 ∨ z = 1 ∨ 2 ≤ z by omega) with h | h | h | h
  · exact ⟨(iMin, -1), by simp, h1, h⟩
  · exact ⟨(0, 0), by simp, by simp only; omega, by simp only; omega⟩
  · exact ⟨(1, 1), by simp, by simp only; omega, by simp only; omega⟩
  · exact ⟨(2, iMax), by simp, h, h2⟩
theorem hk_four_ok : HKP T2 FPX cy hk_four := by
  intro S L h I ks wp lv vs _ _ hst hF
  obtain ⟨pc, lo, st, ⟨n, E, CF, SF⟩, q⟩ := S
  cases st with
  | nil => unfold hk_four at h; simp only at h; cases h
  | cons a st' =>
    unfold hk_four at h
    simp only at h hF hst
    split at h
    · rename_i q9 hiv
      cases h
      obtain ⟨v, vs', rfl, g1, g2⟩ := hvs_cons hst
      obtain ⟨y, rfl, i1, i2⟩ := hv_int (lo := q9.1) (hi := q9.2) hF.2.1 g1 hiv
      have hr := fb_rng y
      obtain ⟨r, r1, r2, r3⟩ := four_in (z := y.toInt) hr.1 (Int.le_of_lt_add_one hr.2)
      obtain ⟨E1, e1, e2, -⟩ := f_clamp_ev (lo := r.1) (hi := r.2) hF.2.1 (hv_ev g1) ⟨_, hiv⟩ r2 r3
      exact ⟨(n, E1, CF, SF), List.mem_filterMap.mpr ⟨r, r1, by rw [e1]; rfl⟩, I, hxt.rf, rfl, hF.1, e2, hF.2.2.1, hF.2.2.2⟩
    · cases h
end HKQ
