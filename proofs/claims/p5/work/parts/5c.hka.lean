/-! a hook of the reference: the row of codes that is read again -/
def h_rpnc : List (Int × Int × Int × Int) := [(20, 20, 1, 0), (21, 22, 2, -1), (-2147483648, 19, 0, 1), (23, 2147483647, 0, 1)]
def hk_rpn (li ld lt : Nat) : HKt := fun S => match f_find S.2.1 li, f_find S.2.1 ld, f_find S.2.1 lt, S.2.2.2.1 with
  | some i, some d, some to, (n, E, CF, SF) => (match f_cf CF 27 none (bI 88), h_mulf 3 i SF, f_iv E i, f_iv E d with
    | some s, some z, some (l, h), some _ => if (decide (0 ≤ l) && (decide (h ≤ 59) && (f_isI s && (bv_eq to (f_off z 89) && (f_sin SF 73 [i, d] && (f_sin SF 74 [] && g_leq E SF 6 (f_off i 1) s)))))) = true then (match f_clamp E d 0 h with
      | some E1 => if (f_cf CF 27 none to).isSome = true then some [(n, E1, CF, SF)] else some (h_rpnc.filterMap (fun c => match f_clamp E1 d c.2.2.1 h with
        | some E2 => some (n + 1, (n, c.1, c.2.1) :: E2, (27, none, to, bV n 0) :: CF, (73, [f_off i 1, f_off d c.2.2.2]) :: SF)
        | none => none))
      | none => some []) else some [(n, E, CF, SF)]
    | _, _, _, _ => some [(n, E, CF, SF)])
  | _, _, _, _ => none
section HKA
variable {T : TBt} {cy : Nat → ClassId} {I : IN} {ks : List Nat} {wp : va_W} {F : FS}
theorem rdep_step {f : Nat → Int} {i : Nat} {e : Int} (h : rdep f (i + 1) = some e) : ∃ d, rdep f i = some d ∧ ((f i = 20 ∧ 1 ≤ d ∧ e = d) ∨ (21 ≤ f i ∧ f i ≤ 22 ∧ 2 ≤ d ∧ e = d - 1) ∨ ((f i ≤ 19 ∨ 23 ≤ f i) ∧ e = d + 1)) := by
  simp only [rdep] at h
  cases hd : rdep f i with
  | none => rw [hd] at h; cases h
  | some d =>
    rw [hd] at h
    refine ⟨d, rfl, ?_⟩
    simp only at h
    split at h
    · rename_i q
      rw [decide_eq_true_eq] at q
      split at h
      · rename_i q2
        rw [decide_eq_true_eq] at q2
        cases h
        exact Or.inl ⟨q, q2, rfl⟩
      · cases h
    · rename_i q
      rw [decide_eq_true_eq] at q
      split at h
      · rename_i q1
        simp only [isJoin, Bool.or_eq_true, decide_eq_true_eq] at q1
        split at h
        · rename_i q2
          rw [decide_eq_true_eq] at q2
          cases h
          exact Or.inr (Or.inl ⟨by omega, by omega, q2, rfl⟩)
        · cases h
      · rename_i q1
        simp only [isJoin, Bool.or_eq_true, decide_eq_true_eq] at q1
        cases h
        exact Or.inr (Or.inr ⟨by omega, rfl⟩)
theorem rdep_in {f : Nat → Int} : ∀ {k : Nat} {d : Int}, rdep f k = some d → 0 ≤ d ∧ d ≤ k := by
  intro k
  induction k with
  | zero => intro d h; simp only [rdep, Option.some.injEq] at h; omega
  | succ k ih =>
    intro d h
    obtain ⟨e, e1, e2⟩ := rdep_step h
    have := ih e1
    omega
theorem rdep_pre {f : Nat → Int} {i : Nat} : ∀ {k : Nat} {d : Int}, rdep f k = some d → i ≤ k → ∃ e, rdep f i = some e := by
  intro k
  induction k with
  | zero =>
    intro d h hi
    have : i = 0 := by omega
    subst this
    exact ⟨_, h⟩
  | succ k ih =>
    intro d h hi
    rcases (show i = k + 1 ∨ i ≤ k by omega) with rfl | hi
    · exact ⟨_, h⟩
    · obtain ⟨e, e1, -⟩ := rdep_step h
      exact ih e1 hi
/-- a place of a row of more sorts -/
theorem cell_seg {κ n z t9 : Nat} {sg : List (Nat × BT)} {lo hi : Int} (hF : HS T FPX cy I ks wp F) (hu : κ < T.2.1) (hT : T.1[κ]? = some (.inl (t9, n, sg))) (hz : z < n) (hs : k_seg sg z = some (.inl (lo, hi))) : ∃ (i q : Nat) (e : va_E) (y : Int32), ks[i]? = some κ ∧ wp[i]? = some (q, e) ∧ cval e z = some (.int y) ∧ cint (c_cu ks wp) κ z = y.toInt ∧ lo ≤ y.toInt ∧ y.toInt ≤ hi := by
  obtain ⟨i, hi9⟩ := hF.1.2.2.2.2 κ hu
  obtain ⟨q, e, d, g1, g2, g3, -⟩ := hF.1.2.1 i κ hi9
  rw [hT] at g2
  cases g2
  obtain ⟨v, v1, y, rfl, v2, v3⟩ := g3.2 z (.inl (lo, hi)) hz hs
  refine ⟨i, q, e, y, hi9, g1, v1, ?_, v2, v3⟩
  unfold cint
  rw [c_cu_one hF.1 hu hi9 g1, v1]
theorem hk_rpn_ok {li ld lt t9 : Nat} {sg : List (Nat × BT)} (hu : 27 < T.2.1) (hT : T.1[27]? = some (.inl (t9, 269, sg))) (hsg : ∀ z, 89 ≤ z → z < 269 → ∃ lo hi, k_seg sg z = some (.inl (lo, hi))) : HKP T FPX cy (hk_rpn li ld lt) := by
  intro S L h I ks wp lv vs _ hlo _ hF
  obtain ⟨pc, lo, st, ⟨n, E, CF, SF⟩, q⟩ := S
  unfold hk_rpn at h
  simp only at h hF hlo
  have same : ∃ F ∈ [((n, E, CF, SF) : FS)], ∃ J : IN, hxt I J ∧ J.2 = I.2 ∧ HS T FPX cy J ks wp F := ⟨_, List.mem_cons_self, I, hxt.rf, rfl, hF⟩
  split at h
  · rename_i i d to n9 E9 CF9 SF9 hi hd hto heq
    cases heq
    split at h
    · rename_i s z l h9 q8 hs hz hiv hdv
      split at h
      · rename_i q
        simp only [Bool.and_eq_true, decide_eq_true_eq] at q
        obtain ⟨q1, q2, q3, q4, q5, q6, q7⟩ := q
        obtain ⟨zs, z1, j, e, rfl, hj60, hdep⟩ := hF.2.2.2 _ (f_sin_ok q5)
        obtain ⟨k1, k2⟩ := evs_two z1
        obtain ⟨zs, -, -, d9, h60, hall⟩ := hF.2.2.2 _ (f_sin_ok q6)
        have wi := ev_iv hF.2.1 k1 hiv
        obtain ⟨x, y', x1, x2, x3⟩ := sf_mul (hF.2.2.2 _ (h_mulf_ok hz))
        rw [k1] at x2
        have x4 := Option.some.inj x2
        obtain ⟨b1, -, -⟩ := mul_in (y := y') (l := 0) (h := 1000000) x1 (by omega) (by omega) (by omega) (by omega) (by omega) (by omega)
        have hto9 : f_ev I.1 to = some ((89 + 3 * j : Nat) : Int) := by
          rw [bv_eq_ok q4, ev_off x3]
          congr 1
          omega
        obtain ⟨s1, s2, s3⟩ := hcf_int hF hs q3
        have e2 : s1 = 88 := by
          have : (88 : Int) = (s1 : Int) := Option.some.inj s2
          omega
        subst e2
        have hle := g_leq_ok FPX0 hF.2.1 hF.2.2.2 6 q7 (ev_off k1) s3
        have hdin := rdep_in hdep
        obtain ⟨E1, e1, e2, e3⟩ := f_clamp_ev (lo := 0) (hi := h9) hF.2.1 k2 ⟨_, hdv⟩ (by omega) (by omega)
        rw [e1] at h
        simp only at h
        split at h
        · cases h
          exact ⟨_, List.mem_cons_self, I, hxt.rf, rfl, hF.1, e2, hF.2.2.1, hF.2.2.2⟩
        · cases h
          obtain ⟨e', he'⟩ := rdep_pre (i := j + 1) hall (by omega)
          obtain ⟨d0, hd0, hcase⟩ := rdep_step he'
          rw [hdep] at hd0
          cases hd0
          obtain ⟨lo9, hi9, hsg9⟩ := hsg (89 + 3 * j) (by omega) (by omega)
          obtain ⟨i10, p10, c10, y10, w1, w2, w3, w4, -⟩ := cell_seg hF hu hT (show 89 + 3 * j < 269 by omega) hsg9
          rw [w4] at hcase
          have hy10 := fb_rng y10
          have hn : I.1.length = n := hF.2.1.1
          have go : ∀ c ∈ h_rpnc, c.1 ≤ y10.toInt → y10.toInt ≤ c.2.1 → c.2.2.1 ≤ e → e' = e + c.2.2.2 → ∃ F ∈ h_rpnc.filterMap (fun c => match f_clamp E1 d c.2.2.1 h9 with | some E2 => some ((n + 1, (n, c.1, c.2.1) :: E2, (27, none, to, bV n 0) :: CF, (73, [f_off i 1, f_off d c.2.2.2]) :: SF) : FS) | none => none), ∃ J : IN, hxt I J ∧ J.2 = I.2 ∧ HS T FPX cy J ks wp F := by
            intro c c1 c2 c3 c4 c5
            obtain ⟨E2, f1, f2, -⟩ := f_clamp_ev (lo := c.2.2.1) (hi := h9) e2 k2 (e3 _ _ hdv) c4 (by omega)
            let J : IN := (I.1 ++ [y10.toInt], I.2)
            have hIJ : hxt I J := hxt_app _
            have hF0 : HS T FPX cy I ks wp (n, E2, CF, SF) := ⟨hF.1, f2, hF.2.2.1, hF.2.2.2⟩
            have hF' := hF0.xt hIJ rfl (henv_cons f2 c2 c3)
            refine ⟨(n + 1, (n, c.1, c.2.1) :: E2, (27, none, to, bV n 0) :: CF, (73, [f_off i 1, f_off d c.2.2.2]) :: SF), List.mem_filterMap.mpr ⟨c, c1, by rw [f1]⟩, J, hIJ, rfl, hF'.1, hF'.2.1, fun f hf => ?_, fun f hf => ?_⟩
            · rcases List.mem_cons.mp hf with rfl | hf
              · exact ⟨i10, p10, c10, 89 + 3 * j, .int y10, w1, w2, hu, ev_xt hIJ hto9, w3, y10, y10.toInt, rfl, at_app (k := 0) hn rfl, by omega⟩
              · exact hF'.2.2.1 f hf
            · rcases List.mem_cons.mp hf with rfl | hf
              · refine ⟨[(j : Int) + 1, e + c.2.2.2], by simp only [f_evs, ev_off (ev_xt hIJ k1), ev_off (ev_xt hIJ k2)], j + 1, e', ?_, by omega, he'⟩
                rw [c5, show ((j + 1 : Nat) : Int) = (j : Int) + 1 by omega]
              · exact hF'.2.2.2 f hf
          rcases hcase with hc | hc | ⟨hc | hc, hc2⟩
          · exact go (20, 20, 1, 0) (by simp [h_rpnc]) (by simp only; omega) (by simp only; omega) (by simp only; omega) (by simp only; omega)
          · exact go (21, 22, 2, -1) (by simp [h_rpnc]) (by simp only; omega) (by simp only; omega) (by simp only; omega) (by simp only; omega)
          · exact go (-2147483648, 19, 0, 1) (by simp [h_rpnc]) (by simp only; omega) (by simp only; omega) (by simp only; omega) (by simp only; omega)
          · exact go (23, 2147483647, 0, 1) (by simp [h_rpnc]) (by simp only; omega) (by simp only; omega) (by simp only; omega) (by simp only; omega)
      · cases h; exact same
    · cases h; exact same
  · cases h
end HKA
