/-! hooks of the reference: a row of its book; codes and stack of a sentence -/
def h_mulf (m : Int) (i : BV) (L : List SFt) : Option BV := match L with
  | [] => none
  | f :: r => (match f.1, f.2 with
    | 23, [.inl m', a, z] => if (decide (m' = m) && bv_eq a i) = true then some z else h_mulf m i r
    | _, _ => h_mulf m i r)
/-- four times a local, named -/
def hk_mulnew (li : Nat) : HKt := fun S => match f_find S.2.1 li, S.2.2.2.1 with
  | some i, (n, E, CF, SF) => (match h_mulf 4 i SF with
    | some _ => some [(n, E, CF, SF)]
    | none => (match f_iv E i with
      | some (l, h) => if (decide (0 ≤ l) && decide (h ≤ 1000000)) = true then some [(n + 1, (n, 4 * l, 4 * h) :: E, CF, (23, [bI 4, i, bV n 0]) :: SF)] else none
      | none => none))
  | _, _ => none
/-- row i told apart -/
def hk_rdi (li : Nat) : HKt := fun S => match f_find S.2.1 li, S.2.2.2.1 with
  | some i, (n, E, CF, SF) => (match h_mulf 4 i SF with
    | some z => if (h_in E (some i) 0 39 && SF.any (fun f => match f.1, f.2 with | 60, [m, _] => g_leq E SF 6 (f_off i 1) m | _, _ => false)) = true then some ((n + 2, (n + 1, 1, 60) :: (n, 6, 6) :: E, (29, none, z, bV n 0) :: (29, none, f_off z 1, bV (n + 1) 0) :: CF, SF) :: h_rc.map (fun c => (n + 3, (n + 2, c.2.2.2.2.1, c.2.2.2.2.2) :: (n + 1, c.2.2.1, c.2.2.2.1) :: (n, c.1, c.2.1) :: E, (29, none, z, bV n 0) :: (29, none, f_off z 1, bV (n + 1) 0) :: (29, none, f_off z 2, bV (n + 2) 0) :: CF, SF))) else some [(n, E, CF, SF)]
    | none => some [(n, E, CF, SF)])
  | _, _ => none
/-- codes, stack, ones: where they lie -/
def h_lin (E : EB) (L : List SFt) : Option EB := match L with
  | [] => some E
  | f :: r => (match f.1, f.2 with
    | 72, [c, t, o, .inl w] => (match f_iv E c, f_iv E t, f_iv E o with
      | some (lc, _), some (lt, _), some (_, ho) => (match f_clamp E c lc (2 * ho - w - lt) with
        | some E1 => (match f_clamp E1 t lt (2 * ho - w - lc) with
          | some E2 => h_lin E2 r
          | none => none)
        | none => none)
      | _, _, _ => h_lin E r)
    | 71, [t, b] => (match f_iv E t, f_iv E b with
      | some (_, ht), some _ => (match f_clamp E b 0 ht with
        | some E1 => h_lin E1 r
        | none => none)
      | _, _ => h_lin E r)
    | _, _ => h_lin E r)
def hk_lin : HKt := fun S => match S.2.2.2.1 with
  | (n, E, CF, SF) => (match h_lin E SF with
    | some E1 => some [(n, E1, CF, SF)]
    | none => some [])
section HK7
variable {T : TBt} {cy : Nat → ClassId} {I : IN} {ks : List Nat} {wp : va_W} {F : FS}
theorem h_mulf_ok {m : Int} {i z : BV} : ∀ {L : List SFt}, h_mulf m i L = some z → (23, [.inl m, i, z]) ∈ L := by
  intro L
  induction L with
  | nil => intro h; cases h
  | cons f r ih =>
    obtain ⟨id, as⟩ := f
    intro h
    unfold h_mulf at h
    simp only at h
    split at h
    · rename_i m a z9
      split at h
      · rename_i q
        simp only [Bool.and_eq_true, decide_eq_true_eq] at q
        cases h
        rw [← bv_eq_ok q.2, q.1]
        exact List.mem_cons_self
      · exact List.mem_cons_of_mem _ (ih h)
    · exact List.mem_cons_of_mem _ (ih h)
theorem hk_mulnew_ok {li : Nat} : HKP T FPX cy (hk_mulnew li) := by
  intro S L h I ks wp lv vs _ hlo _ hF
  obtain ⟨pc, lo, st, ⟨n, E, CF, SF⟩, q⟩ := S
  unfold hk_mulnew at h
  simp only at h hF hlo
  split at h
  · rename_i i n9 E9 CF9 SF9 hi heq
    cases heq
    split at h
    · cases h
      exact ⟨_, List.mem_cons_self, I, hxt.rf, rfl, hF⟩
    · split at h
      · rename_i l h9 hiv
        split at h
        · rename_i q
          simp only [Bool.and_eq_true, decide_eq_true_eq] at q
          cases h
          obtain ⟨k9, v, e1, g1⟩ := f_find_ok hlo hi
          obtain ⟨y, rfl, y1, y2⟩ := hv_int hF.2.1 g1 hiv
          have hy := hv_ev g1
          obtain ⟨b1, b2, b3⟩ := mul_in (x := 4) (m := 4) (y := y) rfl (by omega) (by omega) q.1 q.2 y1 y2
          have hn : I.1.length = n := hF.2.1.1
          let J : IN := (I.1 ++ [4 * y.toInt], I.2)
          have hIJ : hxt I J := hxt_app _
          have hF' := hF.xt hIJ rfl (henv_cons hF.2.1 b2 b3)
          refine ⟨_, List.mem_cons_self, J, hIJ, rfl, hF'.sf ⟨[4, y.toInt, 4 * y.toInt], ?_, 4, y, ?_⟩⟩
          · have e4 : f_ev J.1 (bV n 0) = some (4 * y.toInt) := by
              show (match J.1[n]? with | some z => some (z + 0) | none => none) = _
              rw [show J.1[n]? = some (4 * y.toInt) from at_app (k := 0) hn rfl]
              simp
            simp only [f_evs, ev_xt hIJ hy, e4]; rfl
          · show _ = [(4 : Int32).toInt, y.toInt, (4 * y).toInt]
            rw [b1]; rfl
        · cases h
      · cases h
  · cases h
theorem rdOK_in {v a o : Int} (h : rdOK v a o) : (v = 6 ∧ 1 ≤ a ∧ a ≤ 60) ∨ ∃ c ∈ h_rc, (c.1 ≤ v ∧ v ≤ c.2.1) ∧ (c.2.2.1 ≤ a ∧ a ≤ c.2.2.2.1) ∧ c.2.2.2.2.1 ≤ o ∧ o ≤ c.2.2.2.2.2 := by
  unfold h_rc
  rcases h with h | h | h | h | h
  · exact Or.inr ⟨(0, 0, 0, 5, 0, 3), by simp, by simp only; omega, by simp only; omega, by simp only; omega⟩
  · exact Or.inr ⟨(1, 1, 0, 5, 0, 5), by simp, by simp only; omega, by simp only; omega, by simp only; omega⟩
  · exact Or.inr ⟨(2, 4, 0, 5, 0, 7), by simp, by simp only; omega, by simp only; omega, by simp only; omega⟩
  · exact Or.inr ⟨(5, 5, 0, 5, 0, 5), by simp, by simp only; omega, by simp only; omega, by simp only; omega⟩
  · exact Or.inl h
theorem hk_rdi_ok {li t9 : Nat} {a0 b0 : Int} (hu : 29 < T.2.1) (hT : T.1[29]? = some (.inl (t9, 160, [(160, .inl (a0, b0))]))) : HKP T FPX cy (hk_rdi li) := by
  intro S L h I ks wp lv vs _ hlo _ hF
  obtain ⟨pc, lo, st, ⟨n, E, CF, SF⟩, q⟩ := S
  unfold hk_rdi at h
  simp only at h hF hlo
  have same : ∃ F ∈ [((n, E, CF, SF) : FS)], ∃ J : IN, hxt I J ∧ J.2 = I.2 ∧ HS T FPX cy J ks wp F := ⟨_, List.mem_cons_self, I, hxt.rf, rfl, hF⟩
  split at h
  · rename_i i n9 E9 CF9 SF9 hi heq
    cases heq
    split at h
    · rename_i z hz
      split at h
      · rename_i q
        simp only [Bool.and_eq_true] at q
        obtain ⟨q1, q2⟩ := q
        cases h
        obtain ⟨k9, v, e1, g1⟩ := f_find_ok hlo hi
        simp only [h_in] at q1
        split at q1
        · rename_i l h9 hiv
          simp only [Bool.and_eq_true, decide_eq_true_eq] at q1
          obtain ⟨y, rfl, y1, y2⟩ := hv_int hF.2.1 g1 hiv
          have hy := hv_ev g1
          obtain ⟨x, y', x1, x2, x3⟩ := sf_mul (hF.2.2.2 _ (h_mulf_ok hz))
          rw [hy] at x2
          have x4 := Option.some.inj x2
          obtain ⟨b1, -, -⟩ := mul_in (y := y') (l := 0) (h := 1000000) x1 (by omega) (by omega) (by omega) (by omega) (by omega) (by omega)
          obtain ⟨j, hj⟩ : ∃ j : Nat, y.toInt = (j : Int) := ⟨y.toInt.toNat, by omega⟩
          have hzj : f_ev I.1 z = some ((4 * j : Nat) : Int) := by rw [x3]; congr 1; omega
          obtain ⟨⟨id, as⟩, m1, m2⟩ := List.any_eq_true.mp q2
          simp only at m2
          split at m2
          · rename_i m w9
            obtain ⟨zs, z1, k, rfl, hrow⟩ := hF.2.2.2 _ m1
            obtain ⟨k1, k2⟩ := evs_two z1
            have hle := g_leq_ok FPX0 hF.2.1 hF.2.2.2 6 m2 (ev_off hy) k1
            have hr := hrow j (by omega)
            obtain ⟨i10, p10, c10, y10, w1, w2, w3, w4, -⟩ := cell_int hF hu hT (show 4 * j < 160 by omega)
            obtain ⟨i11, p11, c11, y11, r1, r2, r3, r4, -⟩ := cell_int hF hu hT (show 4 * j + 1 < 160 by omega)
            obtain ⟨i12, p12, c12, y12, s1, s2, s3, s4, -⟩ := cell_int hF hu hT (show 4 * j + 2 < 160 by omega)
            rw [w4, r4, s4] at hr
            have hn : I.1.length = n := hF.2.1.1
            rcases rdOK_in hr with ⟨d1, d2, d3⟩ | ⟨c, c1, c2, c3, c4⟩
            · let J : IN := (I.1 ++ [y10.toInt, y11.toInt], I.2)
              have hIJ : hxt I J := hxt_app _
              have hEJ : henv J.1 (n + 2) ((n + 1, 1, 60) :: (n, 6, 6) :: E) := by
                have b1 := henv_cons (lo := 6) (hi := 6) (y := y10.toInt) hF.2.1 (by omega) (by omega)
                have b2 := henv_cons b1 d2 d3
                have e9 : J.1 = I.1 ++ [y10.toInt] ++ [y11.toInt] := by show I.1 ++ _ = _; simp
                rw [e9]
                exact b2
              have hF' := hF.xt hIJ rfl hEJ
              have hz0 : f_ev J.1 z = some ((4 * j : Nat) : Int) := ev_xt hIJ hzj
              have hz1 : f_ev J.1 (f_off z 1) = some ((4 * j + 1 : Nat) : Int) := ev_off hz0
              refine ⟨_, List.mem_cons_self, J, hIJ, rfl, hF'.1, hF'.2.1, fun f hf => ?_, hF'.2.2.2⟩
              rcases List.mem_cons.mp hf with rfl | hf
              · exact ⟨i10, p10, c10, 4 * j, .int y10, w1, w2, hu, hz0, w3, y10, y10.toInt, rfl, at_app (k := 0) hn rfl, by omega⟩
              · rcases List.mem_cons.mp hf with rfl | hf
                · exact ⟨i11, p11, c11, 4 * j + 1, .int y11, r1, r2, hu, hz1, r3, y11, y11.toInt, rfl, at_app (k := 1) hn rfl, by omega⟩
                · exact hF'.2.2.1 f hf
            · let J : IN := (I.1 ++ [y10.toInt, y11.toInt, y12.toInt], I.2)
              have hIJ : hxt I J := hxt_app _
              have hEJ : henv J.1 (n + 3) ((n + 2, c.2.2.2.2.1, c.2.2.2.2.2) :: (n + 1, c.2.2.1, c.2.2.2.1) :: (n, c.1, c.2.1) :: E) := by
                have b1 := henv_cons hF.2.1 c2.1 c2.2
                have b2 := henv_cons b1 c3.1 c3.2
                have b3 := henv_cons b2 c4.1 c4.2
                have e9 : J.1 = I.1 ++ [y10.toInt] ++ [y11.toInt] ++ [y12.toInt] := by show I.1 ++ _ = _; simp
                rw [e9]
                exact b3
              have hF' := hF.xt hIJ rfl hEJ
              have hz0 : f_ev J.1 z = some ((4 * j : Nat) : Int) := ev_xt hIJ hzj
              have hz1 : f_ev J.1 (f_off z 1) = some ((4 * j + 1 : Nat) : Int) := ev_off hz0
              have hz2 : f_ev J.1 (f_off z 2) = some ((4 * j + 2 : Nat) : Int) := ev_off hz0
              refine ⟨_, List.mem_cons_of_mem _ (List.mem_map.mpr ⟨c, c1, rfl⟩), J, hIJ, rfl, hF'.1, hF'.2.1, fun f hf => ?_, hF'.2.2.2⟩
              rcases List.mem_cons.mp hf with rfl | hf
              · exact ⟨i10, p10, c10, 4 * j, .int y10, w1, w2, hu, hz0, w3, y10, y10.toInt, rfl, at_app (k := 0) hn rfl, by omega⟩
              · rcases List.mem_cons.mp hf with rfl | hf
                · exact ⟨i11, p11, c11, 4 * j + 1, .int y11, r1, r2, hu, hz1, r3, y11, y11.toInt, rfl, at_app (k := 1) hn rfl, by omega⟩
                · rcases List.mem_cons.mp hf with rfl | hf
                  · exact ⟨i12, p12, c12, 4 * j + 2, .int y12, s1, s2, hu, hz2, s3, y12, y12.toInt, rfl, at_app (k := 2) hn rfl, by omega⟩
                  · exact hF'.2.2.1 f hf
          · cases m2
        · cases q1
      · cases h; exact same
    · cases h; exact same
  · cases h
theorem njoin_in {f : Nat → Int} : ∀ t : Nat, 0 ≤ njoin f t ∧ njoin f t ≤ t := by
  intro t
  induction t with
  | zero => exact ⟨by simp [njoin], by simp [njoin]⟩
  | succ t ih =>
    simp only [njoin]
    split <;> omega
/-- a fact of four -/
theorem sf_lin {cu : CUt} {c t o : BV} {w : Int} (h : hsf FPX I cu (72, [c, t, o, .inl w])) : ∃ x y z, f_ev I.1 c = some x ∧ f_ev I.1 t = some y ∧ f_ev I.1 o = some z ∧ x + y + w ≤ 2 * z := by
  obtain ⟨zs, z1, x, y, z, w9, rfl, h9⟩ := h
  simp only [f_evs] at z1
  cases hc : f_ev I.1 c with
  | none => rw [hc] at z1; cases z1
  | some c9 =>
    cases ht : f_ev I.1 t with
    | none => rw [hc, ht] at z1; cases z1
    | some t9 =>
      cases ho : f_ev I.1 o with
      | none => rw [hc, ht, ho] at z1; cases z1
      | some o9 =>
        rw [hc, ht, ho] at z1
        simp only [f_ev, Option.some.injEq, List.cons.injEq, and_true] at z1
        obtain ⟨rfl, rfl, rfl, rfl⟩ := z1
        exact ⟨_, _, _, rfl, rfl, rfl, h9⟩
theorem h_lin_ok {n : Nat} {cu : CUt} : ∀ (L : List SFt) (E : EB), henv I.1 n E → (∀ f ∈ L, hsf FPX I cu f) → ∃ E1, h_lin E L = some E1 ∧ henv I.1 n E1 := by
  intro L
  induction L with
  | nil => intro E hE _; exact ⟨E, rfl, hE⟩
  | cons f s ih =>
    obtain ⟨id, as⟩ := f
    intro E hE hS
    have hr : ∀ f ∈ s, hsf FPX I cu f := fun f hf => hS f (List.mem_cons_of_mem _ hf)
    unfold h_lin
    simp only
    split
    · rename_i c t o w
      split
      · rename_i lc hc lt ht lo9 ho hc9 ht9 ho9
        obtain ⟨x, y, z, g1, g2, g3, g4⟩ := sf_lin (hS _ List.mem_cons_self)
        have wc := ev_iv hE g1 hc9
        have wt := ev_iv hE g2 ht9
        have wo := ev_iv hE g3 ho9
        obtain ⟨E1, e1, e2, e3⟩ := f_clamp_ev (lo := lc) (hi := 2 * ho - w - lt) hE g1 ⟨_, hc9⟩ (by omega) (by omega)
        obtain ⟨E2, e4, e5, -⟩ := f_clamp_ev (lo := lt) (hi := 2 * ho - w - lc) e2 g2 (e3 _ _ ht9) (by omega) (by omega)
        rw [e1]
        simp only
        rw [e4]
        exact ih E2 e5 hr
      · exact ih E hE hr
    · rename_i t b
      split
      · rename_i lt ht q ht9 hb9
        obtain ⟨zs, z1, k, rfl⟩ := hS _ List.mem_cons_self
        obtain ⟨k1, k2⟩ := evs_two z1
        have wt := ev_iv hE k1 ht9
        have wn := njoin_in (f := cint cu 39) k
        obtain ⟨E1, e1, e2, -⟩ := f_clamp_ev (lo := 0) (hi := ht) hE k2 ⟨_, hb9⟩ (by omega) (by omega)
        rw [e1]
        exact ih E1 e2 hr
      · exact ih E hE hr
    · exact ih E hE hr
theorem hk_lin_ok : HKP T FPX cy hk_lin := by
  intro S L h I ks wp lv vs _ _ _ hF
  obtain ⟨pc, lo, st, ⟨n, E, CF, SF⟩, q⟩ := S
  unfold hk_lin at h
  simp only at h hF
  obtain ⟨E1, e1, e2⟩ := h_lin_ok SF E hF.2.1 hF.2.2.2
  rw [e1] at h
  cases h
  exact ⟨_, List.mem_cons_self, I, hxt.rf, rfl, hF.1, e2, hF.2.2.1, hF.2.2.2⟩
end HK7
