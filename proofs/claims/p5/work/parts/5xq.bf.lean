/-! what is said of a book that is read: for the class, for the reference (facts of p5) -/
/-! a text's tokens: values that do not count -/
theorem Tok_val {b : Int → Int} {n lim i kd st val val' e : Int} (h : Tok b n lim i kd st val e) (hv : kd = 1 ∨ kd = 2 ∨ kd = 3 → val' = val) : Tok b n lim i kd st val' e := by
  by_cases q : kd = 1 ∨ kd = 2 ∨ kd = 3
  · rw [hv q]; exact h
  · obtain ⟨j, hs, h⟩ := h
    refine ⟨j, hs, ?_⟩
    rcases h with h | h | ⟨h1, h2, h3, h4⟩
    · exact Or.inl h
    · exact Or.inr (Or.inl h)
    · refine Or.inr (Or.inr ⟨h1, h2, h3, ?_⟩)
      rcases h4 with ⟨g1, m, g2, g3, g4⟩ | h4
      · refine Or.inl ⟨g1, m, g2, g3, ?_⟩
        rcases g4 with ⟨w1, w2, ⟨w, w3, w4, w5, w6, w7⟩ | ⟨w3, w6, w7⟩⟩ | ⟨w1, w2, w3, w4, w5⟩ | h
        · exact absurd (Or.inr (Or.inl w6)) q
        · exact absurd (Or.inl w6) q
        · exact absurd (Or.inr (Or.inr w4)) q
        · exact Or.inr (Or.inr h)
      · exact Or.inr h4
theorem OpenT_val {b : Int → Int} {n lim : Int} {k : Nat} {P K S V K' S' V' : Nat → Int} (h : OpenT b n lim k P K S V) (hK : ∀ j, j ≤ k → K' j = K j) (hS : ∀ j, j ≤ k → S' j = S j) (hV : ∀ j, j ≤ k → (K j = 1 ∨ K j = 2 ∨ K j = 3) → V' j = V j) : OpenT b n lim k P K' S' V' := by
  obtain ⟨o0, o1, o2, o3, o4, o5⟩ := h
  refine ⟨o0, fun j hj => ?_, fun j hj => ?_, ?_, o4, o5⟩
  · rw [hK j hj, hS j hj]
    exact Tok_val (o1 j hj) (hV j hj)
  · rw [hK j (by omega)]
    exact o2 j hj
  · rw [hK k (Nat.le_refl _)]
    exact o3
theorem FA_self {K S V F : Nat → Int} (h2 : F 2 = 0) (h3 : F 3 = K 0) (h4 : F 4 = S 0) (h5 : F 5 = V 0) : FA K S V F 0 = F := by
  funext j
  unfold FA
  by_cases e5 : j = 5
  · subst e5; rw [zup_eq]; exact h5.symm
  · rw [zup_ne e5]
    by_cases e4 : j = 4
    · subst e4; rw [zup_eq]; exact h4.symm
    · rw [zup_ne e4]
      by_cases e3 : j = 3
      · subst e3; rw [zup_eq]; exact h3.symm
      · rw [zup_ne e3]
        by_cases e2 : j = 2
        · subst e2; rw [zup_eq]; exact h2.symm
        · rw [zup_ne e2]
/-! more fuel changes nothing -/
theorem bMk_mono {K V CN NM : Nat → Int} {R : Int × Nat} (hR : ¬ R.1 = 99) : ∀ (t s i : Nat), bMk K V CN NM t s i = R → ∀ T, bMk K V CN NM (T + t) s i = R := by
  intro t
  induction t with
  | zero => intro s i h T; exact absurd (by rw [← h]; rfl) hR
  | succ t ih =>
    intro s i h T
    rw [← Nat.add_assoc, bMk_s]
    rw [bMk_s] at h
    split
    · rename_i q1
      rw [if_pos q1] at h
      split
      · rename_i q2
        rw [if_pos q2] at h
        exact h
      · rename_i q2
        rw [if_neg q2] at h
        split
        · rename_i q3
          rw [if_pos q3] at h
          exact ih _ _ h T
        · rename_i q3
          rw [if_neg q3] at h
          exact h
    · rename_i q1
      rw [if_neg q1] at h
      exact h
theorem bLine_mono {K V CN NM : Nat → Int} {R : Int × Nat} (hR : ¬ R.1 = 99) {t n i : Nat} (h : bLine K V CN NM t n i = R) (T : Nat) : bLine K V CN NM (T + t) n i = R := by
  rw [bLine_e] at h ⊢
  split
  · rename_i q1
    rw [if_pos q1] at h
    exact h
  · rename_i q1
    rw [if_neg q1] at h
    split
    · rename_i q2
      rw [if_pos q2] at h
      split
      · rename_i q3
        rw [if_pos q3] at h
        exact h
      · rename_i q3
        rw [if_neg q3] at h
        unfold bAct at h ⊢
        split
        · rename_i q4
          rw [if_pos q4] at h
          split
          · rename_i q5
            rw [if_pos q5] at h
            split
            · rename_i q6
              rw [if_pos q6] at h
              exact bMk_mono hR _ _ _ h T
            · rename_i q6
              rw [if_neg q6] at h
              exact h
          · rename_i q5
            rw [if_neg q5] at h
            exact h
        · rename_i q4
          rw [if_neg q4] at h
          exact h
    · rename_i q2
      rw [if_neg q2] at h
      exact h
theorem bLine_40 {K V CN NM : Nat → Int} {t n i : Nat} (hn : 40 ≤ n) : ¬ (bLine K V CN NM t n i).1 = 0 := by
  rw [bLine_e, if_pos hn, if_pos hn]
  split
  · exact (by decide : ¬ (4 : Int) = 0)
  · split
    · exact (by decide : ¬ (4 : Int) = 0)
    · rename_i q; exact q
/-- one line on -/
theorem bRun_line {K V CN NM : Nat → Int} {R : Int × Nat} {t0 i j : Nat} (hK : ¬ K j = 0) (hR : ¬ R.1 = 99) (h : ∀ T, bRun K V CN NM (T + t0) i j = R) : ∃ R' : Int × Nat, bLine K V CN NM t0 i j = R' ∧ ¬ R'.1 = 99 ∧ ((R'.1 = 0 ∧ ∀ T, (if K R'.2 = 59 then bRun K V CN NM (T + t0) (i + 1) (R'.2 + 1) else (1, R'.2)) = R) ∨ (¬ R'.1 = 0 ∧ R = R')) := by
  obtain ⟨R', hR'⟩ : ∃ R', bLine K V CN NM t0 i j = R' := ⟨_, rfl⟩
  have h1 : ∀ T, bRun K V CN NM (T + t0 + 1) i j = R := fun T => by
    have h9 := h (T + 1)
    rwa [show T + 1 + t0 = T + t0 + 1 by omega] at h9
  have hn : ¬ R'.1 = 99 := by
    intro h99
    have h9 := h1 0
    rw [Nat.zero_add, bRun_s, if_neg hK, hR', if_neg (by omega)] at h9
    exact hR (by rw [← h9]; exact h99)
  refine ⟨R', hR', hn, ?_⟩
  by_cases h0 : R'.1 = 0
  · refine Or.inl ⟨h0, fun T => ?_⟩
    have h9 := h1 T
    rw [bRun_s, if_neg hK, bLine_mono hn hR' T, if_pos h0] at h9
    exact h9
  · refine Or.inr ⟨h0, ?_⟩
    have h9 := h1 0
    rw [Nat.zero_add, bRun_s, if_neg hK, hR', if_neg h0] at h9
    exact h9.symm
/-! the reference's place, told by cells -/
theorem rAt_eq {P K S V F F9 : Nat → Int} {j : Nat} (h : rAt P K S V F j) (e4 : F9 4 = F 4) (e11 : F9 11 = F 11) (e12 : F9 12 = F 12) (e14 : F9 14 = F 14) (e17 : F9 17 = F 17) : rAt P K S V F9 j := by
  unfold rAt tokM
  rw [e4, e11, e12, e14, e17]
  exact h
theorem cR_at {cu : CUt} : cR cu 4 = cint cu 25 4 ∧ cR cu 11 = cint cu 25 11 ∧ cR cu 12 = cint cu 25 12 ∧ cR cu 14 = cint cu 25 14 ∧ cR cu 17 = clong cu 25 17 := ⟨rfl, rfl, rfl, rfl, rfl⟩
theorem rAt_wr {P K S V F9 F B : Nat → Int} {n : Int} {j k : Nat} (hT : bText B n k P K S V) (hj : j ≤ k) (h : rAt P K S V F9 j) (e4 : zin (F9 4) → F 4 = F9 4) (e11 : zin (F9 11) → F 11 = F9 11) (e12 : zin (F9 12) → F 12 = F9 12) (e14 : zin (F9 14) → F 14 = F9 14) (e17 : zin64 (F9 17) → F 17 = F9 17) : rAt P K S V F j := by
  obtain ⟨hn, hO⟩ := hT
  obtain ⟨h12, hm, h4⟩ := h
  have hp := hO.2.2.2.2.2 j hj
  have tr := tok_rng hn ⟨by decide, by decide⟩ hp.1 hp.2 (hO.2.1 j hj)
  have f11 := hm.t11
  have g11 : F 11 = F9 11 := e11 ⟨by omega, by omega⟩
  have g12 : F 12 = F9 12 := e12 ⟨by omega, by omega⟩
  refine ⟨by rw [g12, h12], ?_, fun q0 q4 => ?_⟩
  · rcases hm with ⟨a, b⟩ | ⟨a, b⟩ | ⟨a, b, c, d, e⟩ | ⟨a, b, c, d⟩ | ⟨a, b, c, d⟩ | ⟨a, b, c, d⟩
    · exact Or.inl ⟨a, by rw [g11]; exact b⟩
    · exact Or.inr (Or.inl ⟨a, by rw [g11]; exact b⟩)
    · have hw := wd_rng (V j)
      have g17 : F 17 = F9 17 := e17 ⟨by omega, by omega⟩
      exact Or.inr (Or.inr (Or.inl ⟨a, by rw [g11]; exact b, by rw [g17]; exact c, by rw [g17]; exact d, e⟩))
    · have hw := RC_rng (V j).toNat (by omega)
      have g17 : F 17 = F9 17 := e17 ⟨by omega, by omega⟩
      exact Or.inr (Or.inr (Or.inr (Or.inl ⟨a, by rw [g11]; exact b, by rw [g17]; exact c, d⟩)))
    · have g14 : F 14 = F9 14 := e14 ⟨by omega, by omega⟩
      exact Or.inr (Or.inr (Or.inr (Or.inr (Or.inl ⟨a, by rw [g11]; exact b, by rw [g14]; exact c, d⟩))))
    · have g14 : F 14 = F9 14 := e14 ⟨by omega, by omega⟩
      exact Or.inr (Or.inr (Or.inr (Or.inr (Or.inr ⟨a, b, by rw [g11]; exact c, by rw [g14]; exact d⟩))))
  · have e9 := h4 q0 q4
    have hk : j + 1 ≤ k := by
      rcases (show j < k ∨ j = k by omega) with q | rfl
      · omega
      · rcases hO.2.2.2.1 with q | q
        · exact absurd q q0
        · exact absurd q q4
    have hp1 := hO.2.2.2.2.2 (j + 1) hk
    rw [e4 ⟨by omega, by omega⟩, e9]
/-- a city's names, told by cells -/
theorem bCity_of {cu : CUt} {g NM : Nat → Int} {x : Int} (hI : INV g NM x) (hg : ∀ s, s < 4 → cint cu 27 s = g s) (hnm : ∀ s i : Nat, s < 4 → (i : Int) < g s → (0 ≤ NM (s * 10 + i) ∧ NM (s * 10 + i) < 34359738368) ∧ cu 30 (bs s - 28 + i) = some (.long (Int64.ofInt (wd (NM (s * 10 + i)))))) : bCity (cS cu) (cN cu) g NM x := by
  refine ⟨⟨fun s hs => ?_, fun s i hs hi => ?_, fun q => ?_⟩, hI⟩
  · unfold cS
    rw [if_pos hs]
    exact hg s hs
  · obtain ⟨r1, r2⟩ := hnm s i hs hi
    have hlt := bs_lt hI hs hi
    have r5 := wd_rng (NM (s * 10 + i))
    refine ⟨?_, r1⟩
    unfold cN
    rw [if_pos (by omega)]
    exact clong_of r2 ⟨by omega, by omega⟩
  · unfold cN
    split
    · unfold clong
      split
      · exact zin64_T _
      · exact ⟨by decide, by decide⟩
    · exact ⟨by decide, by decide⟩
