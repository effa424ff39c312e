/-! lines keep what holds of the rows -/
theorem aWord_out {K V CN NM MK KN : Nat → Int} {x : Int} {idx w : Nat} (h : 10 ≤ w) : aWord K V CN NM MK KN x idx w = bad 1 idx := by
  unfold aWord
  split <;> first | omega | rfl
section PB
variable {F K S V CN NM MK KN CN2 NM2 MK2 KN2 : Nat → Int} {x x2 : Int} {idx i2 : Nat}
theorem TT.next (hT : TT F K S V) {j : Nat} (hj : (j : Int) < F 1) (h0 : ¬ K j = 0) (h4 : ¬ K j = 4) : ((j + 1 : Nat) : Int) < F 1 := by
  have h := hT.2.2.2.1 j hj h0 h4
  omega
theorem bad_no {f : Int} {i : Nat} (hf : ¬ f = 0) (h : bad f i = (0, i2, CN2, NM2, MK2, KN2, x2)) : False := by
  unfold bad at h
  simp only [Prod.mk.injEq] at h
  exact hf h.1
theorem td_no {s i : Nat} (h0 : ¬ tdF K V CN NM s i = 0) (h : bad (tdF K V CN NM s i) i = (0, i2, CN2, NM2, MK2, KN2, x2)) : False := bad_no h0 h
theorem inv_reg {mx b : Int} {s : Nat} (hT : TT F K S V) (hi : (idx : Int) < F 1) (hk : K idx = 2) (hI : INV CN NM x) (hs : s < 4) (hb : b = (s : Int) * 10) (hm : (s = 0 ∧ mx = 4) ∨ (s = 1 ∧ mx = 10) ∨ (s = 2 ∧ mx = 8) ∨ (s = 3 ∧ mx = 6)) {k : (Nat → Int) → (Nat → Int) → AR}
    (h : aReg K V CN NM mx b s idx k = (0, i2, CN2, NM2, MK2, KN2, x2)) : ∃ CN1 NM1, k CN1 NM1 = (0, i2, CN2, NM2, MK2, KN2, x2) ∧ INV CN1 NM1 x ∧ K (idx + 1) = 1 ∧ ((idx + 2 : Nat) : Int) < F 1 := by
  have hCN := hI.cn
  obtain ⟨c0, c1, c2, c3, hNM, hU, hx0, hx1⟩ := hI
  have h1 := hT.next hi (by omega) (by omega)
  unfold aReg at h
  split at h
  · exact (bad_no (by decide) h).elim
  · rename_i q1
    split at h
    · rename_i q2
      have h2 := hT.next h1 (by omega) (by omega)
      split at h
      · rename_i q3
        have hr := reg_ok hCN hNM hU hs (by have := hCN s hs; omega) ((hT.2.2.2.2 _ h1).2.2.1 (Or.inl q2)) q3
        subst hb
        have hne : ∀ t : Nat, ¬ t = s → zup CN s (CN s + 1) t = CN t := fun t ht => zup_ne ht
        have heq : zup CN s (CN s + 1) s = CN s + 1 := zup_eq
        refine ⟨_, _, h, ⟨?_, ?_, ?_, ?_, hr.2.1, hr.2.2, hx0, hx1⟩, q2, h2⟩
        · by_cases e : (0 : Nat) = s
          · subst e
            omega
          · rw [hne 0 e]
            exact c0
        · by_cases e : (1 : Nat) = s
          · subst e
            omega
          · rw [hne 1 e]
            exact c1
        · by_cases e : (2 : Nat) = s
          · subst e
            omega
          · rw [hne 2 e]
            exact c2
        · by_cases e : (3 : Nat) = s
          · subst e
            omega
          · rw [hne 3 e]
            exact c3
      · exact (bad_no (by decide) h).elim
    · exact (bad_no (by decide) h).elim
theorem inv_pair {R : Nat → Int} {s i : Nat} (hT : TT F K S V) (hi : (i : Int) < F 1) {k : (Nat → Int) → AR} (h : aPair K V CN NM R s i k = (0, i2, CN2, NM2, MK2, KN2, x2)) : (∃ R1, k R1 = (0, i2, CN2, NM2, MK2, KN2, x2)) ∧ ((i + 2 : Nat) : Int) < F 1 := by
  unfold aPair at h
  split at h
  · rename_i q1
    have k1 := (td_ne q1).1
    have h1 := hT.next hi (by omega) (by omega)
    split at h
    · rename_i q2
      have k2 := (td_ne q2).1
      have h2 := hT.next h1 (by omega) (by omega)
      split at h
      · exact (bad_no (by decide) h).elim
      · exact ⟨⟨_, h⟩, h2⟩
    · rename_i q2
      exact (bad_no q2 h).elim
  · rename_i q1
    exact (bad_no q1 h).elim
theorem inv_set {lo hi : Int} {w : Nat} (hT : TT F K S V) (hi9 : (idx : Int) < F 1) (hk : K idx = 2) (hI : INV CN NM x) (hw : 4 ≤ w ∧ w < 8) (h : aSet K V CN NM MK KN x lo hi w idx = (0, i2, CN2, NM2, MK2, KN2, x2)) : INV CN2 NM2 x2 ∧ i2 = idx + 2 ∧ (i2 : Int) < F 1 := by
  have h1 := hT.next hi9 (by omega) (by omega)
  unfold aSet at h
  split at h
  · exact (bad_no (by decide) h).elim
  · split at h
    · rename_i q2
      have k2 := (nm_ok q2).1
      have h2 := hT.next h1 (by omega) (by omega)
      simp only [Prod.mk.injEq] at h
      obtain ⟨-, rfl, rfl, rfl, rfl, rfl, rfl⟩ := h
      obtain ⟨c0, c1, c2, c3, hNM, hU, hx0, hx1⟩ := hI
      have hb := z_bit16 (x := x) (w := (w : Int)) ⟨hx0, hx1⟩ (by omega)
      refine ⟨⟨?_, ?_, ?_, ?_, hNM, ?_, hb.2.2.1, hb.2.2.2⟩, rfl, h2⟩
      · rw [zup_ne (by omega)]
        exact c0
      · rw [zup_ne (by omega)]
        exact c1
      · rw [zup_ne (by omega)]
        exact c2
      · rw [zup_ne (by omega)]
        exact c3
      · intro s t key hs ht
        unfold lkS
        rw [zup_ne (by omega), zup_ne (by omega)]
        exact hU s t key hs ht
    · rename_i q2
      exact (bad_no q2 h).elim
theorem inv_line (hT : TT F K S V) (hi : (idx : Int) < F 1) (hI : INV CN NM x) (h : aLine K V CN NM MK KN x idx = (0, i2, CN2, NM2, MK2, KN2, x2)) : INV CN2 NM2 x2 ∧ idx + 1 ≤ i2 ∧ (i2 : Int) < F 1 := by
  unfold aLine at h
  split at h
  · rename_i hk
    have h1 := hT.next hi (by omega) (by omega)
    unfold aWord at h
    split at h
    · unfold aPlain at h
      obtain ⟨CN1, NM1, e, g1, g2, g3⟩ := inv_reg hT hi hk hI (by omega) (by rfl) (Or.inl ⟨rfl, rfl⟩) h
      simp only [Prod.mk.injEq] at e
      obtain ⟨-, rfl, rfl, rfl, rfl, rfl, rfl⟩ := e
      exact ⟨g1, by omega, g3⟩
    · unfold aPlain at h
      obtain ⟨CN1, NM1, e, g1, g2, g3⟩ := inv_reg hT hi hk hI (by omega) (by rfl) (Or.inr (Or.inl ⟨rfl, rfl⟩)) h
      simp only [Prod.mk.injEq] at e
      obtain ⟨-, rfl, rfl, rfl, rfl, rfl, rfl⟩ := e
      exact ⟨g1, by omega, g3⟩
    · unfold aThing at h
      obtain ⟨CN1, NM1, e, g1, g2, g3⟩ := inv_reg hT hi hk hI (by omega) (by rfl) (Or.inr (Or.inr (Or.inl ⟨rfl, rfl⟩))) h
      split at e
      · rename_i q
        have k2 := (td_ne q).1
        have h2 := hT.next g3 (by omega) (by omega)
        simp only [Prod.mk.injEq] at e
        obtain ⟨-, rfl, rfl, rfl, rfl, rfl, rfl⟩ := e
        exact ⟨g1, by omega, h2⟩
      · rename_i q
        exact (bad_no q e).elim
    · unfold aPerson at h
      obtain ⟨CN1, NM1, e, g1, g2, g3⟩ := inv_reg hT hi hk hI (by omega) (by rfl) (Or.inr (Or.inr (Or.inr ⟨rfl, rfl⟩))) h
      unfold aPers at e
      split at e
      · rename_i q
        have k2 := (td_ne q).1
        have h2 := hT.next g3 (by omega) (by omega)
        split at e
        · rename_i q2
          have k3 := (nm_ok q2).1
          have h3a := hT.next h2 (by omega) (by omega)
          have h3 : ((idx + 2 + 2 : Nat) : Int) < F 1 := by omega
          split at e
          · rename_i q3
            have h4 := hT.next h3 (by omega) (by omega)
            simp only [Prod.mk.injEq] at e
            obtain ⟨-, rfl, rfl, rfl, rfl, rfl, rfl⟩ := e
            exact ⟨g1, by omega, h4⟩
          · simp only [Prod.mk.injEq] at e
            obtain ⟨-, rfl, rfl, rfl, rfl, rfl, rfl⟩ := e
            exact ⟨g1, by omega, h3⟩
        · rename_i q2
          exact (bad_no q2 e).elim
      · rename_i q
        exact (bad_no q e).elim
    · obtain ⟨g1, g2, g3⟩ := inv_set hT hi hk hI (by omega) h
      exact ⟨g1, by omega, g3⟩
    · obtain ⟨g1, g2, g3⟩ := inv_set hT hi hk hI (by omega) h
      exact ⟨g1, by omega, g3⟩
    · obtain ⟨g1, g2, g3⟩ := inv_set hT hi hk hI (by omega) h
      exact ⟨g1, by omega, g3⟩
    · obtain ⟨g1, g2, g3⟩ := inv_set hT hi hk hI (by omega) h
      exact ⟨g1, by omega, g3⟩
    · unfold aIs at h
      obtain ⟨⟨R1, e⟩, g3⟩ := inv_pair hT h1 h
      simp only [Prod.mk.injEq] at e
      obtain ⟨-, rfl, rfl, rfl, rfl, rfl, rfl⟩ := e
      exact ⟨hI, by omega, g3⟩
    · unfold aKnows at h
      obtain ⟨⟨R1, e⟩, g3⟩ := inv_pair hT h1 h
      simp only [Prod.mk.injEq] at e
      obtain ⟨-, rfl, rfl, rfl, rfl, rfl, rfl⟩ := e
      exact ⟨hI, by omega, g3⟩
    · exact (bad_no (by decide) h).elim
  · exact (bad_no (by decide) h).elim
end PB
