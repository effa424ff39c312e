/-! a token of the class is the reference's -/
theorem Sk_uniq {b : Int → Int} {i j k : Int} (h : Sk b i j) (g : Sk b i k) : j = k := by
  rcases (show j < k ∨ j = k ∨ k < j by omega) with q | q | q
  · exact absurd (g.2.1 j h.1 q) h.2.2
  · exact q
  · exact absurd (h.2.1 k g.1 q) g.2.2
theorem Rn_uniq {b : Int → Int} {i j k : Int} (h : Rn b i j) (g : Rn b i k) : j = k := by
  rcases (show j < k ∨ j = k ∨ k < j by omega) with q | q | q
  · exact absurd (g.2.1 j h.1 q) h.2.2
  · exact q
  · exact absurd (h.2.1 k g.1 q) g.2.2
theorem RC_rng : ∀ w, w < 29 → 0 ≤ RC w ∧ RC w < 72057594037927936 := by decide +kernel
theorem RV_onto : ∀ v, v < 29 → ∃ q, q < 29 ∧ RVi q = v := by decide +kernel
theorem wd_rng (k : Int) : 0 ≤ wd k ∧ wd k < 72057594037927936 := by
  have h := wdN_rng 7 k.toNat
  exact ⟨h.1, Int.lt_of_lt_of_le h.2 (by decide)⟩
theorem tok_match {B F : Nat → Int} {n lim i kd st val e : Int} (h0 : 0 ≤ i) (hi : i ≤ n) (h : Tok (tb B n) n lim i kd st val e) (hr : RTok (tb B n) n lim i F) : F 12 = st ∧ tokM kd val F ∧ (¬ kd = 0 → ¬ kd = 4 → F 4 = e) := by
  obtain ⟨j, hs, h⟩ := h
  obtain ⟨j', hs', hr⟩ := hr
  have ej := Sk_uniq hs hs'
  subst ej
  have hj := Sk_le hs h0 hi
  rcases h with ⟨a1, a2, rfl, rfl⟩ | ⟨a1, a2, rfl, rfl⟩ | ⟨a1, a2, rfl, htk⟩
  · rcases hr with ⟨b1, b2, b3, b4⟩ | ⟨b1, b2, b3, b4⟩ | ⟨b1, b2, b3, b4⟩
    · exact ⟨b4, Or.inr (Or.inl ⟨rfl, b3⟩), fun _ h => absurd rfl h⟩
    · exact absurd ⟨a1, a2⟩ b1
    · exact absurd ⟨a1, a2⟩ b1
  · rcases hr with ⟨b1, b2, b3, b4⟩ | ⟨b1, b2, b3, b4⟩ | ⟨b1, b2, b3, b4⟩
    · exact absurd ⟨b1, b2⟩ a1
    · exact ⟨by omega, Or.inl ⟨rfl, b3⟩, fun h _ => absurd rfl h⟩
    · omega
  · rcases hr with ⟨b1, b2, b3, b4⟩ | ⟨b1, b2, b3, b4⟩ | ⟨b1, b2, b3, b4⟩
    · exact absurd ⟨b1, b2⟩ a1
    · omega
    · refine ⟨b3, ?_⟩
      rcases htk with ⟨hld, m, rfl, hrn, hrt⟩ | ⟨hnld, rfl, hsg⟩
      · rcases b4 with ⟨c1, -⟩ | ⟨-, t, s, hs9, hrn2, f4, f17, f14, htok⟩
        · exact absurd hld c1
        · have et : t = m := by
            have := Rn_uniq hrn hrn2
            omega
          subst et
          refine ⟨?_, fun _ _ => f4⟩
          have ht0 : 0 < t := by
            rcases (show t = 0 ∨ 0 < t by omega) with q | q
            · subst q
              rw [show st + (((0 : Nat)) : Int) = st by omega] at hrn
              exact absurd hld hrn.2.2
            · exact q
          have hb0 : st + (((0 : Nat)) : Int) = st := by omega
          rcases hrt with ⟨g1, g2, g3⟩ | ⟨g0, g1, g2, rfl, rfl⟩ | ⟨g0, g1, rfl⟩
          · have hlt := rrL_all t g1
            have h00 := hlt 0 ht0
            rw [hb0] at h00
            have es : s = 1 := by
              rcases hs9 with ⟨-, q⟩ | ⟨q, -⟩
              · exact q
              · exact absurd h00 q
            subst es
            have ha := aW_L.mpr g1
            have e11 : F 11 = 1 := by
              rcases htok with ⟨q, -⟩ | ⟨-, -, q⟩
              · exact absurd ⟨ha, by rw [if_pos rfl]; omega⟩ q
              · rw [if_pos rfl] at q
                exact q
            have hkw := key_word t g2 hlt
            rcases g3 with ⟨w, w1, w2, w3, rfl, rfl⟩ | ⟨w3, rfl, rfl⟩
            · refine Or.inr (Or.inr (Or.inr (Or.inl ⟨rfl, e11, ?_, w1, w2⟩)))
              rw [f17]
              refine (spw g2 hlt val.toNat (by omega)).mp ?_
              rw [show ((val.toNat : Nat) : Int) = val by omega]
              exact w3
            · have p7 : (32 : Int) ^ t ≤ 34359738368 := by
                rcases (show t = 0 ∨ t = 1 ∨ t = 2 ∨ t = 3 ∨ t = 4 ∨ t = 5 ∨ t = 6 ∨ t = 7 by omega) with rfl | rfl | rfl | rfl | rfl | rfl | rfl | rfl <;> decide
              refine Or.inr (Or.inr (Or.inl ⟨rfl, e11, ?_, fun w hw => ?_, hkw.1.1, Int.lt_of_lt_of_le hkw.1.2 p7⟩))
              · rw [f17]
                exact hkw.2.2 7 g2
              · intro q
                rw [f17] at q
                exact w3 _ ((spw g2 hlt w hw).mpr q)
          · have hlt := rrL_zero t g1
            have h00 := hlt 0 ht0
            rw [hb0] at h00
            have es : s = 0 := by
              rcases hs9 with ⟨q, -⟩ | ⟨-, q⟩
              · exact absurd q h00
              · exact q
            subst es
            have ha := aW_N.mpr g1
            have e11 : F 11 = 2 := by
              rcases htok with ⟨q, -⟩ | ⟨-, -, q⟩
              · exact absurd ⟨ha, by rw [if_neg (by decide)]; omega⟩ q
              · rw [if_neg (by decide)] at q
                exact q
            have hr := rrN_rng (tb B n) st t hrn.2.1 g1
            have p7 : (10 : Int) ^ t ≤ 1000 := by
              rcases (show t = 0 ∨ t = 1 ∨ t = 2 ∨ t = 3 by omega) with rfl | rfl | rfl | rfl <;> decide
            refine Or.inr (Or.inr (Or.inr (Or.inr (Or.inl ⟨rfl, e11, ?_, hr.1, Int.lt_of_lt_of_le hr.2 p7⟩))))
            rw [f14]
            exact nW_rrN t g2 hlt
          · refine Or.inr (Or.inl ⟨rfl, ?_⟩)
            rcases htok with ⟨-, q⟩ | ⟨q1, q2, -⟩
            · exact q
            · exfalso
              rcases hs9 with ⟨-, rfl⟩ | ⟨-, rfl⟩
              · rw [if_pos rfl] at q2
                exact g0 ⟨aW_L.mp q1, by omega⟩
              · rw [if_neg (by decide)] at q2
                exact g1 ⟨aW_N.mp q1, by omega⟩
      · rcases b4 with ⟨-, f4, f14, f11⟩ | ⟨c1, -⟩
        · refine ⟨?_, fun _ _ => f4⟩
          rcases hsg with ⟨s1, rfl⟩ | ⟨s1, rfl⟩
          · rcases f11 with ⟨-, q⟩ | ⟨q, -⟩
            · refine Or.inr (Or.inr (Or.inr (Or.inr (Or.inr ⟨?_, ?_, q, f14⟩))))
              · unfold isS at s1
                omega
              · unfold isS at s1
                omega
            · exact absurd s1 q
          · rcases f11 with ⟨q, -⟩ | ⟨-, q⟩
            · exact absurd q s1
            · exact Or.inr (Or.inl ⟨rfl, q⟩)
        · exact absurd c1 hnld
/-- what a token's numbers lie between -/
theorem tok_rng {B : Nat → Int} {n lim i kd st val e : Int} (hn : 0 ≤ n ∧ n ≤ 940) (hl : 0 ≤ lim ∧ lim ≤ 940) (h0 : 0 ≤ i) (hi : i ≤ n) (h : Tok (tb B n) n lim i kd st val e) : 0 ≤ kd ∧ kd < 63 ∧ (kd = 1 ∨ kd = 2 ∨ kd = 3 → zin64 val) ∧ (kd = 2 → 0 ≤ val ∧ val < 29) ∧ (kd = 3 → 0 ≤ val ∧ val < 1000) ∧ 0 ≤ st ∧ st ≤ 940 := by
  obtain ⟨j, hs, h⟩ := h
  have hj := Sk_le hs h0 hi
  rcases h with ⟨a1, a2, rfl, rfl⟩ | ⟨a1, a2, rfl, rfl⟩ | ⟨a1, a2, rfl, htk⟩
  · exact ⟨by omega, by omega, fun q => by omega, fun q => by omega, fun q => by omega, by omega, by omega⟩
  · exact ⟨by omega, by omega, fun q => by omega, fun q => by omega, fun q => by omega, by omega, by omega⟩
  · have hk := Tk_le htk (by omega) (by omega)
    refine ⟨by omega, by omega, ?_⟩
    rcases htk with ⟨hld, m, rfl, hrn, hrt⟩ | ⟨hnld, rfl, hsg⟩
    · rcases hrt with ⟨g1, g2, ⟨w, w1, w2, w3, rfl, rfl⟩ | ⟨w3, rfl, rfl⟩⟩ | ⟨g0, g1, g2, rfl, rfl⟩ | ⟨g0, g1, rfl⟩
      · exact ⟨fun _ => ⟨by omega, by omega⟩, fun _ => ⟨w1, w2⟩, fun q => by omega, by omega, by omega⟩
      · have hkw := (key_word m g2 (rrL_all m g1)).1
        have p7 : (32 : Int) ^ m ≤ 34359738368 := by
          rcases (show m = 0 ∨ m = 1 ∨ m = 2 ∨ m = 3 ∨ m = 4 ∨ m = 5 ∨ m = 6 ∨ m = 7 by omega) with rfl | rfl | rfl | rfl | rfl | rfl | rfl | rfl <;> decide
        exact ⟨fun _ => ⟨by omega, by omega⟩, fun q => by omega, fun q => by omega, by omega, by omega⟩
      · have hr := rrN_rng (tb B n) st m hrn.2.1 g1
        have p7 : (10 : Int) ^ m ≤ 1000 := by
          rcases (show m = 0 ∨ m = 1 ∨ m = 2 ∨ m = 3 by omega) with rfl | rfl | rfl | rfl <;> decide
        exact ⟨fun _ => ⟨by omega, by omega⟩, fun q => by omega, fun _ => ⟨by omega, by omega⟩, by omega, by omega⟩
      · exact ⟨fun q => by omega, fun q => by omega, fun q => by omega, by omega, by omega⟩
    · unfold isS at hsg
      exact ⟨fun q => by omega, fun q => by omega, fun q => by omega, by omega, by omega⟩
theorem TT_of {B F P K S V : Nat → Int} {n lim : Int} {k : Nat} (hn : 0 ≤ n ∧ n ≤ 940) (hl : 0 ≤ lim ∧ lim ≤ 940) (hO : OpenT (tb B n) n lim k P K S V) (h6 : F 6 = 0) (h1 : F 1 = (k : Int) + 1) : TT F K S V := by
  obtain ⟨o0, o1, o2, o3, o4, o5⟩ := hO
  refine ⟨h6, by omega, by omega, fun j hj q0 q4 => ?_, fun j hj => ?_⟩
  · rcases (show j < k ∨ j = k by omega) with q | rfl
    · omega
    · omega
  · have hp := o5 j (by omega)
    exact tok_rng hn hl hp.1 hp.2 (o1 j (by omega))
