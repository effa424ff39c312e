/-! the reference: a line of a book (written by wip/p5/b4.py) -/
def frB (F F9 : Nat → Int) : Prop := F9 3 = F 3 ∧ F9 5 = F 5 ∧ F9 15 = F 15 ∧ F9 40 = F 40
/-- how a reading ends, for the reference -/
def kR (P K S V F : Nat → Int) (k : Nat) (R : Int × Nat) (z : Option ZV) (F9 : Nat → Int) : Prop := (R.1 = 0 ∧ z = some (zI 1) ∧ rAt P K S V F9 R.2 ∧ R.2 ≤ k ∧ frB F F9) ∨ (z = some (zI 0) ∧ ((¬ R.1 = 0 ∧ F9 15 = R.1) ∨ (R.1 = 0 ∧ ¬ K R.2 = 59 ∧ F9 15 = 1)))
theorem tokM.sg59a {kd val : Int} {F : Nat → Int} (h : tokM kd val F) (q : kd = 59) : F 11 = 3 ∧ F 14 = 59 := by
  rcases h with ⟨h0, h⟩ | ⟨h0, h⟩ | ⟨h0, h, -⟩ | ⟨h0, h, -⟩ | ⟨h0, h, -⟩ | ⟨h0, h1, h, h2⟩ <;> omega
theorem tokM.sg59b {kd val : Int} {F : Nat → Int} (h : tokM kd val F) (q : F 11 = 3) (q2 : F 14 = 59) : kd = 59 := by
  rcases h with ⟨h0, h⟩ | ⟨h0, h⟩ | ⟨h0, h, -⟩ | ⟨h0, h, -⟩ | ⟨h0, h, -⟩ | ⟨h0, h1, h, h2⟩ <;> omega
section BR9
variable {xs : Nat → Int32} {D : va_G} {cy : Nat → ClassId} {l : Launch} {ex : Nat → Nat} {m : Nat → Nat} {F B SS HH NR RV RD ST P K S V CN NM : Nat → Int} {j k n t : Nat} {x : Int} {R : Int × Nat}
set_option maxRecDepth 4000 in
theorem zr_takesName0 {sN : Nat} (hs : sN < 4) (hH : RH B P K S V RV k F) (hA : rAt P K S V F j) (hj : j ≤ k) (hRR : RK SS NR CN NM) (hI : INV CN NM x) (hRZ : ∀ q, zin64 (RV q)) : ZMet (EWX xs) D cy l ex mt2_X12_takesName (2, 0, 0, 45) (rW m F B SS HH NR RV) [zR (m 0), zI ((bs sN - 28 : Nat) : Int), zI (((CN sN).toNat : Nat) : Int)] (fun z Y => (tdF K V CN NM sN j = 0 ∧ z = some (zI 1) ∧ ∃ F9, Y = (rW m F9 B SS HH NR RV) ∧ rAt P K S V F9 (j + 1) ∧ j + 1 ≤ k ∧ frB F F9 ∧ F9 18 = lkS CN NM sN (V j)) ∨ (¬ tdF K V CN NM sN j = 0 ∧ z = some (zI 0) ∧ ∃ F9, Y = (rW m F9 B SS HH NR RV) ∧ F9 15 = tdF K V CN NM sN j)) := by
  obtain ⟨mok, tok, ow⟩ := pok2.1 _ _ zj_X12_takesName
  refine met_ofz EWX_ok mok tok ow (Nat.le_of_ble_eq_true rfl) (fun r p0 e0 s0 m0 ar0 be0 me0 c0 A0 Q0 X hR => ?_)
  have hA0 := hA
  have hH0 := hH
  have hj0 := hj
  refine zg_blk pok2 X 3 [] (S' := (3, [(0, zR (m 0)), (1, zI ((bs sN - 28 : Nat) : Int)), (2, zI (((CN sN).toNat : Nat) : Int))], [zI (((CN sN).toNat : Nat) : Int), zI ((bs sN - 28 : Nat) : Int), zR (m 0)], (rW m F B SS HH NR RV))) rfl trivial ?_
  refine zg_callV pok2 EWX_ok X 0 (vas := [zI ((bs sN - 28 : Nat) : Int), zI (((CN sN).toNat : Nat) : Int)]) (vr := []) (Y1 := (rW m F B SS HH NR RV)) (Y2 := []) rfl rfl (Or.inl rfl) zj_X12_looksAt rfl rfl rfl rfl (Nat.le_of_ble_eq_true rfl) rfl (zr_looksAt0 (sN := sN) (F := F) (j := j) (by omega) hH0 hA0 hj0 hRR hI hRZ) ⟨by decide, by decide, by decide, by decide⟩ (fun z9 Y9 hz => ?_)
  rcases hz with ⟨ht0, rfl, rfl⟩ | ⟨ht0, rfl, Fa, rfl, hb1, hb2⟩
  · have hk0 := (td_ne ht0).1
    refine zg_if X 11 rfl rfl (by unfold zin; omega) (fun g1 => ?_) (fun g1 => ?_)
    · simp only [x_cnd] at g1
      refine zg_blk pok2 X 1 [] (S' := (12, [(0, zR (m 0)), (1, zI ((bs sN - 28 : Nat) : Int)), (2, zI (((CN sN).toNat : Nat) : Int))], [zR (m 0)], (rW m (zup F 18 (lkS CN NM sN (V j))) B SS HH NR RV))) rfl trivial ?_
      have hj1 : j + 1 ≤ k := hH0.len hj0 (by omega) (by omega)
      refine zg_callV pok2 EWX_ok X 0 (vas := []) (vr := []) (Y1 := (rW m (zup F 18 (lkS CN NM sN (V j))) B SS HH NR RV)) (Y2 := []) rfl rfl (Or.inl rfl) zj_X12_next rfl rfl rfl rfl (Nat.le_of_ble_eq_true rfl) rfl (zr_next (F := (zup F 18 (lkS CN NM sN (V j)))) hH0.1 hH0.2.1 (by have e4 := hA0.2.2 (by omega) (by omega); have hp := hH0.2.2.2.1.2.2.2.2.2 (j + 1) hj1; show 0 ≤ F 4 ∧ F 4 ≤ F 3; omega) (by have h9 := hH0.2.2.1; show 0 ≤ F 5 ∧ F 5 ≤ 1000; omega)) ⟨by decide, by decide, by decide, by decide⟩ (fun z9 Y9 hz => ?_)
      obtain ⟨rfl, Fb, rfl, hrt, hfrt⟩ := hz
      have hA1 : rAt P K S V Fb (j + 1) := rnext_ok (F := (zup F 18 (lkS CN NM sN (V j)))) (j := j) hH0 hA0 hj1 (by omega) (by omega) hrt
      have hH1 : RH B P K S V RV k Fb := RH.fr2 hH0 (show Fb 3 = F 3 from hfrt.fr4.1) (show Fb 5 = F 5 from hfrt.fr4.2.1)
      have e3_Fb : Fb 3 = F 3 := hfrt 3 (by decide) (by decide) (by decide) (by decide) (by decide) (by decide)
      have e5_Fb : Fb 5 = F 5 := hfrt 5 (by decide) (by decide) (by decide) (by decide) (by decide) (by decide)
      have e15_Fb : Fb 15 = F 15 := hfrt 15 (by decide) (by decide) (by decide) (by decide) (by decide) (by decide)
      have e18_Fb : Fb 18 = lkS CN NM sN (V j) := hfrt 18 (by decide) (by decide) (by decide) (by decide) (by decide) (by decide)
      have e40_Fb : Fb 40 = F 40 := hfrt 40 (by decide) (by decide) (by decide) (by decide) (by decide) (by decide)
      refine zg_blk pok2 X 1 [] (S' := (16, [(0, zR (m 0)), (1, zI ((bs sN - 28 : Nat) : Int)), (2, zI (((CN sN).toNat : Nat) : Int))], [zI 1], (rW m Fb B SS HH NR RV))) rfl trivial ?_
      refine zg_retb X hR rfl rfl (by decide) (by decide) (by first | exact Or.inl rfl | exact Or.inr rfl) ?_
      exact Or.inl ⟨ht0, rfl, _, rfl, hA1, hj1, ⟨by show Fb 3 = F 3; omega, by show Fb 5 = F 5; omega, by show Fb 15 = F 15; omega, by show Fb 40 = F 40; omega⟩, by show Fb 18 = _; omega⟩
    · exact absurd (show (1 : Int) = (0 : Int) from g1) (by decide)
  · refine zg_if X 11 rfl rfl (by unfold zin; omega) (fun g2 => ?_) (fun g2 => ?_)
    · exact absurd (show ¬ (0 : Int) = (0 : Int) from g2) (by decide)
    · simp only [x_ncd] at g2
      refine zg_blk pok2 X 1 [] (S' := (10, [(0, zR (m 0)), (1, zI ((bs sN - 28 : Nat) : Int)), (2, zI (((CN sN).toNat : Nat) : Int))], [zI 0], (rW m Fa B SS HH NR RV))) rfl trivial ?_
      refine zg_retb X hR rfl rfl (by decide) (by decide) (by first | exact Or.inl rfl | exact Or.inr rfl) ?_
      exact Or.inr ⟨ht0, rfl, _, rfl, hb1⟩
set_option maxRecDepth 4000 in
theorem zr_takes9 {lo hi : Int} (hlo : -2147483648 ≤ lo ∧ lo < 2147483648) (hhi : -2147483648 ≤ hi ∧ hi < 2147483648) (hH : RH B P K S V RV k F) (hA : rAt P K S V F j) (hj : j ≤ k) : ZMet (EWX xs) D cy l ex mt2_X12_takes (2, 0, 0, 43) (rW m F B SS HH NR RV) [zR (m 0), zI lo, zI hi] (fun z Y => (nmF K V lo hi j = 0 ∧ z = some (zI 1) ∧ ∃ F9, Y = (rW m F9 B SS HH NR RV) ∧ rAt P K S V F9 (j + 1) ∧ j + 1 ≤ k ∧ frB F F9) ∨ (¬ nmF K V lo hi j = 0 ∧ z = some (zI 0) ∧ ∃ F9, Y = (rW m F9 B SS HH NR RV) ∧ F9 15 = nmF K V lo hi j)) := by
  obtain ⟨mok, tok, ow⟩ := pok2.1 _ _ zj_X12_takes
  refine met_ofz EWX_ok mok tok ow (Nat.le_of_ble_eq_true rfl) (fun r p0 e0 s0 m0 ar0 be0 me0 c0 A0 Q0 X hR => ?_)
  have hA0 := hA
  have hH0 := hH
  have hj0 := hj
  refine zg_blk pok2 X 3 [0] (S' := (5, [(0, zR (m 0)), (1, zI lo), (2, zI hi)], [zI 2, zI (F 11)], (rW m F B SS HH NR RV))) rfl ⟨rfl, trivial⟩ ?_
  refine zg_icmp X 14 rfl rfl (by first | (unfold zin; omega) | (have h9 := hA0.2.1.t11; unfold zin; omega)) (by first | (unfold zin; omega) | (have h9 := hA0.2.1.t11; unfold zin; omega)) (fun g1 => ?_) (fun g1 => ?_)
  · simp only [x_cnd] at g1
    have hk3 : K j = 3 := hA0.2.1.num.1.mp (by omega)
    have hv3 := hA0.2.1.num.2 hk3
    refine zg_blk pok2 X 4 [0] (S' := (20, [(0, zR (m 0)), (1, zI lo), (2, zI hi)], [zI hi, zI lo, zI (F 14)], (rW m F B SS HH NR RV))) rfl ⟨rfl, trivial⟩ ?_
    refine zg_callS pok2 EWX_ok X (vas := [zI (F 14), zI lo, zI hi]) (vr := []) (Y1 := (rW m F B SS HH NR RV)) (Y2 := []) rfl rfl (Or.inl rfl) zj_X12_isIn rfl rfl rfl (Nat.le_of_ble_eq_true rfl) rfl (zr_isIn (by omega) (by omega) (by omega)) ⟨by decide, by decide, by decide, by decide⟩ (fun z9 Y9 hz => ?_)
    rcases hz with ⟨hi9, rfl, rfl⟩ | ⟨hi9, rfl, rfl⟩
    · refine zg_if X 32 rfl rfl (by first | (unfold zin; omega) | (have h9 := hA0.2.1.t11; unfold zin; omega)) (fun g2 => ?_) (fun g2 => ?_)
      · simp only [x_cnd] at g2
        refine zg_blk pok2 X 5 [0, 0] (S' := (41, [(0, zR (m 0)), (1, zI lo), (2, zI hi)], [zR (m 0)], (rW m (zup F 18 (F 14)) B SS HH NR RV))) rfl ⟨rfl, rfl, rfl, rfl, trivial⟩ ?_
        have hj1 : j + 1 ≤ k := hH0.len hj0 (by omega) (by omega)
        refine zg_callV pok2 EWX_ok X 0 (vas := []) (vr := []) (Y1 := (rW m (zup F 18 (F 14)) B SS HH NR RV)) (Y2 := []) rfl rfl (Or.inl rfl) zj_X12_next rfl rfl rfl rfl (Nat.le_of_ble_eq_true rfl) rfl (zr_next (F := (zup F 18 (F 14))) hH0.1 hH0.2.1 (by have e4 := hA0.2.2 (by omega) (by omega); have hp := hH0.2.2.2.1.2.2.2.2.2 (j + 1) hj1; show 0 ≤ F 4 ∧ F 4 ≤ F 3; omega) (by have h9 := hH0.2.2.1; show 0 ≤ F 5 ∧ F 5 ≤ 1000; omega)) ⟨by decide, by decide, by decide, by decide⟩ (fun z9 Y9 hz => ?_)
        obtain ⟨rfl, Fa, rfl, hrt, hfrt⟩ := hz
        have hA1 : rAt P K S V Fa (j + 1) := rnext_ok (F := (zup F 18 (F 14))) (j := j) hH0 hA0 hj1 (by omega) (by omega) hrt
        have hH1 : RH B P K S V RV k Fa := RH.fr2 hH0 (show Fa 3 = F 3 from hfrt.fr4.1) (show Fa 5 = F 5 from hfrt.fr4.2.1)
        have e3_Fa : Fa 3 = F 3 := hfrt 3 (by decide) (by decide) (by decide) (by decide) (by decide) (by decide)
        have e5_Fa : Fa 5 = F 5 := hfrt 5 (by decide) (by decide) (by decide) (by decide) (by decide) (by decide)
        have e15_Fa : Fa 15 = F 15 := hfrt 15 (by decide) (by decide) (by decide) (by decide) (by decide) (by decide)
        have e18_Fa : Fa 18 = F 14 := hfrt 18 (by decide) (by decide) (by decide) (by decide) (by decide) (by decide)
        have e40_Fa : Fa 40 = F 40 := hfrt 40 (by decide) (by decide) (by decide) (by decide) (by decide) (by decide)
        refine zg_blk pok2 X 1 [] (S' := (45, [(0, zR (m 0)), (1, zI lo), (2, zI hi)], [zI 1], (rW m Fa B SS HH NR RV))) rfl trivial ?_
        refine zg_retb X hR rfl rfl (by decide) (by decide) (by first | exact Or.inl rfl | exact Or.inr rfl) ?_
        have hnf : nmF K V lo hi j = 0 := by
          unfold nmF
          rw [if_pos (by omega), if_pos (by omega)]
        exact Or.inl ⟨hnf, rfl, _, rfl, hA1, hj1, ⟨by show Fa 3 = F 3; omega, by show Fa 5 = F 5; omega, by show Fa 15 = F 15; omega, by show Fa 40 = F 40; omega⟩⟩
      · exact absurd (show (1 : Int) = (0 : Int) from g2) (by decide)
    · refine zg_if X 32 rfl rfl (by first | (unfold zin; omega) | (have h9 := hA0.2.1.t11; unfold zin; omega)) (fun g3 => ?_) (fun g3 => ?_)
      · exact absurd (show ¬ (0 : Int) = (0 : Int) from g3) (by decide)
      · simp only [x_ncd] at g3
        refine zg_blk pok2 X 2 [] (S' := (28, [(0, zR (m 0)), (1, zI lo), (2, zI hi)], [zI 2, zR (m 0)], (rW m F B SS HH NR RV))) rfl trivial ?_
        refine zg_callV pok2 EWX_ok X 0 (vas := [zI 2]) (vr := []) (Y1 := (rW m F B SS HH NR RV)) (Y2 := []) rfl rfl (Or.inl rfl) zj_X12_bad rfl rfl rfl rfl (Nat.le_of_ble_eq_true rfl) rfl (zr_bad (F := F)) ⟨by decide, by decide, by decide, by decide⟩ (fun z9 Y9 hz => ?_)
        obtain ⟨rfl, rfl⟩ := hz
        refine zg_retb X hR rfl rfl (by decide) (by decide) (by first | exact Or.inl rfl | exact Or.inr rfl) ?_
        have hnf : nmF K V lo hi j = 2 := by
          unfold nmF
          rw [if_pos (by omega), if_neg (by omega)]
        exact Or.inr ⟨by rw [hnf]; decide, rfl, _, rfl, by rw [hnf]; rfl⟩
  · simp only [x_ncd] at g1
    have hk3 : ¬ K j = 3 := fun h8 => by have h9 := hA0.2.1.num.1.mpr h8; omega
    refine zg_blk pok2 X 2 [] (S' := (10, [(0, zR (m 0)), (1, zI lo), (2, zI hi)], [zI 1, zR (m 0)], (rW m F B SS HH NR RV))) rfl trivial ?_
    refine zg_callV pok2 EWX_ok X 0 (vas := [zI 1]) (vr := []) (Y1 := (rW m F B SS HH NR RV)) (Y2 := []) rfl rfl (Or.inl rfl) zj_X12_bad rfl rfl rfl rfl (Nat.le_of_ble_eq_true rfl) rfl (zr_bad (F := F)) ⟨by decide, by decide, by decide, by decide⟩ (fun z9 Y9 hz => ?_)
    obtain ⟨rfl, rfl⟩ := hz
    refine zg_retb X hR rfl rfl (by decide) (by decide) (by first | exact Or.inl rfl | exact Or.inr rfl) ?_
    have hnf : nmF K V lo hi j = 1 := by
      unfold nmF
      rw [if_neg (by omega)]
    exact Or.inr ⟨by rw [hnf]; decide, rfl, _, rfl, by rw [hnf]; rfl⟩
set_option maxRecDepth 4000 in
theorem zr_sign9 {z1 : Int} (hz1 : 4 < z1 ∧ z1 < 63) (hH : RH B P K S V RV k F) (hA : rAt P K S V F j) (hj : j ≤ k) : ZMet (EWX xs) D cy l ex mt2_X12_sign (2, 0, 0, 43) (rW m F B SS HH NR RV) [zR (m 0), zI z1] (fun z Y => (K j = z1 ∧ z = some (zI 1) ∧ ∃ F9, Y = (rW m F9 B SS HH NR RV) ∧ rAt P K S V F9 (j + 1) ∧ j + 1 ≤ k ∧ frB F F9) ∨ (¬ K j = z1 ∧ z = some (zI 0) ∧ ∃ F9, Y = (rW m F9 B SS HH NR RV) ∧ F9 15 = 1)) := by
  obtain ⟨mok, tok, ow⟩ := pok2.1 _ _ zj_X12_sign
  refine met_ofz EWX_ok mok tok ow (Nat.le_of_ble_eq_true rfl) (fun r p0 e0 s0 m0 ar0 be0 me0 c0 A0 Q0 X hR => ?_)
  have hA0 := hA
  have hH0 := hH
  have hj0 := hj
  refine zg_blk pok2 X 2 [] (S' := (2, [(0, zR (m 0)), (1, zI z1)], [zI z1, zR (m 0)], (rW m F B SS HH NR RV))) rfl trivial ?_
  refine zg_callV pok2 EWX_ok X 0 (vas := [zI z1]) (vr := []) (Y1 := (rW m F B SS HH NR RV)) (Y2 := []) rfl rfl (Or.inl rfl) zj_X12_isSign rfl rfl rfl rfl (Nat.le_of_ble_eq_true rfl) rfl (zr_isSign hz1 hA0) ⟨by decide, by decide, by decide, by decide⟩ (fun z9 Y9 hz => ?_)
  rcases hz with ⟨hs9, rfl, rfl⟩ | ⟨hs9, rfl, rfl⟩
  · refine zg_if X 14 rfl rfl (by unfold zin; omega) (fun g1 => ?_) (fun g1 => ?_)
    · simp only [x_cnd] at g1
      refine zg_blk pok2 X 1 [] (S' := (15, [(0, zR (m 0)), (1, zI z1)], [zR (m 0)], (rW m F B SS HH NR RV))) rfl trivial ?_
      have hj1 : j + 1 ≤ k := hH0.len hj0 (by omega) (by omega)
      refine zg_callV pok2 EWX_ok X 0 (vas := []) (vr := []) (Y1 := (rW m F B SS HH NR RV)) (Y2 := []) rfl rfl (Or.inl rfl) zj_X12_next rfl rfl rfl rfl (Nat.le_of_ble_eq_true rfl) rfl (zr_next (F := F) hH0.1 hH0.2.1 (by have e4 := hA0.2.2 (by omega) (by omega); have hp := hH0.2.2.2.1.2.2.2.2.2 (j + 1) hj1; show 0 ≤ F 4 ∧ F 4 ≤ F 3; omega) (by have h9 := hH0.2.2.1; show 0 ≤ F 5 ∧ F 5 ≤ 1000; omega)) ⟨by decide, by decide, by decide, by decide⟩ (fun z9 Y9 hz => ?_)
      obtain ⟨rfl, Fa, rfl, hrt, hfrt⟩ := hz
      have hA1 : rAt P K S V Fa (j + 1) := rnext_ok (F := F) (j := j) hH0 hA0 hj1 (by omega) (by omega) hrt
      have hH1 : RH B P K S V RV k Fa := RH.fr2 hH0 (show Fa 3 = F 3 from hfrt.fr4.1) (show Fa 5 = F 5 from hfrt.fr4.2.1)
      have e3_Fa : Fa 3 = F 3 := hfrt 3 (by decide) (by decide) (by decide) (by decide) (by decide) (by decide)
      have e5_Fa : Fa 5 = F 5 := hfrt 5 (by decide) (by decide) (by decide) (by decide) (by decide) (by decide)
      have e15_Fa : Fa 15 = F 15 := hfrt 15 (by decide) (by decide) (by decide) (by decide) (by decide) (by decide)
      have e18_Fa : Fa 18 = F 18 := hfrt 18 (by decide) (by decide) (by decide) (by decide) (by decide) (by decide)
      have e40_Fa : Fa 40 = F 40 := hfrt 40 (by decide) (by decide) (by decide) (by decide) (by decide) (by decide)
      refine zg_blk pok2 X 1 [] (S' := (19, [(0, zR (m 0)), (1, zI z1)], [zI 1], (rW m Fa B SS HH NR RV))) rfl trivial ?_
      refine zg_retb X hR rfl rfl (by decide) (by decide) (by first | exact Or.inl rfl | exact Or.inr rfl) ?_
      exact Or.inl ⟨hs9, rfl, _, rfl, hA1, hj1, ⟨by show Fa 3 = F 3; omega, by show Fa 5 = F 5; omega, by show Fa 15 = F 15; omega, by show Fa 40 = F 40; omega⟩⟩
    · exact absurd (show (1 : Int) = (0 : Int) from g1) (by decide)
  · refine zg_if X 14 rfl rfl (by unfold zin; omega) (fun g2 => ?_) (fun g2 => ?_)
    · exact absurd (show ¬ (0 : Int) = (0 : Int) from g2) (by decide)
    · simp only [x_ncd] at g2
      refine zg_blk pok2 X 2 [] (S' := (10, [(0, zR (m 0)), (1, zI z1)], [zI 1, zR (m 0)], (rW m F B SS HH NR RV))) rfl trivial ?_
      refine zg_callV pok2 EWX_ok X 0 (vas := [zI 1]) (vr := []) (Y1 := (rW m F B SS HH NR RV)) (Y2 := []) rfl rfl (Or.inl rfl) zj_X12_bad rfl rfl rfl rfl (Nat.le_of_ble_eq_true rfl) rfl (zr_bad (F := F)) ⟨by decide, by decide, by decide, by decide⟩ (fun z9 Y9 hz => ?_)
      obtain ⟨rfl, rfl⟩ := hz
      refine zg_retb X hR rfl rfl (by decide) (by decide) (by first | exact Or.inl rfl | exact Or.inr rfl) ?_
      exact Or.inr ⟨hs9, rfl, _, rfl, rfl⟩
set_option maxRecDepth 4000 in
theorem zj_X12_takesMarks : PR2[198]? = some mt2_X12_takesMarks := rfl
set_option maxHeartbeats 8000000 in
set_option maxRecDepth 4000 in
theorem zr_takesMarks (hH : RH B P K S V RV k F) (hA : rAt P K S V F j) (hj : j ≤ k) (hRR : RK SS NR CN NM) (hI : INV CN NM x) (hRZ : ∀ q, zin64 (RV q)) {z1 : Int} (hz1 : 0 ≤ z1 ∧ z1 < 160) (hR0 : bMk K V CN NM t 0 j = R) (hR99 : ¬ R.1 = 99) : ZMet (EWX xs) D cy l ex mt2_X12_takesMarks (2, 0, 0, 45) (rW m F B SS HH NR RV ++ qW m RD ST) [zR (m 0), zI z1] (fun z Y => ∃ F9 RD9, Y = (rW m F9 B SS HH NR RV ++ qW m RD9 ST) ∧ kR P K S V F k R z F9) := by
  obtain ⟨mok, tok, ow⟩ := pok2.1 _ _ zj_X12_takesMarks
  refine met_ofz EWX_ok mok tok ow (Nat.le_of_ble_eq_true rfl) (fun r p0 e0 s0 m0 ar0 be0 me0 c0 A0 Q0 X hR => ?_)
  have flo : ∀ (b j : Nat) (F1 RD : Nat → Int), frB F F1 → RH B P K S V RV k F1 → rAt P K S V F1 j → j ≤ k → ¬ K j = 1 → ¬ K j = 59 → R = (0, j) → ZG D cy r mt2_X12_takesMarks p0 l e0 (rmR (2, 0, 0, 45)) s0 m0 ar0 be0 me0 c0 A0 Q0 0 0 (4, [(0, zR (m 0)), (1, zI z1), (2, zI (b : Int)), (3, zI 1)], [], (rW m F1 B SS HH NR RV ++ qW m RD ST)) := by
    intro b j F1 RD hFr0 hH0 hA0 hj0 hn1 hn59 hRe
    obtain ⟨e3, e5, e15, e40⟩ := hFr0
    refine zg_blk pok2 X 1 [] (S' := (5, [(0, zR (m 0)), (1, zI z1), (2, zI (b : Int)), (3, zI 1)], [zI 1], ((rW m F1 B SS HH NR RV) ++ (qW m RD ST)))) rfl trivial ?_
    refine zg_if X 80 rfl rfl (by first | (unfold zin; omega) | (have h9 := hA1.2.1.t11; unfold zin; omega) | (have h8 := hA1.2.1.sg14 (by omega); unfold zin; omega)) (fun g1 => ?_) (fun g1 => ?_)
    · exact absurd (show (1 : Int) = (0 : Int) from g1) (by decide)
    · simp only [x_ncd] at g1
      refine zg_blk pok2 X 6 [0, 2] (S' := (16, [(0, zR (m 0)), (1, zI z1), (2, zI (b : Int)), (3, zI 1)], [zI (SS 1), zI 4, zR (m 0)], ((rW m F1 B SS HH NR RV) ++ (qW m RD ST)))) rfl ⟨rfl, rfl, rfl, (show zidx 1 269 from by unfold zidx; omega), trivial⟩ ?_
      rw [show SS 1 = (((CN 1).toNat : Nat) : Int) by have h9 := hRR.1 1 (by omega); have h8 := hI.cn 1 (by omega); omega]
      refine zg_callV pok2 EWX_ok X 0 (vas := [zI 4, zI (((CN 1).toNat : Nat) : Int)]) (vr := []) (Y1 := (rW m F1 B SS HH NR RV)) (Y2 := (qW m RD ST)) rfl rfl (Or.inl rfl) zj_X12_looksAt rfl rfl rfl rfl (Nat.le_of_ble_eq_true rfl) rfl (zr_looksAt0 (sN := 1) (F := F1) (j := j) (by omega) hH0 hA0 hj0 hRR hI hRZ) ⟨by decide, by decide, by decide, by decide⟩ (fun z9 Y9 hz => ?_)
      rcases hz with ⟨ht0, rfl, rfl⟩ | ⟨ht0, rfl, Fa, rfl, hb1, hb2⟩
      · exfalso
        exact absurd (td_ne ht0).1 hn1
      · refine zg_if X 24 rfl rfl (by first | (unfold zin; omega) | (have h9 := hA1.2.1.t11; unfold zin; omega) | (have h8 := hA1.2.1.sg14 (by omega); unfold zin; omega)) (fun g2 => ?_) (fun g2 => ?_)
        · exact absurd (show ¬ (0 : Int) = (0 : Int) from g2) (by decide)
        · simp only [x_ncd] at g2
          refine zg_blk pok2 X 1 [] (S' := (23, [(0, zR (m 0)), (1, zI z1), (2, zI (b : Int)), (3, zI 1)], [zI 0], ((rW m Fa B SS HH NR RV) ++ (qW m RD ST)))) rfl trivial ?_
          refine zg_retb X hR rfl rfl (by decide) (by decide) (by first | exact Or.inl rfl | exact Or.inr rfl) ?_
          have htd1 : tdF K V CN NM 1 j = 1 := by
            unfold tdF
            rw [if_neg hn1]
          exact ⟨_, _, rfl, Or.inr ⟨rfl, Or.inr ⟨by rw [hRe], by rw [hRe]; exact hn59, by rw [hb1, htd1]⟩⟩⟩
  have loop : ∀ (t b j : Nat) (F1 RD : Nat → Int), b < 1024 → frB F F1 → RH B P K S V RV k F1 → rAt P K S V F1 j → j ≤ k → bMk K V CN NM t b j = R → ZG D cy r mt2_X12_takesMarks p0 l e0 (rmR (2, 0, 0, 45)) s0 m0 ar0 be0 me0 c0 A0 Q0 0 0 (4, [(0, zR (m 0)), (1, zI z1), (2, zI (b : Int)), (3, zI 1)], [], (rW m F1 B SS HH NR RV ++ qW m RD ST)) := by
    intro t
    induction t with
    | zero =>
      intro b j F1 RD hb hFr0 hH0 hA0 hj0 hQ9
      exact absurd (by rw [← hQ9]; rfl) hR99
    | succ t ih =>
      intro b j F1 RD hb hFr0 hH0 hA0 hj0 hQ9
      obtain ⟨e3, e5, e15, e40⟩ := hFr0
      refine zg_blk pok2 X 1 [] (S' := (5, [(0, zR (m 0)), (1, zI z1), (2, zI (b : Int)), (3, zI 1)], [zI 1], ((rW m F1 B SS HH NR RV) ++ (qW m RD ST)))) rfl trivial ?_
      refine zg_if X 80 rfl rfl (by first | (unfold zin; omega) | (have h9 := hA1.2.1.t11; unfold zin; omega) | (have h8 := hA1.2.1.sg14 (by omega); unfold zin; omega)) (fun g1 => ?_) (fun g1 => ?_)
      · exact absurd (show (1 : Int) = (0 : Int) from g1) (by decide)
      · simp only [x_ncd] at g1
        refine zg_blk pok2 X 6 [0, 2] (S' := (16, [(0, zR (m 0)), (1, zI z1), (2, zI (b : Int)), (3, zI 1)], [zI (SS 1), zI 4, zR (m 0)], ((rW m F1 B SS HH NR RV) ++ (qW m RD ST)))) rfl ⟨rfl, rfl, rfl, (show zidx 1 269 from by unfold zidx; omega), trivial⟩ ?_
        rw [show SS 1 = (((CN 1).toNat : Nat) : Int) by have h9 := hRR.1 1 (by omega); have h8 := hI.cn 1 (by omega); omega]
        refine zg_callV pok2 EWX_ok X 0 (vas := [zI 4, zI (((CN 1).toNat : Nat) : Int)]) (vr := []) (Y1 := (rW m F1 B SS HH NR RV)) (Y2 := (qW m RD ST)) rfl rfl (Or.inl rfl) zj_X12_looksAt rfl rfl rfl rfl (Nat.le_of_ble_eq_true rfl) rfl (zr_looksAt0 (sN := 1) (F := F1) (j := j) (by omega) hH0 hA0 hj0 hRR hI hRZ) ⟨by decide, by decide, by decide, by decide⟩ (fun z9 Y9 hz => ?_)
        rcases hz with ⟨ht0, rfl, rfl⟩ | ⟨ht0, rfl, Fa, rfl, hb1, hb2⟩
        · have hk0 := (td_ne ht0).1
          have hlr := lkS_rng (NM := NM) (key := V j) (hI.cn 1 (by omega))
          have hne := (td_ne ht0).2
          obtain ⟨kk, hkk⟩ : ∃ kk : Nat, lkS CN NM 1 (V j) = (kk : Int) := ⟨(lkS CN NM 1 (V j)).toNat, by omega⟩
          have hk10 : kk < 10 := by omega
          obtain ⟨hbb1, hbb2⟩ := bitN b hb kk hk10
          rw [hkk]
          refine zg_if X 24 rfl rfl (by first | (unfold zin; omega) | (have h9 := hA1.2.1.t11; unfold zin; omega) | (have h8 := hA1.2.1.sg14 (by omega); unfold zin; omega)) (fun g2 => ?_) (fun g2 => ?_)
          · simp only [x_cnd] at g2
            refine zg_blk pok2 X 3 [0] (S' := (29, [(0, zR (m 0)), (1, zI z1), (2, zI (b : Int)), (3, zI 1)], [zI (kk : Int), zI (b : Int)], ((rW m (zup F1 18 (kk : Int)) B SS HH NR RV) ++ (qW m RD ST)))) rfl ⟨rfl, trivial⟩ ?_
            refine zg_callS pok2 EWX_ok X (vas := [zI (b : Int), zI (kk : Int)]) (vr := []) (Y1 := (rW m (zup F1 18 (kk : Int)) B SS HH NR RV)) (Y2 := (qW m RD ST)) rfl rfl (Or.inl rfl) zj_X12_bitOf rfl rfl rfl (Nat.le_of_ble_eq_true rfl) rfl (zr_bitOf) ⟨by decide, by decide, by decide, by decide⟩ (fun z9 Y9 hz => ?_)
            rcases hz with ⟨hb9, rfl, rfl⟩ | ⟨hb9, rfl, rfl⟩
            · refine zg_if X 41 rfl rfl (by first | (unfold zin; omega) | (have h9 := hA1.2.1.t11; unfold zin; omega) | (have h8 := hA1.2.1.sg14 (by omega); unfold zin; omega)) (fun g3 => ?_) (fun g3 => ?_)
              · exact absurd (show (1 : Int) = (0 : Int) from g3) (by decide)
              · simp only [x_ncd] at g3
                have hbt : b.testBit kk = true := by
                  cases h9 : b.testBit kk with
                  | true => rfl
                  | false => exact absurd hb9 (by rw [hbb1, h9]; decide)
                refine zg_blk pok2 X 2 [] (S' := (37, [(0, zR (m 0)), (1, zI z1), (2, zI (b : Int)), (3, zI 1)], [zI 3, zR (m 0)], ((rW m (zup F1 18 (kk : Int)) B SS HH NR RV) ++ (qW m RD ST)))) rfl trivial ?_
                refine zg_callV pok2 EWX_ok X 0 (vas := [zI 3]) (vr := []) (Y1 := (rW m (zup F1 18 (kk : Int)) B SS HH NR RV)) (Y2 := (qW m RD ST)) rfl rfl (Or.inl rfl) zj_X12_bad rfl rfl rfl rfl (Nat.le_of_ble_eq_true rfl) rfl (zr_bad (F := (zup F1 18 (kk : Int)))) ⟨by decide, by decide, by decide, by decide⟩ (fun z9 Y9 hz => ?_)
                obtain ⟨rfl, rfl⟩ := hz
                refine zg_retb X hR rfl rfl (by decide) (by decide) (by first | exact Or.inl rfl | exact Or.inr rfl) ?_
                have hR9 : R = (3, j) := by
                  rw [← hQ9, bMk_s, if_pos ht0, hkk, Int.toNat_natCast, if_pos hbt]
                exact ⟨_, _, rfl, Or.inr ⟨rfl, Or.inl ⟨by rw [hR9]; exact (by decide : ¬ (3 : Int) = 0), by rw [hR9]; rfl⟩⟩⟩
            · refine zg_if X 41 rfl rfl (by first | (unfold zin; omega) | (have h9 := hA1.2.1.t11; unfold zin; omega) | (have h8 := hA1.2.1.sg14 (by omega); unfold zin; omega)) (fun g4 => ?_) (fun g4 => ?_)
              · simp only [x_cnd] at g4
                have hbf : b.testBit kk = false := by
                  cases h9 : b.testBit kk with
                  | true => exact absurd (by rw [hbb1, h9]; rfl) hb9
                  | false => rfl
                refine zg_blk pok2 X 8 [0] (S' := (51, [(2, zI (zor (b : Int) (zshl 1 (kk : Int)))), (0, zR (m 0)), (1, zI z1), (3, zI 1)], [zR (m 0)], ((rW m (zup F1 18 (kk : Int)) B SS HH NR RV) ++ (qW m RD ST)))) rfl ⟨rfl, trivial⟩ ?_
                have hj1 : j + 1 ≤ k := hH0.len hj0 (by omega) (by omega)
                refine zg_callV pok2 EWX_ok X 0 (vas := []) (vr := []) (Y1 := (rW m (zup F1 18 (kk : Int)) B SS HH NR RV)) (Y2 := (qW m RD ST)) rfl rfl (Or.inl rfl) zj_X12_next rfl rfl rfl rfl (Nat.le_of_ble_eq_true rfl) rfl (zr_next (F := (zup F1 18 (kk : Int))) hH0.1 hH0.2.1 (by have e4 := hA0.2.2 (by omega) (by omega); have hp := hH0.2.2.2.1.2.2.2.2.2 (j + 1) hj1; show 0 ≤ F1 4 ∧ F1 4 ≤ F1 3; omega) (by have h9 := hH0.2.2.1; show 0 ≤ F1 5 ∧ F1 5 ≤ 1000; omega)) ⟨by decide, by decide, by decide, by decide⟩ (fun z9 Y9 hz => ?_)
                obtain ⟨rfl, Fb, rfl, hrt, hfrt⟩ := hz
                have hA1 : rAt P K S V Fb (j + 1) := rnext_ok (F := (zup F1 18 (kk : Int))) (j := j) hH0 hA0 hj1 (by omega) (by omega) hrt
                have hH1 : RH B P K S V RV k Fb := RH.fr2 hH0 (show Fb 3 = F1 3 from hfrt.fr4.1) (show Fb 5 = F1 5 from hfrt.fr4.2.1)
                have e3_Fb : Fb 3 = F1 3 := hfrt 3 (by decide) (by decide) (by decide) (by decide) (by decide) (by decide)
                have e5_Fb : Fb 5 = F1 5 := hfrt 5 (by decide) (by decide) (by decide) (by decide) (by decide) (by decide)
                have e15_Fb : Fb 15 = F1 15 := hfrt 15 (by decide) (by decide) (by decide) (by decide) (by decide) (by decide)
                have e18_Fb : Fb 18 = (kk : Int) := hfrt 18 (by decide) (by decide) (by decide) (by decide) (by decide) (by decide)
                have e40_Fb : Fb 40 = F1 40 := hfrt 40 (by decide) (by decide) (by decide) (by decide) (by decide) (by decide)
                refine zg_blk pok2 X 3 [0] (S' := (59, [(2, zI (zor (b : Int) (zshl 1 (kk : Int)))), (0, zR (m 0)), (1, zI z1), (3, zI 1)], [zI 3, zI (Fb 11)], ((rW m Fb B SS HH NR RV) ++ (qW m RD ST)))) rfl ⟨rfl, trivial⟩ ?_
                refine zg_icmp X 71 rfl rfl (by first | (unfold zin; omega) | (have h9 := hA1.2.1.t11; unfold zin; omega) | (have h8 := hA1.2.1.sg14 (by omega); unfold zin; omega)) (by first | (unfold zin; omega) | (have h9 := hA1.2.1.t11; unfold zin; omega) | (have h8 := hA1.2.1.sg14 (by omega); unfold zin; omega)) (fun g5 => ?_) (fun g5 => ?_)
                · simp only [x_cnd] at g5
                  refine zg_blk pok2 X 4 [] (S' := (4, [(3, zI 1), (2, zI (zor (b : Int) (zshl 1 (kk : Int)))), (0, zR (m 0)), (1, zI z1)], [], ((rW m Fb B SS HH NR RV) ++ (qW m RD ST)))) rfl trivial ?_
                  rw [hbb2]
                  have hup := cntN_up b hb kk hk10 hbf
                  have hFr : frB F Fb := ⟨by show Fb 3 = F 3; omega, by show Fb 5 = F 5; omega, by show Fb 15 = F 15; omega, by show Fb 40 = F 40; omega⟩
                  by_cases hk1 : K (j + 1) = 1
                  · have hR8 : bMk K V CN NM t (b ||| 2 ^ kk) (j + 1) = R := by
                      rw [← hQ9, bMk_s, if_pos ht0, hkk, Int.toNat_natCast, if_neg (by rw [hbf]; decide), if_pos hk1]
                    have ih9 := ih (b ||| 2 ^ kk) (j + 1) Fb RD hup.2 hFr hH1 hA1 hj1 hR8
                    refine zg_lv _ ?_ ih9
                    intro q hq
                    simp only [List.mem_cons, List.not_mem_nil, or_false] at hq ⊢
                    rcases hq with rfl | rfl | rfl | rfl <;> simp
                  · have hR9 : R = (0, j + 1) := by
                      rw [← hQ9, bMk_s, if_pos ht0, hkk, Int.toNat_natCast, if_neg (by rw [hbf]; decide), if_neg hk1]
                    have ih9 := flo (b ||| 2 ^ kk) (j + 1) Fb RD hFr hH1 hA1 hj1 hk1 (fun h => by have h9 := hA1.2.1.sg59a h; omega) hR9
                    refine zg_lv _ ?_ ih9
                    intro q hq
                    simp only [List.mem_cons, List.not_mem_nil, or_false] at hq ⊢
                    rcases hq with rfl | rfl | rfl | rfl <;> simp
                · simp only [x_ncd] at g5
                  refine zg_blk pok2 X 3 [0] (S' := (68, [(2, zI (zor (b : Int) (zshl 1 (kk : Int)))), (0, zR (m 0)), (1, zI z1), (3, zI 1)], [zI 59, zI (Fb 14)], ((rW m Fb B SS HH NR RV) ++ (qW m RD ST)))) rfl ⟨rfl, trivial⟩ ?_
                  refine zg_icmp X 75 rfl rfl (by first | (unfold zin; omega) | (have h9 := hA1.2.1.t11; unfold zin; omega) | (have h8 := hA1.2.1.sg14 (by omega); unfold zin; omega)) (by first | (unfold zin; omega) | (have h9 := hA1.2.1.t11; unfold zin; omega) | (have h8 := hA1.2.1.sg14 (by omega); unfold zin; omega)) (fun g6 => ?_) (fun g6 => ?_)
                  · simp only [x_cnd] at g6
                    refine zg_blk pok2 X 3 [] (S' := (4, [(3, zI 0), (2, zI (zor (b : Int) (zshl 1 (kk : Int)))), (0, zR (m 0)), (1, zI z1)], [], ((rW m Fb B SS HH NR RV) ++ (qW m RD ST)))) rfl trivial ?_
                    refine zg_blk pok2 X 1 [] (S' := (5, [(3, zI 0), (2, zI (zor (b : Int) (zshl 1 (kk : Int)))), (0, zR (m 0)), (1, zI z1)], [zI 0], ((rW m Fb B SS HH NR RV) ++ (qW m RD ST)))) rfl trivial ?_
                    refine zg_if X 80 rfl rfl (by first | (unfold zin; omega) | (have h9 := hA1.2.1.t11; unfold zin; omega) | (have h8 := hA1.2.1.sg14 (by omega); unfold zin; omega)) (fun g61 => ?_) (fun g61 => ?_)
                    · simp only [x_cnd] at g61
                      refine zg_blk pok2 X 6 [0, 6] (S' := (88, [(3, zI 0), (2, zI (zor (b : Int) (zshl 1 (kk : Int)))), (0, zR (m 0)), (1, zI z1)], [zI 1], ((rW m Fb B SS HH NR RV) ++ (qW m (zup RD z1.toNat (zor (b : Int) (zshl 1 (kk : Int)))) ST)))) rfl ⟨rfl, rfl, rfl, (show zidx z1 160 from by unfold zidx; omega), trivial⟩ ?_
                      refine zg_retb X hR rfl rfl (by decide) (by decide) (by first | exact Or.inl rfl | exact Or.inr rfl) ?_
                      have hk59 := hA1.2.1.sg59b (by omega) (by omega)
                      have hR9 : R = (0, j + 1) := by
                        rw [← hQ9, bMk_s, if_pos ht0, hkk, Int.toNat_natCast, if_neg (by rw [hbf]; decide), if_neg (by omega)]
                      exact ⟨_, _, rfl, Or.inl ⟨by rw [hR9], rfl, by rw [hR9]; exact hA1, by rw [hR9]; exact hj1, ⟨by show Fb 3 = F 3; omega, by show Fb 5 = F 5; omega, by show Fb 15 = F 15; omega, by show Fb 40 = F 40; omega⟩⟩⟩
                    · exact absurd (show ¬ (0 : Int) = (0 : Int) from g61) (by decide)
                  · simp only [x_ncd] at g6
                    refine zg_blk pok2 X 4 [] (S' := (4, [(3, zI 1), (2, zI (zor (b : Int) (zshl 1 (kk : Int)))), (0, zR (m 0)), (1, zI z1)], [], ((rW m Fb B SS HH NR RV) ++ (qW m RD ST)))) rfl trivial ?_
                    rw [hbb2]
                    have hup := cntN_up b hb kk hk10 hbf
                    have hFr : frB F Fb := ⟨by show Fb 3 = F 3; omega, by show Fb 5 = F 5; omega, by show Fb 15 = F 15; omega, by show Fb 40 = F 40; omega⟩
                    by_cases hk1 : K (j + 1) = 1
                    · have hR8 : bMk K V CN NM t (b ||| 2 ^ kk) (j + 1) = R := by
                        rw [← hQ9, bMk_s, if_pos ht0, hkk, Int.toNat_natCast, if_neg (by rw [hbf]; decide), if_pos hk1]
                      have ih9 := ih (b ||| 2 ^ kk) (j + 1) Fb RD hup.2 hFr hH1 hA1 hj1 hR8
                      refine zg_lv _ ?_ ih9
                      intro q hq
                      simp only [List.mem_cons, List.not_mem_nil, or_false] at hq ⊢
                      rcases hq with rfl | rfl | rfl | rfl <;> simp
                    · have hR9 : R = (0, j + 1) := by
                        rw [← hQ9, bMk_s, if_pos ht0, hkk, Int.toNat_natCast, if_neg (by rw [hbf]; decide), if_neg hk1]
                      have ih9 := flo (b ||| 2 ^ kk) (j + 1) Fb RD hFr hH1 hA1 hj1 hk1 (fun h => by have h9 := hA1.2.1.sg59a h; omega) hR9
                      refine zg_lv _ ?_ ih9
                      intro q hq
                      simp only [List.mem_cons, List.not_mem_nil, or_false] at hq ⊢
                      rcases hq with rfl | rfl | rfl | rfl <;> simp
              · exact absurd (show ¬ (0 : Int) = (0 : Int) from g4) (by decide)
          · exact absurd (show (1 : Int) = (0 : Int) from g2) (by decide)
        · refine zg_if X 24 rfl rfl (by first | (unfold zin; omega) | (have h9 := hA1.2.1.t11; unfold zin; omega) | (have h8 := hA1.2.1.sg14 (by omega); unfold zin; omega)) (fun g7 => ?_) (fun g7 => ?_)
          · exact absurd (show ¬ (0 : Int) = (0 : Int) from g7) (by decide)
          · simp only [x_ncd] at g7
            refine zg_blk pok2 X 1 [] (S' := (23, [(0, zR (m 0)), (1, zI z1), (2, zI (b : Int)), (3, zI 1)], [zI 0], ((rW m Fa B SS HH NR RV) ++ (qW m RD ST)))) rfl trivial ?_
            refine zg_retb X hR rfl rfl (by decide) (by decide) (by first | exact Or.inl rfl | exact Or.inr rfl) ?_
            have hR9 : R = (tdF K V CN NM 1 j, j) := by
              rw [← hQ9, bMk_s, if_neg ht0]
            exact ⟨_, _, rfl, Or.inr ⟨rfl, Or.inl ⟨by rw [hR9]; exact ht0, by rw [hR9]; exact hb1⟩⟩⟩
  refine zg_blk pok2 X 4 [] (S' := (4, [(3, zI 1), (2, zI 0), (0, zR (m 0)), (1, zI z1)], [], ((rW m F B SS HH NR RV) ++ (qW m RD ST)))) rfl trivial ?_
  have l9 := loop t 0 j F RD (by decide) ⟨rfl, rfl, rfl, rfl⟩ hH hA hj hR0
  refine zg_lv _ ?_ l9
  intro q hq
  simp only [List.mem_cons, List.not_mem_nil, or_false] at hq ⊢
  rcases hq with rfl | rfl | rfl | rfl <;> simp
end BR9
