/-! the reference: tokens at a place, small methods (written by wip/p4/g11.py) -/
def RH (B P K S V RV : Nat → Int) (k : Nat) (F : Nat → Int) : Prop := (∀ q, -128 ≤ B q ∧ B q ≤ 127) ∧ (0 ≤ F 3 ∧ F 3 ≤ 940) ∧ (0 ≤ F 5 ∧ F 5 ≤ 940) ∧ OpenT (tb B (F 3)) (F 3) (F 5) k P K S V ∧ ∀ q, q < 29 → RV q = RVc q
def fr4 (F F9 : Nat → Int) : Prop := F9 3 = F 3 ∧ F9 5 = F 5 ∧ F9 19 = F 19 ∧ F9 20 = F 20
theorem RH.fr {B P K S V RV F F9 : Nat → Int} {k : Nat} (h : RH B P K S V RV k F) (e : fr4 F F9) : RH B P K S V RV k F9 := by
  unfold RH
  rw [e.1, e.2.1]
  exact h
theorem frT.fr4 {F F9 : Nat → Int} (h : frT F F9) : fr4 F F9 := ⟨h 3 (by decide) (by decide) (by decide) (by decide) (by decide) (by decide), h 5 (by decide) (by decide) (by decide) (by decide) (by decide) (by decide), h 19 (by decide) (by decide) (by decide) (by decide) (by decide) (by decide), h 20 (by decide) (by decide) (by decide) (by decide) (by decide) (by decide)⟩
theorem fr4.tr {F G H : Nat → Int} (h : fr4 F G) (g : fr4 G H) : fr4 F H := ⟨g.1.trans h.1, g.2.1.trans h.2.1, g.2.2.1.trans h.2.2.1, g.2.2.2.trans h.2.2.2⟩
theorem tokM.t11 {kd val : Int} {F : Nat → Int} (h : tokM kd val F) : 0 ≤ F 11 ∧ F 11 ≤ 4 := by
  rcases h with ⟨-, h⟩ | ⟨-, h⟩ | ⟨-, h, -⟩ | ⟨-, h, -⟩ | ⟨-, h, -⟩ | ⟨-, -, h, -⟩ <;> omega
theorem tokM.w17 {kd val : Int} {F : Nat → Int} (h : tokM kd val F) (q : F 11 = 1) : zin64 (F 17) := by
  rcases h with ⟨-, h⟩ | ⟨-, h⟩ | ⟨-, h, e, -⟩ | ⟨-, h, e, w1, w2⟩ | ⟨-, h, -⟩ | ⟨-, -, h, -⟩
  · omega
  · omega
  · have := wd_rng val
    exact ⟨by omega, by omega⟩
  · have := RC_rng val.toNat (by omega)
    exact ⟨by omega, by omega⟩
  · omega
  · omega
theorem tokM.name {kd val : Int} {F RV : Nat → Int} (h : tokM kd val F) (hRV : ∀ q, q < 29 → RV q = RVc q) : (F 11 = 1 ∧ ∀ q : Nat, q < 29 → ¬ F 17 = RV q) ↔ kd = 1 := by
  rcases h with ⟨h0, h⟩ | ⟨h0, h⟩ | ⟨h0, h, e, w1, w2, w3⟩ | ⟨h0, h, e, w1, w2⟩ | ⟨h0, h, -⟩ | ⟨h0, h1, h, -⟩
  · exact ⟨fun q => by omega, fun q => by omega⟩
  · exact ⟨fun q => by omega, fun q => by omega⟩
  · refine ⟨fun _ => h0, fun _ => ⟨h, fun q hq => ?_⟩⟩
    rw [hRV q hq, (RV_RC q hq).1]
    exact w1 _ (RV_RC q hq).2
  · refine ⟨fun q => ?_, fun q => by omega⟩
    obtain ⟨p, p1, p2⟩ := RV_onto val.toNat (by omega)
    have h9 := q.2 p p1
    rw [hRV p p1, (RV_RC p p1).1, p2] at h9
    exact absurd e h9
  · exact ⟨fun q => by omega, fun q => by omega⟩
  · exact ⟨fun q => by omega, fun q => by omega⟩
theorem tokM.word {kd val : Int} {F : Nat → Int} {w : Nat} (h : tokM kd val F) (hw : w < 29) : (F 11 = 1 ∧ F 17 = RC w) ↔ (kd = 2 ∧ val = (w : Int)) := by
  rcases h with ⟨h0, h⟩ | ⟨h0, h⟩ | ⟨h0, h, e, w1, w2, w3⟩ | ⟨h0, h, e, w1, w2⟩ | ⟨h0, h, -⟩ | ⟨h0, h1, h, -⟩
  · exact ⟨fun q => by omega, fun q => by omega⟩
  · exact ⟨fun q => by omega, fun q => by omega⟩
  · exact ⟨fun q => absurd q.2 (w1 w hw), fun q => by omega⟩
  · constructor
    · intro q
      have := RC_inj val.toNat (by omega) w hw (e.symm.trans q.2)
      exact ⟨h0, by omega⟩
    · intro q
      refine ⟨h, ?_⟩
      rw [e, show val.toNat = w by omega]
  · exact ⟨fun q => by omega, fun q => by omega⟩
  · exact ⟨fun q => by omega, fun q => by omega⟩
theorem tokM.num {kd val : Int} {F : Nat → Int} (h : tokM kd val F) : (F 11 = 2 ↔ kd = 3) ∧ (kd = 3 → F 14 = val ∧ 0 ≤ val ∧ val < 1000) := by
  rcases h with ⟨h0, h⟩ | ⟨h0, h⟩ | ⟨h0, h, -⟩ | ⟨h0, h, -⟩ | ⟨h0, h, h2, h3, h4⟩ | ⟨h0, h1, h, -⟩ <;> omega
theorem tokM.sign {kd val c : Int} {F : Nat → Int} (h : tokM kd val F) (hc : 4 < c ∧ c < 63) : ((F 11 = 3 ∧ F 14 = c) ↔ kd = c) ∧ (F 11 = 3 → 0 ≤ F 14 ∧ F 14 < 63) := by
  rcases h with ⟨h0, h⟩ | ⟨h0, h⟩ | ⟨h0, h, -⟩ | ⟨h0, h, -⟩ | ⟨h0, h, -⟩ | ⟨h0, h1, h, h2⟩ <;> omega
theorem RH.len {B P K S V RV F : Nat → Int} {k : Nat} (h : RH B P K S V RV k F) {j : Nat} (hj : j ≤ k) (h0 : ¬ K j = 0) (h4 : ¬ K j = 4) : j + 1 ≤ k := by
  have h3 := h.2.2.2.1.2.2.2.1
  rcases (show j < k ∨ j = k by omega) with q | rfl
  · omega
  · omega
section ZS9
variable {xs : Nat → Int32} {D : va_G} {cy : Nat → ClassId} {l : Launch} {ex : Nat → Nat} {m : Nat → Nat} {F B SS HH NR RV P K S V : Nat → Int} {Y0 : ZW} {j k : Nat}
theorem rnext_ok {F9 : Nat → Int} (hH : RH B P K S V RV k F) (hA : rAt P K S V F j) (hj : j + 1 ≤ k) (h0 : ¬ K j = 0) (h4 : ¬ K j = 4) (hr : RTok (tb B (F 3)) (F 3) (F 5) (F 4) F9) : rAt P K S V F9 (j + 1) := by
  obtain ⟨h1, h2, h3, hO, h5⟩ := hH
  have e4 := hA.2.2 h0 h4
  have hp := hO.2.2.2.2.2 (j + 1) hj
  rw [e4] at hr
  exact tok_match hp.1 hp.2 (hO.2.1 (j + 1) hj) hr
set_option maxRecDepth 4000 in
theorem zj_X12_bad : PR2[88]? = some mt2_X12_bad := rfl
set_option maxRecDepth 4000 in
theorem zr_bad {z1 : Int} : ZMet (EWX xs) D cy l ex mt2_X12_bad (0, 0, 0, 0) (rW m F B SS HH NR RV) [zR (m 0), zI z1] (fun z Y => z = some (zI 0) ∧ Y = (rW m (zup (zup F 15 z1) 16 (F 12)) B SS HH NR RV)) := by
  obtain ⟨mok, tok, ow⟩ := pok2.1 _ _ zj_X12_bad
  refine met_ofz EWX_ok mok tok ow (Nat.le_of_ble_eq_true rfl) (fun r p0 e0 s0 m0 ar0 be0 me0 c0 A0 Q0 X hR => ?_)
  refine zg_blk pok2 X 8 [0, 0, 0] (S' := (14, [(0, zR (m 0)), (1, zI z1)], [zI 0], (rW m (zup (zup F 15 z1) 16 (F 12)) B SS HH NR RV))) rfl ⟨rfl, rfl, rfl, rfl, rfl, rfl, rfl, trivial⟩ ?_
  refine zg_retb X hR rfl rfl (by decide) (by decide) (by first | exact Or.inl rfl | exact Or.inr rfl) ?_
  exact ⟨rfl, rfl⟩
set_option maxRecDepth 4000 in
theorem zj_X12_isIn : PR2[132]? = some mt2_X12_isIn := rfl
set_option maxRecDepth 4000 in
theorem zr_isIn {z1 z2 z3 : Int} (hz1 : -2147483648 ≤ z1 ∧ z1 < 2147483648) (hz2 : -2147483648 ≤ z2 ∧ z2 < 2147483648) (hz3 : -2147483648 ≤ z3 ∧ z3 < 2147483648) : ZMet (EWX xs) D cy l ex mt2_X12_isIn (0, 0, 0, 0) Y0 [zI z1, zI z2, zI z3] (fun z Y => ((z2 ≤ z1 ∧ z1 ≤ z3) ∧ z = some (zI 1) ∧ Y = Y0) ∨ (¬ (z2 ≤ z1 ∧ z1 ≤ z3) ∧ z = some (zI 0) ∧ Y = Y0)) := by
  obtain ⟨mok, tok, ow⟩ := pok2.1 _ _ zj_X12_isIn
  refine met_ofz EWX_ok mok tok ow (Nat.le_of_ble_eq_true rfl) (fun r p0 e0 s0 m0 ar0 be0 me0 c0 A0 Q0 X hR => ?_)
  refine zg_blk pok2 X 2 [] (S' := (2, [(0, zI z1), (1, zI z2), (2, zI z3)], [zI z2, zI z1], Y0)) rfl trivial ?_
  refine zg_icmp X 14 rfl rfl (by unfold zin; omega) (by unfold zin; omega) (fun g1 => ?_) (fun g1 => ?_)
  · simp only [x_cnd] at g1
    refine zg_blk pok2 X 1 [] (S' := (15, [(0, zI z1), (1, zI z2), (2, zI z3)], [zI 0], Y0)) rfl trivial ?_
    refine zg_retb X hR rfl rfl (by decide) (by decide) (by first | exact Or.inl rfl | exact Or.inr rfl) ?_
    first | exact Or.inl ⟨by omega, rfl, rfl⟩ | exact Or.inr ⟨by omega, rfl, rfl⟩
  · simp only [x_ncd] at g1
    refine zg_blk pok2 X 2 [] (S' := (7, [(0, zI z1), (1, zI z2), (2, zI z3)], [zI z3, zI z1], Y0)) rfl trivial ?_
    refine zg_icmp X 14 rfl rfl (by unfold zin; omega) (by unfold zin; omega) (fun g2 => ?_) (fun g2 => ?_)
    · simp only [x_cnd] at g2
      refine zg_blk pok2 X 1 [] (S' := (15, [(0, zI z1), (1, zI z2), (2, zI z3)], [zI 0], Y0)) rfl trivial ?_
      refine zg_retb X hR rfl rfl (by decide) (by decide) (by first | exact Or.inl rfl | exact Or.inr rfl) ?_
      first | exact Or.inl ⟨by omega, rfl, rfl⟩ | exact Or.inr ⟨by omega, rfl, rfl⟩
    · simp only [x_ncd] at g2
      refine zg_blk pok2 X 2 [] (S' := (15, [(0, zI z1), (1, zI z2), (2, zI z3)], [zI 1], Y0)) rfl trivial ?_
      refine zg_retb X hR rfl rfl (by decide) (by decide) (by first | exact Or.inl rfl | exact Or.inr rfl) ?_
      first | exact Or.inl ⟨by omega, rfl, rfl⟩ | exact Or.inr ⟨by omega, rfl, rfl⟩
set_option maxRecDepth 4000 in
theorem zj_X12_bitOf : PR2[90]? = some mt2_X12_bitOf := rfl
set_option maxRecDepth 4000 in
theorem zr_bitOf {z1 z2 : Int} : ZMet (EWX xs) D cy l ex mt2_X12_bitOf (0, 0, 0, 0) Y0 [zI z1, zI z2] (fun z Y => (zand (zshr z1 z2) 1 = 1 ∧ z = some (zI 1) ∧ Y = Y0) ∨ (¬ zand (zshr z1 z2) 1 = 1 ∧ z = some (zI 0) ∧ Y = Y0)) := by
  obtain ⟨mok, tok, ow⟩ := pok2.1 _ _ zj_X12_bitOf
  refine met_ofz EWX_ok mok tok ow (Nat.le_of_ble_eq_true rfl) (fun r p0 e0 s0 m0 ar0 be0 me0 c0 A0 Q0 X hR => ?_)
  refine zg_blk pok2 X 6 [] (S' := (6, [(0, zI z1), (1, zI z2)], [zI 1, zI (zand (zshr z1 z2) 1)], Y0)) rfl trivial ?_
  refine zg_icmp X 13 rfl rfl (by first | (unfold zin; omega) | exact zand_in _ _) (by first | (unfold zin; omega) | exact zand_in _ _) (fun g1 => ?_) (fun g1 => ?_)
  · simp only [x_cnd] at g1
    refine zg_blk pok2 X 1 [] (S' := (14, [(0, zI z1), (1, zI z2)], [zI 0], Y0)) rfl trivial ?_
    refine zg_retb X hR rfl rfl (by decide) (by decide) (by first | exact Or.inl rfl | exact Or.inr rfl) ?_
    first | exact Or.inl ⟨by omega, rfl, rfl⟩ | exact Or.inr ⟨by omega, rfl, rfl⟩
  · simp only [x_ncd] at g1
    refine zg_blk pok2 X 2 [] (S' := (14, [(0, zI z1), (1, zI z2)], [zI 1], Y0)) rfl trivial ?_
    refine zg_retb X hR rfl rfl (by decide) (by decide) (by first | exact Or.inl rfl | exact Or.inr rfl) ?_
    first | exact Or.inl ⟨by omega, rfl, rfl⟩ | exact Or.inr ⟨by omega, rfl, rfl⟩
set_option maxRecDepth 4000 in
theorem zj_X12_isWord : PR2[144]? = some mt2_X12_isWord := rfl
set_option maxRecDepth 4000 in
theorem zr_isWord {w : Nat} (hw : w < 29) (hA : rAt P K S V F j) : ZMet (EWX xs) D cy l ex mt2_X12_isWord (0, 0, 0, 0) (rW m F B SS HH NR RV) [zR (m 0), zL (RC w)] (fun z Y => ((K j = 2 ∧ V j = (w : Int)) ∧ z = some (zI 1) ∧ Y = (rW m F B SS HH NR RV)) ∨ (¬ (K j = 2 ∧ V j = (w : Int)) ∧ z = some (zI 0) ∧ Y = (rW m F B SS HH NR RV))) := by
  obtain ⟨mok, tok, ow⟩ := pok2.1 _ _ zj_X12_isWord
  refine met_ofz EWX_ok mok tok ow (Nat.le_of_ble_eq_true rfl) (fun r p0 e0 s0 m0 ar0 be0 me0 c0 A0 Q0 X hR => ?_)
  have h11 := hA.2.1.t11
  have hrc := RC_rng w hw
  have hwd := hA.2.1.word hw
  refine zg_blk pok2 X 3 [0] (S' := (5, [(0, zR (m 0)), (1, zL (RC w))], [zI 1, zI (F 11)], (rW m F B SS HH NR RV))) rfl ⟨rfl, trivial⟩ ?_
  refine zg_icmp X 21 rfl rfl (by unfold zin; omega) (by unfold zin; omega) (fun g1 => ?_) (fun g1 => ?_)
  · simp only [x_cnd] at g1
    refine zg_blk pok2 X 1 [] (S' := (22, [(0, zR (m 0)), (1, zL (RC w))], [zI 0], (rW m F B SS HH NR RV))) rfl trivial ?_
    refine zg_retb X hR rfl rfl (by decide) (by decide) (by first | exact Or.inl rfl | exact Or.inr rfl) ?_
    first | exact Or.inl ⟨hwd.mp (by omega), rfl, rfl⟩ | exact Or.inr ⟨fun h => absurd (hwd.mpr h) (by omega), rfl, rfl⟩
  · simp only [x_ncd] at g1
    have hle := zlcmp_eq (hA.2.1.w17 (by omega)) (b := RC w) ⟨by omega, by omega⟩
    have hlc := zlcmp_in (F 17) (RC w)
    refine zg_blk pok2 X 4 [0] (S' := (14, [(0, zR (m 0)), (1, zL (RC w))], [zI (zlcmp (F 17) (RC w))], (rW m F B SS HH NR RV))) rfl ⟨rfl, trivial⟩ ?_
    refine zg_if X 21 rfl rfl (by unfold zin; omega) (fun g2 => ?_) (fun g2 => ?_)
    · simp only [x_cnd] at g2
      refine zg_blk pok2 X 1 [] (S' := (22, [(0, zR (m 0)), (1, zL (RC w))], [zI 0], (rW m F B SS HH NR RV))) rfl trivial ?_
      refine zg_retb X hR rfl rfl (by decide) (by decide) (by first | exact Or.inl rfl | exact Or.inr rfl) ?_
      first | exact Or.inl ⟨hwd.mp (by omega), rfl, rfl⟩ | exact Or.inr ⟨fun h => absurd (hwd.mpr h) (by omega), rfl, rfl⟩
    · simp only [x_ncd] at g2
      refine zg_blk pok2 X 2 [] (S' := (22, [(0, zR (m 0)), (1, zL (RC w))], [zI 1], (rW m F B SS HH NR RV))) rfl trivial ?_
      refine zg_retb X hR rfl rfl (by decide) (by decide) (by first | exact Or.inl rfl | exact Or.inr rfl) ?_
      first | exact Or.inl ⟨hwd.mp (by omega), rfl, rfl⟩ | exact Or.inr ⟨fun h => absurd (hwd.mpr h) (by omega), rfl, rfl⟩
set_option maxRecDepth 4000 in
theorem zj_X12_isSign : PR2[140]? = some mt2_X12_isSign := rfl
set_option maxRecDepth 4000 in
theorem zr_isSign {z1 : Int} (hz1 : 4 < z1 ∧ z1 < 63) (hA : rAt P K S V F j) : ZMet (EWX xs) D cy l ex mt2_X12_isSign (0, 0, 0, 0) (rW m F B SS HH NR RV) [zR (m 0), zI z1] (fun z Y => (K j = z1 ∧ z = some (zI 1) ∧ Y = (rW m F B SS HH NR RV)) ∨ (¬ K j = z1 ∧ z = some (zI 0) ∧ Y = (rW m F B SS HH NR RV))) := by
  obtain ⟨mok, tok, ow⟩ := pok2.1 _ _ zj_X12_isSign
  refine met_ofz EWX_ok mok tok ow (Nat.le_of_ble_eq_true rfl) (fun r p0 e0 s0 m0 ar0 be0 me0 c0 A0 Q0 X hR => ?_)
  have h11 := hA.2.1.t11
  have hsg := hA.2.1.sign hz1
  refine zg_blk pok2 X 3 [0] (S' := (5, [(0, zR (m 0)), (1, zI z1)], [zI 3, zI (F 11)], (rW m F B SS HH NR RV))) rfl ⟨rfl, trivial⟩ ?_
  refine zg_icmp X 20 rfl rfl (by unfold zin; omega) (by unfold zin; omega) (fun g1 => ?_) (fun g1 => ?_)
  · simp only [x_cnd] at g1
    refine zg_blk pok2 X 1 [] (S' := (21, [(0, zR (m 0)), (1, zI z1)], [zI 0], (rW m F B SS HH NR RV))) rfl trivial ?_
    refine zg_retb X hR rfl rfl (by decide) (by decide) (by first | exact Or.inl rfl | exact Or.inr rfl) ?_
    first | exact Or.inl ⟨hsg.1.mp (by omega), rfl, rfl⟩ | exact Or.inr ⟨fun h => absurd (hsg.1.mpr h) (by omega), rfl, rfl⟩
  · simp only [x_ncd] at g1
    refine zg_blk pok2 X 3 [0] (S' := (13, [(0, zR (m 0)), (1, zI z1)], [zI z1, zI (F 14)], (rW m F B SS HH NR RV))) rfl ⟨rfl, trivial⟩ ?_
    refine zg_icmp X 20 rfl rfl (by unfold zin; omega) (by unfold zin; omega) (fun g2 => ?_) (fun g2 => ?_)
    · simp only [x_cnd] at g2
      refine zg_blk pok2 X 1 [] (S' := (21, [(0, zR (m 0)), (1, zI z1)], [zI 0], (rW m F B SS HH NR RV))) rfl trivial ?_
      refine zg_retb X hR rfl rfl (by decide) (by decide) (by first | exact Or.inl rfl | exact Or.inr rfl) ?_
      first | exact Or.inl ⟨hsg.1.mp (by omega), rfl, rfl⟩ | exact Or.inr ⟨fun h => absurd (hsg.1.mpr h) (by omega), rfl, rfl⟩
    · simp only [x_ncd] at g2
      refine zg_blk pok2 X 2 [] (S' := (21, [(0, zR (m 0)), (1, zI z1)], [zI 1], (rW m F B SS HH NR RV))) rfl trivial ?_
      refine zg_retb X hR rfl rfl (by decide) (by decide) (by first | exact Or.inl rfl | exact Or.inr rfl) ?_
      first | exact Or.inl ⟨hsg.1.mp (by omega), rfl, rfl⟩ | exact Or.inr ⟨fun h => absurd (hsg.1.mpr h) (by omega), rfl, rfl⟩
set_option maxRecDepth 4000 in
theorem zj_X12_sign : PR2[191]? = some mt2_X12_sign := rfl
set_option maxRecDepth 4000 in
theorem zr_sign {z1 : Int} (hz1 : 4 < z1 ∧ z1 < 63) (hH : RH B P K S V RV k F) (hA : rAt P K S V F j) (hj : j ≤ k) : ZMet (EWX xs) D cy l ex mt2_X12_sign (2, 0, 0, 43) (rW m F B SS HH NR RV) [zR (m 0), zI z1] (fun z Y => (K j = z1 ∧ z = some (zI 1) ∧ ∃ F9, Y = (rW m F9 B SS HH NR RV) ∧ rAt P K S V F9 (j + 1) ∧ j + 1 ≤ k ∧ fr4 F F9) ∨ (¬ K j = z1 ∧ z = some (zI 0) ∧ ∃ F9, Y = (rW m F9 B SS HH NR RV) ∧ F9 15 = 1 ∧ F9 16 = S j)) := by
  obtain ⟨mok, tok, ow⟩ := pok2.1 _ _ zj_X12_sign
  refine met_ofz EWX_ok mok tok ow (Nat.le_of_ble_eq_true rfl) (fun r p0 e0 s0 m0 ar0 be0 me0 c0 A0 Q0 X hR => ?_)
  refine zg_blk pok2 X 2 [] (S' := (2, [(0, zR (m 0)), (1, zI z1)], [zI z1, zR (m 0)], (rW m F B SS HH NR RV))) rfl trivial ?_
  refine zg_callV pok2 EWX_ok X 0 (vas := [zI z1]) (vr := []) (Y1 := (rW m F B SS HH NR RV)) (Y2 := []) rfl rfl (Or.inl rfl) zj_X12_isSign rfl rfl rfl rfl (Nat.le_of_ble_eq_true rfl) rfl (zr_isSign hz1 hA) ⟨by decide, by decide, by decide, by decide⟩ (fun z9 Y9 hz => ?_)
  rcases hz with ⟨hs9, rfl, rfl⟩ | ⟨hs9, rfl, rfl⟩
  · refine zg_if X 14 rfl rfl (by unfold zin; omega) (fun g1 => ?_) (fun g1 => ?_)
    · simp only [x_cnd] at g1
      refine zg_blk pok2 X 1 [] (S' := (15, [(0, zR (m 0)), (1, zI z1)], [zR (m 0)], (rW m F B SS HH NR RV))) rfl trivial ?_
      refine zg_callV pok2 EWX_ok X 0 (vas := []) (vr := []) (Y1 := (rW m F B SS HH NR RV)) (Y2 := []) rfl rfl (Or.inl rfl) zj_X12_next rfl rfl rfl rfl (Nat.le_of_ble_eq_true rfl) rfl (zr_next (F := F) hH.1 hH.2.1 (by have e4 := hA.2.2 (by omega) (by omega); have hp := hH.2.2.2.1.2.2.2.2.2 (j + 1) (hH.len hj (by omega) (by omega)); show 0 ≤ F 4 ∧ F 4 ≤ F 3; omega) (by have h9 := hH.2.2.1; show 0 ≤ F 5 ∧ F 5 ≤ 1000; omega)) ⟨by decide, by decide, by decide, by decide⟩ (fun z9 Y9 hz => ?_)
      obtain ⟨rfl, Fa, rfl, hrt, hfrt⟩ := hz
      have hj1 : j + 1 ≤ k := hH.len hj (by omega) (by omega)
      have hAa : rAt P K S V Fa (j + 1) := rnext_ok (j := j) hH hA hj1 (by omega) (by omega) hrt
      have hfa : fr4 F Fa := hfrt.fr4
      refine zg_blk pok2 X 1 [] (S' := (19, [(0, zR (m 0)), (1, zI z1)], [zI 1], (rW m Fa B SS HH NR RV))) rfl trivial ?_
      refine zg_retb X hR rfl rfl (by decide) (by decide) (by first | exact Or.inl rfl | exact Or.inr rfl) ?_
      exact Or.inl ⟨hs9, rfl, Fa, rfl, hAa, hj1, hfa⟩
    · exact absurd (show (1 : Int) = (0 : Int) from g1) (by decide)
  · refine zg_if X 14 rfl rfl (by unfold zin; omega) (fun g2 => ?_) (fun g2 => ?_)
    · exact absurd (show ¬ (0 : Int) = (0 : Int) from g2) (by decide)
    · simp only [x_ncd] at g2
      refine zg_blk pok2 X 2 [] (S' := (10, [(0, zR (m 0)), (1, zI z1)], [zI 1, zR (m 0)], (rW m F B SS HH NR RV))) rfl trivial ?_
      refine zg_callV pok2 EWX_ok X 0 (vas := [zI 1]) (vr := []) (Y1 := (rW m F B SS HH NR RV)) (Y2 := []) rfl rfl (Or.inl rfl) zj_X12_bad rfl rfl rfl rfl (Nat.le_of_ble_eq_true rfl) rfl (zr_bad (F := F)) ⟨by decide, by decide, by decide, by decide⟩ (fun z9 Y9 hz => ?_)
      obtain ⟨rfl, rfl⟩ := hz
      refine zg_retb X hR rfl rfl (by decide) (by decide) (by first | exact Or.inl rfl | exact Or.inr rfl) ?_
      exact Or.inr ⟨hs9, rfl, _, rfl, rfl, hA.1⟩
set_option maxRecDepth 4000 in
theorem zj_X12_isName : PR2[134]? = some mt2_X12_isName := rfl
set_option maxRecDepth 4000 in
theorem zr_isName0 (hA : rAt P K S V F j) (hRZ : ∀ q, zin64 (RV q)) : ZMet (EWX xs) D cy l ex mt2_X12_isName (0, 0, 0, 0) (rW m F B SS HH NR RV) [zR (m 0)] (fun z Y => ((F 11 = 1 ∧ ∀ q : Nat, q < 29 → ¬ F 17 = RV q) ∧ z = some (zI 1) ∧ Y = (rW m F B SS HH NR RV)) ∨ (¬ (F 11 = 1 ∧ ∀ q : Nat, q < 29 → ¬ F 17 = RV q) ∧ z = some (zI 0) ∧ Y = (rW m F B SS HH NR RV))) := by
  obtain ⟨mok, tok, ow⟩ := pok2.1 _ _ zj_X12_isName
  refine met_ofz EWX_ok mok tok ow (Nat.le_of_ble_eq_true rfl) (fun r p0 e0 s0 m0 ar0 be0 me0 c0 A0 Q0 X hR => ?_)
  have h11 := hA.2.1.t11
  have zero9 : ∀ (n t : Nat), t ≤ 29 → 29 - t < n → ¬ (F 11 = 1 ∧ ∀ q : Nat, q < 29 → ¬ F 17 = RV q) → ZG D cy r mt2_X12_isName p0 l e0 (rmR (0, 0, 0, 0)) s0 m0 ar0 be0 me0 c0 A0 Q0 0 0 (16, [(0, zR (m 0)), (1, zI 0), (2, zI (t : Int))], [], (rW m F B SS HH NR RV)) := by
    intro n
    induction n with
    | zero => intro t h1 h2; omega
    | succ n ih0 =>
      intro t h1 h2 hno
      have ih := fun t q1 q2 => ih0 t q1 q2 hno
      refine zg_blk pok2 X 2 [] (S' := (19, [(0, zR (m 0)), (1, zI 0), (2, zI (t : Int))], [zI 29, zI (t : Int)], (rW m F B SS HH NR RV))) rfl trivial ?_
      refine zg_icmp X 52 rfl rfl (by unfold zin; omega) (by unfold zin; omega) (fun g1 => ?_) (fun g1 => ?_)
      · simp only [x_cnd] at g1
        refine zg_blk pok2 X 1 [] (S' := (53, [(0, zR (m 0)), (1, zI 0), (2, zI (t : Int))], [zI 0], (rW m F B SS HH NR RV))) rfl trivial ?_
        refine zg_retb X hR rfl rfl (by decide) (by decide) (by first | exact Or.inl rfl | exact Or.inr rfl) ?_
        exact Or.inr ⟨hno, rfl, rfl⟩
      · simp only [x_ncd] at g1
        refine zg_blk pok2 X 1 [] (S' := (23, [(0, zR (m 0)), (1, zI 0), (2, zI (t : Int))], [zI 0], (rW m F B SS HH NR RV))) rfl trivial ?_
        refine zg_if X 44 rfl rfl (by unfold zin; omega) (fun g2 => ?_) (fun g2 => ?_)
        · simp only [x_cnd] at g2
          refine zg_blk pok2 X 4 [] (S' := (16, [(2, zI ((t : Int) + 1)), (1, zI 0), (0, zR (m 0))], [], (rW m F B SS HH NR RV))) rfl trivial ?_
          have ih9 := ih (t + 1) (by omega) (by omega)
          rw [show (((t + 1 : Nat)) : Int) = (t : Int) + 1 by omega] at ih9
          refine zg_lv _ ?_ ih9
          intro q hq
          simp only [List.mem_cons, List.not_mem_nil, or_false] at hq ⊢
          rcases hq with rfl | rfl | rfl <;> simp
        · exact absurd (show ¬ (0 : Int) = (0 : Int) from g2) (by decide)
  have one9 : F 11 = 1 → ∀ (n t : Nat), t ≤ 29 → 29 - t < n → (∀ q, q < t → ¬ F 17 = RV q) → ZG D cy r mt2_X12_isName p0 l e0 (rmR (0, 0, 0, 0)) s0 m0 ar0 be0 me0 c0 A0 Q0 0 0 (16, [(0, zR (m 0)), (1, zI 1), (2, zI (t : Int))], [], (rW m F B SS HH NR RV)) := by
    intro h11e n
    induction n with
    | zero => intro t h1 h2; omega
    | succ n ih =>
      intro t h1 h2 h4
      refine zg_blk pok2 X 2 [] (S' := (19, [(0, zR (m 0)), (1, zI 1), (2, zI (t : Int))], [zI 29, zI (t : Int)], (rW m F B SS HH NR RV))) rfl trivial ?_
      refine zg_icmp X 52 rfl rfl (by have h9 := zlcmp_in (F 17) (RV (t : Int).toNat); unfold zin; omega) (by have h9 := zlcmp_in (F 17) (RV (t : Int).toNat); unfold zin; omega) (fun g1 => ?_) (fun g1 => ?_)
      · simp only [x_cnd] at g1
        refine zg_blk pok2 X 1 [] (S' := (53, [(0, zR (m 0)), (1, zI 1), (2, zI (t : Int))], [zI 1], (rW m F B SS HH NR RV))) rfl trivial ?_
        refine zg_retb X hR rfl rfl (by decide) (by decide) (by first | exact Or.inl rfl | exact Or.inr rfl) ?_
        exact Or.inl ⟨⟨h11e, fun q hq => h4 q (by omega)⟩, rfl, rfl⟩
      · simp only [x_ncd] at g1
        refine zg_blk pok2 X 1 [] (S' := (23, [(0, zR (m 0)), (1, zI 1), (2, zI (t : Int))], [zI 1], (rW m F B SS HH NR RV))) rfl trivial ?_
        refine zg_if X 44 rfl rfl (by have h9 := zlcmp_in (F 17) (RV (t : Int).toNat); unfold zin; omega) (fun g2 => ?_) (fun g2 => ?_)
        · exact absurd (show (1 : Int) = (0 : Int) from g2) (by decide)
        · simp only [x_ncd] at g2
          refine zg_blk pok2 X 7 [0, 0, 5] (S' := (37, [(0, zR (m 0)), (1, zI 1), (2, zI (t : Int))], [zI (zlcmp (F 17) (RV ((t : Int).toNat)))], (rW m F B SS HH NR RV))) rfl ⟨rfl, rfl, rfl, (show zidx (t : Int) 29 from by unfold zidx; omega), trivial⟩ ?_
          refine zg_if X 44 rfl rfl (by have h9 := zlcmp_in (F 17) (RV (t : Int).toNat); unfold zin; omega) (fun g3 => ?_) (fun g3 => ?_)
          · simp only [x_cnd] at g3
            rw [zlcmp_eq (hA.2.1.w17 h11e) (hRZ _)] at g3
            refine zg_blk pok2 X 4 [] (S' := (16, [(2, zI ((t : Int) + 1)), (1, zI 0), (0, zR (m 0))], [], (rW m F B SS HH NR RV))) rfl trivial ?_
            have l9 := zero9 30 (t + 1) (by omega) (by omega) (fun h => by rw [Int.toNat_natCast] at g3; exact h.2 t (by omega) g3)
            rw [show (((t + 1 : Nat)) : Int) = (t : Int) + 1 by omega] at l9
            refine zg_lv _ ?_ l9
            intro q hq
            simp only [List.mem_cons, List.not_mem_nil, or_false] at hq ⊢
            rcases hq with rfl | rfl | rfl <;> simp
          · simp only [x_ncd] at g3
            rw [zlcmp_eq (hA.2.1.w17 h11e) (hRZ _)] at g3
            refine zg_blk pok2 X 5 [] (S' := (16, [(2, zI ((t : Int) + 1)), (1, zI 1), (0, zR (m 0))], [], (rW m F B SS HH NR RV))) rfl trivial ?_
            have ih9 := ih (t + 1) (by omega) (by omega) (fun q hq => by rcases (show q < t ∨ q = t by omega) with h | rfl; exact h4 q h; rw [Int.toNat_natCast] at g3; exact g3)
            rw [show (((t + 1 : Nat)) : Int) = (t : Int) + 1 by omega] at ih9
            refine zg_lv _ ?_ ih9
            intro q hq
            simp only [List.mem_cons, List.not_mem_nil, or_false] at hq ⊢
            rcases hq with rfl | rfl | rfl <;> simp
  refine zg_blk pok2 X 3 [0] (S' := (5, [(0, zR (m 0))], [zI 1, zI (F 11)], (rW m F B SS HH NR RV))) rfl ⟨rfl, trivial⟩ ?_
  refine zg_icmp X 12 rfl rfl (by unfold zin; omega) (by unfold zin; omega) (fun g1 => ?_) (fun g1 => ?_)
  · simp only [x_cnd] at g1
    refine zg_blk pok2 X 4 [] (S' := (16, [(2, zI 0), (1, zI 0), (0, zR (m 0))], [], (rW m F B SS HH NR RV))) rfl trivial ?_
    have l9 := zero9 30 0 (by omega) (by omega) (fun h => by omega)
    refine zg_lv _ ?_ l9
    intro q hq
    simp only [List.mem_cons, List.not_mem_nil, or_false] at hq ⊢
    rcases hq with rfl | rfl | rfl <;> simp
  · simp only [x_ncd] at g1
    refine zg_blk pok2 X 5 [] (S' := (16, [(2, zI 0), (1, zI 1), (0, zR (m 0))], [], (rW m F B SS HH NR RV))) rfl trivial ?_
    have l9 := one9 (by omega) 30 0 (by omega) (by omega) (fun q hq => by omega)
    refine zg_lv _ ?_ l9
    intro q hq
    simp only [List.mem_cons, List.not_mem_nil, or_false] at hq ⊢
    rcases hq with rfl | rfl | rfl <;> simp
set_option maxRecDepth 4000 in
theorem zj_X12_find : PR2[115]? = some mt2_X12_find := rfl
set_option maxRecDepth 4000 in
theorem zr_find {fr n : Nat} (hfn : fr + n ≤ 56) (hNZ : ∀ q, zin64 (NR q)) (hW : zin64 (F 17)) : ZMet (EWX xs) D cy l ex mt2_X12_find (0, 0, 0, 0) (rW m F B SS HH NR RV) [zR (m 0), zI (fr : Int), zI (n : Int)] (fun z Y => z = some (zI (lk (fun q => NR (fr + q)) (F 17) n)) ∧ Y = (rW m F B SS HH NR RV)) := by
  obtain ⟨mok, tok, ow⟩ := pok2.1 _ _ zj_X12_find
  refine met_ofz EWX_ok mok tok ow (Nat.le_of_ble_eq_true rfl) (fun r p0 e0 s0 m0 ar0 be0 me0 c0 A0 Q0 X hR => ?_)
  have loop : ∀ (t i : Nat), i ≤ n → n - i < t → lk (fun q => NR (fr + q)) (F 17) i = -1 → ZG D cy r mt2_X12_find p0 l e0 (rmR (0, 0, 0, 0)) s0 m0 ar0 be0 me0 c0 A0 Q0 0 0 (2, [(0, zR (m 0)), (1, zI (fr : Int)), (2, zI (n : Int)), (3, zI (i : Int))], [], (rW m F B SS HH NR RV)) := by
    intro t
    induction t with
    | zero => intro i h1 h2; omega
    | succ t ih =>
      intro i h1 h2 h4
      refine zg_blk pok2 X 2 [] (S' := (4, [(0, zR (m 0)), (1, zI (fr : Int)), (2, zI (n : Int)), (3, zI (i : Int))], [zI (n : Int), zI (i : Int)], (rW m F B SS HH NR RV))) rfl trivial ?_
      refine zg_icmp X 31 rfl rfl (by have h9 := zlcmp_in (NR ((fr : Int) + (i : Int)).toNat) (F 17); unfold zin; omega) (by have h9 := zlcmp_in (NR ((fr : Int) + (i : Int)).toNat) (F 17); unfold zin; omega) (fun g1 => ?_) (fun g1 => ?_)
      · simp only [x_cnd] at g1
        refine zg_blk pok2 X 1 [] (S' := (32, [(0, zR (m 0)), (1, zI (fr : Int)), (2, zI (n : Int)), (3, zI (i : Int))], [zI (-1)], (rW m F B SS HH NR RV))) rfl trivial ?_
        refine zg_reti X hR rfl rfl (by decide) (by decide) ?_
        refine ⟨?_, rfl⟩
        rw [show n = i by omega, h4]
      · simp only [x_ncd] at g1
        refine zg_blk pok2 X 9 [0, 4, 0] (S' := (20, [(0, zR (m 0)), (1, zI (fr : Int)), (2, zI (n : Int)), (3, zI (i : Int))], [zI (zlcmp (NR (((fr : Int) + (i : Int)).toNat)) (F 17))], (rW m F B SS HH NR RV))) rfl ⟨rfl, rfl, (show zidx ((fr : Int) + (i : Int)) 56 from by unfold zidx; omega), rfl, trivial⟩ ?_
        refine zg_if X 25 rfl rfl (by have h9 := zlcmp_in (NR ((fr : Int) + (i : Int)).toNat) (F 17); unfold zin; omega) (fun g2 => ?_) (fun g2 => ?_)
        · simp only [x_cnd] at g2
          rw [zlcmp_eq (hNZ _) hW] at g2
          refine zg_blk pok2 X 2 [] (S' := (2, [(3, zI ((i : Int) + 1)), (0, zR (m 0)), (1, zI (fr : Int)), (2, zI (n : Int))], [], (rW m F B SS HH NR RV))) rfl trivial ?_
          have ih9 := ih (i + 1) (by omega) (by omega) (lk_on h4 (by intro q; apply g2; rw [show ((fr : Int) + (i : Int)).toNat = fr + i by omega]; exact q))
          rw [show (((i + 1 : Nat)) : Int) = (i : Int) + 1 by omega] at ih9
          refine zg_lv _ ?_ ih9
          intro q hq
          simp only [List.mem_cons, List.not_mem_nil, or_false] at hq ⊢
          rcases hq with rfl | rfl | rfl | rfl <;> simp
        · simp only [x_ncd] at g2
          rw [zlcmp_eq (hNZ _) hW] at g2
          refine zg_blk pok2 X 1 [] (S' := (24, [(0, zR (m 0)), (1, zI (fr : Int)), (2, zI (n : Int)), (3, zI (i : Int))], [zI (i : Int)], (rW m F B SS HH NR RV))) rfl trivial ?_
          refine zg_reti X hR rfl rfl (by decide) (by decide) ?_
          refine ⟨?_, rfl⟩
          rw [lk_here h4 (by rw [show fr + i = ((fr : Int) + (i : Int)).toNat by omega]; exact g2) (by omega)]
  refine zg_blk pok2 X 2 [] (S' := (2, [(3, zI 0), (0, zR (m 0)), (1, zI (fr : Int)), (2, zI (n : Int))], [], (rW m F B SS HH NR RV))) rfl trivial ?_
  refine zg_lv _ ?_ (loop 1000 0 (by omega) (by omega) rfl)
  intro q hq
  simp only [List.mem_cons, List.not_mem_nil, or_false] at hq ⊢
  rcases hq with rfl | rfl | rfl | rfl <;> simp
end ZS9
