/-! the reference: names, numbers (written by wip/p4/g12.py) -/
theorem RH.fr2 {B P K S V RV F F9 : Nat → Int} {k : Nat} (h : RH B P K S V RV k F) (e3 : F9 3 = F 3) (e5 : F9 5 = F 5) : RH B P K S V RV k F9 := by
  unfold RH
  rw [e3, e5]
  exact h
theorem tokM.key {kd val : Int} {F : Nat → Int} (h : tokM kd val F) (q : kd = 1) : F 17 = wd val ∧ (0 ≤ val ∧ val < 34359738368) ∧ F 11 = 1 := by
  rcases h with ⟨h0, h⟩ | ⟨h0, h⟩ | ⟨h0, h, e, w1, w2, w3⟩ | ⟨h0, h, e, w1, w2⟩ | ⟨h0, h, -⟩ | ⟨h0, h1, h, -⟩
  · omega
  · omega
  · exact ⟨e, ⟨w2, w3⟩, h⟩
  · omega
  · omega
  · omega
section ZT9
variable {xs : Nat → Int32} {D : va_G} {cy : Nat → ClassId} {l : Launch} {ex : Nat → Nat} {m : Nat → Nat} {F B SS HH NR RV P K S V CN NM MK KN : Nat → Int} {Y0 : ZW} {j k : Nat} {x : Int}
set_option maxRecDepth 4000 in
theorem zj_X12_looksAt : PR2[154]? = some mt2_X12_looksAt := rfl
set_option maxRecDepth 4000 in
theorem zr_looksAt {sN : Nat} (hs : sN < 4) (hH : RH B P K S V RV k F) (hA : rAt P K S V F j) (hj : j ≤ k) (hRR : RR HH NR CN NM MK KN) (hI : INV CN NM x) (hRZ : ∀ q, zin64 (RV q)) : ZMet (EWX xs) D cy l ex mt2_X12_looksAt (1, 0, 0, 23) (rW m F B SS HH NR RV) [zR (m 0), zI ((bs sN : Nat) : Int), zI (((CN sN).toNat : Nat) : Int)] (fun z Y => (tdF K V CN NM sN j = 0 ∧ z = some (zI 1) ∧ Y = (rW m (zup F 18 (lkS CN NM sN (V j))) B SS HH NR RV)) ∨ (¬ tdF K V CN NM sN j = 0 ∧ z = some (zI 0) ∧ ∃ F9, Y = (rW m F9 B SS HH NR RV) ∧ F9 15 = tdF K V CN NM sN j ∧ F9 16 = S j)) := by
  obtain ⟨mok, tok, ow⟩ := pok2.1 _ _ zj_X12_looksAt
  refine met_ofz EWX_ok mok tok ow (Nat.le_of_ble_eq_true rfl) (fun r p0 e0 s0 m0 ar0 be0 me0 c0 A0 Q0 X hR => ?_)
  have hA0 := hA
  have hH0 := hH
  have hj0 := hj
  have hf0 : fr4 F F := ⟨rfl, rfl, rfl, rfl⟩
  have hfb : bs sN + (CN sN).toNat ≤ 56 := by
    obtain ⟨c0, c1, c2, c3, -⟩ := hI
    obtain ⟨b0, b1, b2, b3⟩ := bs_val
    rcases (show sN = 0 ∨ sN = 1 ∨ sN = 2 ∨ sN = 3 by omega) with rfl | rfl | rfl | rfl <;> omega
  refine zg_blk pok2 X 1 [] (S' := (1, [(0, zR (m 0)), (1, zI ((bs sN : Nat) : Int)), (2, zI (((CN sN).toNat : Nat) : Int))], [zR (m 0)], (rW m F B SS HH NR RV))) rfl trivial ?_
  refine zg_callV pok2 EWX_ok X 0 (vas := []) (vr := []) (Y1 := (rW m F B SS HH NR RV)) (Y2 := []) rfl rfl (Or.inl rfl) zj_X12_isName rfl rfl rfl rfl (Nat.le_of_ble_eq_true rfl) rfl (zr_isName0 (F := F) hA0 hRZ) ⟨by decide, by decide, by decide, by decide⟩ (fun z9 Y9 hz => ?_)
  rcases hz with ⟨hq, rfl, rfl⟩ | ⟨hq, rfl, rfl⟩
  · have hk0 : K j = 1 := (hA0.2.1.name hH0.2.2.2.2).mp hq
    have hky0 := hA0.2.1.key hk0
    refine zg_if X 13 rfl rfl (by unfold zin; omega) (fun g1 => ?_) (fun g1 => ?_)
    · simp only [x_cnd] at g1
      refine zg_blk pok2 X 4 [] (S' := (17, [(0, zR (m 0)), (1, zI ((bs sN : Nat) : Int)), (2, zI (((CN sN).toNat : Nat) : Int))], [zI (((CN sN).toNat : Nat) : Int), zI ((bs sN : Nat) : Int), zR (m 0), zR (m 0)], (rW m F B SS HH NR RV))) rfl trivial ?_
      refine zg_callV pok2 EWX_ok X 0 (vas := [zI ((bs sN : Nat) : Int), zI (((CN sN).toNat : Nat) : Int)]) (vr := [zR (m 0)]) (Y1 := (rW m F B SS HH NR RV)) (Y2 := []) rfl rfl (Or.inl rfl) zj_X12_find rfl rfl rfl rfl (Nat.le_of_ble_eq_true rfl) rfl (zr_find (fr := bs sN) (n := (CN sN).toNat) (F := F) (by have h9 := hI.cn sN (by omega); exact hfb) hRR.2.2.2.2 (hA0.2.1.w17 hky0.2.2)) ⟨by decide, by decide, by decide, by decide⟩ (fun z9 Y9 hz => ?_)
      obtain ⟨rfl, rfl⟩ := hz
      rw [show lk (fun q => NR (bs sN + q)) (F 17) (CN sN).toNat = lkS CN NM sN (V j) by rw [hky0.1]; exact rlk (s := sN) hRR hI (by omega) hky0.2.1]
      have hlrsN := lkS_rng (NM := NM) (key := V j) (hI.cn sN (by omega))
      refine zg_blk pok2 X 3 [0, 0] (S' := (27, [(0, zR (m 0)), (1, zI ((bs sN : Nat) : Int)), (2, zI (((CN sN).toNat : Nat) : Int))], [zI (lkS CN NM sN (V j))], (rW m (zup F 18 (lkS CN NM sN (V j))) B SS HH NR RV))) rfl ⟨rfl, rfl, rfl, rfl, trivial⟩ ?_
      refine zg_if X 38 rfl rfl (by unfold zin; omega) (fun g2 => ?_) (fun g2 => ?_)
      · simp only [x_cnd] at g2
        refine zg_blk pok2 X 2 [] (S' := (43, [(0, zR (m 0)), (1, zI ((bs sN : Nat) : Int)), (2, zI (((CN sN).toNat : Nat) : Int))], [zI 1], (rW m (zup F 18 (lkS CN NM sN (V j))) B SS HH NR RV))) rfl trivial ?_
        refine zg_retb X hR rfl rfl (by decide) (by decide) (by first | exact Or.inl rfl | exact Or.inr rfl) ?_
        have e9 : tdF K V CN NM sN j = 0 := by unfold tdF; rw [if_pos hk0, if_neg (by omega)]
        exact Or.inl ⟨e9, rfl, rfl⟩
      · simp only [x_ncd] at g2
        refine zg_blk pok2 X 2 [] (S' := (32, [(0, zR (m 0)), (1, zI ((bs sN : Nat) : Int)), (2, zI (((CN sN).toNat : Nat) : Int))], [zI 3, zR (m 0)], (rW m (zup F 18 (lkS CN NM sN (V j))) B SS HH NR RV))) rfl trivial ?_
        refine zg_callV pok2 EWX_ok X 0 (vas := [zI 3]) (vr := []) (Y1 := (rW m (zup F 18 (lkS CN NM sN (V j))) B SS HH NR RV)) (Y2 := []) rfl rfl (Or.inl rfl) zj_X12_bad rfl rfl rfl rfl (Nat.le_of_ble_eq_true rfl) rfl (zr_bad (F := (zup F 18 (lkS CN NM sN (V j))))) ⟨by decide, by decide, by decide, by decide⟩ (fun z9 Y9 hz => ?_)
        obtain ⟨rfl, rfl⟩ := hz
        refine zg_if X 42 rfl rfl (by unfold zin; omega) (fun g3 => ?_) (fun g3 => ?_)
        · simp only [x_cnd] at g3
          refine zg_blk pok2 X 1 [] (S' := (43, [(0, zR (m 0)), (1, zI ((bs sN : Nat) : Int)), (2, zI (((CN sN).toNat : Nat) : Int))], [zI 0], (rW m (zup (zup (zup F 18 (lkS CN NM sN (V j))) 15 3) 16 ((zup F 18 (lkS CN NM sN (V j))) 12)) B SS HH NR RV))) rfl trivial ?_
          refine zg_retb X hR rfl rfl (by decide) (by decide) (by first | exact Or.inl rfl | exact Or.inr rfl) ?_
          have e9 : tdF K V CN NM sN j = 3 := by unfold tdF; rw [if_pos hk0, if_pos (by omega)]
          exact Or.inr ⟨by omega, rfl, _, rfl, by rw [e9]; rfl, hA.1⟩
        · exact absurd (show ¬ (0 : Int) = (0 : Int) from g3) (by decide)
    · exact absurd (show (1 : Int) = (0 : Int) from g1) (by decide)
  · have hk0 : ¬ K j = 1 := fun h => hq ((hA0.2.1.name hH0.2.2.2.2).mpr h)
    refine zg_if X 13 rfl rfl (by unfold zin; omega) (fun g4 => ?_) (fun g4 => ?_)
    · exact absurd (show ¬ (0 : Int) = (0 : Int) from g4) (by decide)
    · simp only [x_ncd] at g4
      refine zg_blk pok2 X 2 [] (S' := (9, [(0, zR (m 0)), (1, zI ((bs sN : Nat) : Int)), (2, zI (((CN sN).toNat : Nat) : Int))], [zI 1, zR (m 0)], (rW m F B SS HH NR RV))) rfl trivial ?_
      refine zg_callV pok2 EWX_ok X 0 (vas := [zI 1]) (vr := []) (Y1 := (rW m F B SS HH NR RV)) (Y2 := []) rfl rfl (Or.inl rfl) zj_X12_bad rfl rfl rfl rfl (Nat.le_of_ble_eq_true rfl) rfl (zr_bad (F := F)) ⟨by decide, by decide, by decide, by decide⟩ (fun z9 Y9 hz => ?_)
      obtain ⟨rfl, rfl⟩ := hz
      refine zg_retb X hR rfl rfl (by decide) (by decide) (by first | exact Or.inl rfl | exact Or.inr rfl) ?_
      have e9 : tdF K V CN NM sN j = 1 := by unfold tdF; rw [if_neg hk0]
      exact Or.inr ⟨by omega, rfl, _, rfl, by rw [e9]; rfl, hA.1⟩
set_option maxRecDepth 4000 in
theorem zj_X12_takesName : PR2[199]? = some mt2_X12_takesName := rfl
set_option maxRecDepth 4000 in
theorem zr_takesName {sN : Nat} (hs : sN < 4) (hH : RH B P K S V RV k F) (hA : rAt P K S V F j) (hj : j ≤ k) (hRR : RR HH NR CN NM MK KN) (hI : INV CN NM x) (hRZ : ∀ q, zin64 (RV q)) : ZMet (EWX xs) D cy l ex mt2_X12_takesName (2, 0, 0, 45) (rW m F B SS HH NR RV) [zR (m 0), zI ((bs sN : Nat) : Int), zI (((CN sN).toNat : Nat) : Int)] (fun z Y => (tdF K V CN NM sN j = 0 ∧ z = some (zI 1) ∧ ∃ F9, Y = (rW m F9 B SS HH NR RV) ∧ rAt P K S V F9 (j + 1) ∧ j + 1 ≤ k ∧ fr4 F F9 ∧ F9 18 = lkS CN NM sN (V j)) ∨ (¬ tdF K V CN NM sN j = 0 ∧ z = some (zI 0) ∧ ∃ F9, Y = (rW m F9 B SS HH NR RV) ∧ F9 15 = tdF K V CN NM sN j ∧ F9 16 = S j)) := by
  obtain ⟨mok, tok, ow⟩ := pok2.1 _ _ zj_X12_takesName
  refine met_ofz EWX_ok mok tok ow (Nat.le_of_ble_eq_true rfl) (fun r p0 e0 s0 m0 ar0 be0 me0 c0 A0 Q0 X hR => ?_)
  have hA0 := hA
  have hH0 := hH
  have hj0 := hj
  have hf0 : fr4 F F := ⟨rfl, rfl, rfl, rfl⟩
  refine zg_blk pok2 X 3 [] (S' := (3, [(0, zR (m 0)), (1, zI ((bs sN : Nat) : Int)), (2, zI (((CN sN).toNat : Nat) : Int))], [zI (((CN sN).toNat : Nat) : Int), zI ((bs sN : Nat) : Int), zR (m 0)], (rW m F B SS HH NR RV))) rfl trivial ?_
  refine zg_callV pok2 EWX_ok X 0 (vas := [zI ((bs sN : Nat) : Int), zI (((CN sN).toNat : Nat) : Int)]) (vr := []) (Y1 := (rW m F B SS HH NR RV)) (Y2 := []) rfl rfl (Or.inl rfl) zj_X12_looksAt rfl rfl rfl rfl (Nat.le_of_ble_eq_true rfl) rfl (zr_looksAt (sN := sN) (F := F) (j := j) (by omega) hH0 hA0 hj0 hRR hI hRZ) ⟨by decide, by decide, by decide, by decide⟩ (fun z9 Y9 hz => ?_)
  rcases hz with ⟨ht0, rfl, rfl⟩ | ⟨ht0, rfl, Fa, rfl, hb1, hb2⟩
  · have hk0 := (td_ne ht0).1
    have hl0 := (td_ne ht0).2
    refine zg_if X 11 rfl rfl (by unfold zin; omega) (fun g1 => ?_) (fun g1 => ?_)
    · simp only [x_cnd] at g1
      refine zg_blk pok2 X 1 [] (S' := (12, [(0, zR (m 0)), (1, zI ((bs sN : Nat) : Int)), (2, zI (((CN sN).toNat : Nat) : Int))], [zR (m 0)], (rW m (zup F 18 (lkS CN NM sN (V j))) B SS HH NR RV))) rfl trivial ?_
      have hj1 : j + 1 ≤ k := hH0.len hj0 (by omega) (by omega)
      refine zg_callV pok2 EWX_ok X 0 (vas := []) (vr := []) (Y1 := (rW m (zup F 18 (lkS CN NM sN (V j))) B SS HH NR RV)) (Y2 := []) rfl rfl (Or.inl rfl) zj_X12_next rfl rfl rfl rfl (Nat.le_of_ble_eq_true rfl) rfl (zr_next (F := (zup F 18 (lkS CN NM sN (V j)))) hH0.1 hH0.2.1 (by have e4 := hA0.2.2 (by omega) (by omega); have hp := hH0.2.2.2.1.2.2.2.2.2 (j + 1) hj1; show 0 ≤ F 4 ∧ F 4 ≤ F 3; omega) (by have h9 := hH0.2.2.1; show 0 ≤ F 5 ∧ F 5 ≤ 1000; omega)) ⟨by decide, by decide, by decide, by decide⟩ (fun z9 Y9 hz => ?_)
      obtain ⟨rfl, Fb, rfl, hrt, hfrt⟩ := hz
      have hA1 : rAt P K S V Fb (j + 1) := rnext_ok (F := (zup F 18 (lkS CN NM sN (V j)))) (j := j) hH0 hA0 hj1 (by omega) (by omega) hrt
      have hH1 : RH B P K S V RV k Fb := RH.fr2 hH0 (show Fb 3 = F 3 from hfrt.fr4.1) (show Fb 5 = F 5 from hfrt.fr4.2.1)
      have hg1 : Fb 18 = lkS CN NM sN (V j) := hfrt 18 (by decide) (by decide) (by decide) (by decide) (by decide) (by decide)
      have hf1 : fr4 F Fb := fr4.tr (G := F) hf0 (show fr4 F Fb from hfrt.fr4)
      refine zg_blk pok2 X 1 [] (S' := (16, [(0, zR (m 0)), (1, zI ((bs sN : Nat) : Int)), (2, zI (((CN sN).toNat : Nat) : Int))], [zI 1], (rW m Fb B SS HH NR RV))) rfl trivial ?_
      refine zg_retb X hR rfl rfl (by decide) (by decide) (by first | exact Or.inl rfl | exact Or.inr rfl) ?_
      exact Or.inl ⟨ht0, rfl, _, rfl, hA1, hj1, hf1, hg1⟩
    · exact absurd (show (1 : Int) = (0 : Int) from g1) (by decide)
  · refine zg_if X 11 rfl rfl (by unfold zin; omega) (fun g2 => ?_) (fun g2 => ?_)
    · exact absurd (show ¬ (0 : Int) = (0 : Int) from g2) (by decide)
    · simp only [x_ncd] at g2
      refine zg_blk pok2 X 1 [] (S' := (10, [(0, zR (m 0)), (1, zI ((bs sN : Nat) : Int)), (2, zI (((CN sN).toNat : Nat) : Int))], [zI 0], (rW m Fa B SS HH NR RV))) rfl trivial ?_
      refine zg_retb X hR rfl rfl (by decide) (by decide) (by first | exact Or.inl rfl | exact Or.inr rfl) ?_
      exact Or.inr ⟨ht0, rfl, _, rfl, hb1, hb2⟩
set_option maxRecDepth 4000 in
theorem zj_X12_takes : PR2[197]? = some mt2_X12_takes := rfl
set_option maxRecDepth 4000 in
theorem zr_takes {lo hi : Int} (hlo : -2147483648 ≤ lo ∧ lo < 2147483648) (hhi : -2147483648 ≤ hi ∧ hi < 2147483648) (hH : RH B P K S V RV k F) (hA : rAt P K S V F j) (hj : j ≤ k) : ZMet (EWX xs) D cy l ex mt2_X12_takes (2, 0, 0, 43) (rW m F B SS HH NR RV) [zR (m 0), zI lo, zI hi] (fun z Y => (nmF K V lo hi j = 0 ∧ z = some (zI 1) ∧ ∃ F9, Y = (rW m F9 B SS HH NR RV) ∧ rAt P K S V F9 (j + 1) ∧ j + 1 ≤ k ∧ fr4 F F9 ∧ F9 18 = V j) ∨ (¬ nmF K V lo hi j = 0 ∧ z = some (zI 0) ∧ ∃ F9, Y = (rW m F9 B SS HH NR RV) ∧ F9 15 = nmF K V lo hi j ∧ F9 16 = S j)) := by
  obtain ⟨mok, tok, ow⟩ := pok2.1 _ _ zj_X12_takes
  refine met_ofz EWX_ok mok tok ow (Nat.le_of_ble_eq_true rfl) (fun r p0 e0 s0 m0 ar0 be0 me0 c0 A0 Q0 X hR => ?_)
  have hA0 := hA
  have hH0 := hH
  have hj0 := hj
  have hf0 : fr4 F F := ⟨rfl, rfl, rfl, rfl⟩
  have h11 := hA.2.1.t11
  have hnu := hA.2.1.num
  refine zg_blk pok2 X 3 [0] (S' := (5, [(0, zR (m 0)), (1, zI lo), (2, zI hi)], [zI 2, zI (F 11)], (rW m F B SS HH NR RV))) rfl ⟨rfl, trivial⟩ ?_
  refine zg_icmp X 14 rfl rfl (by unfold zin; omega) (by unfold zin; omega) (fun g1 => ?_) (fun g1 => ?_)
  · simp only [x_cnd] at g1
    refine zg_blk pok2 X 4 [0] (S' := (20, [(0, zR (m 0)), (1, zI lo), (2, zI hi)], [zI hi, zI lo, zI (F 14)], (rW m F B SS HH NR RV))) rfl ⟨rfl, trivial⟩ ?_
    refine zg_callS pok2 EWX_ok X (vas := [zI (F 14), zI lo, zI hi]) (vr := []) (Y1 := (rW m F B SS HH NR RV)) (Y2 := []) rfl rfl (Or.inl rfl) zj_X12_isIn rfl rfl rfl (Nat.le_of_ble_eq_true rfl) rfl (zr_isIn (by omega) (by omega) (by omega)) ⟨by decide, by decide, by decide, by decide⟩ (fun z9 Y9 hz => ?_)
    rcases hz with ⟨hi9, rfl, rfl⟩ | ⟨hi9, rfl, rfl⟩
    · refine zg_if X 32 rfl rfl (by unfold zin; omega) (fun g2 => ?_) (fun g2 => ?_)
      · simp only [x_cnd] at g2
        refine zg_blk pok2 X 5 [0, 0] (S' := (41, [(0, zR (m 0)), (1, zI lo), (2, zI hi)], [zR (m 0)], (rW m (zup F 18 (F 14)) B SS HH NR RV))) rfl ⟨rfl, rfl, rfl, rfl, trivial⟩ ?_
        have hj1 : j + 1 ≤ k := hH0.len hj0 (by omega) (by omega)
        refine zg_callV pok2 EWX_ok X 0 (vas := []) (vr := []) (Y1 := (rW m (zup F 18 (F 14)) B SS HH NR RV)) (Y2 := []) rfl rfl (Or.inl rfl) zj_X12_next rfl rfl rfl rfl (Nat.le_of_ble_eq_true rfl) rfl (zr_next (F := (zup F 18 (F 14))) hH0.1 hH0.2.1 (by have e4 := hA0.2.2 (by omega) (by omega); have hp := hH0.2.2.2.1.2.2.2.2.2 (j + 1) hj1; show 0 ≤ F 4 ∧ F 4 ≤ F 3; omega) (by have h9 := hH0.2.2.1; show 0 ≤ F 5 ∧ F 5 ≤ 1000; omega)) ⟨by decide, by decide, by decide, by decide⟩ (fun z9 Y9 hz => ?_)
        obtain ⟨rfl, Fa, rfl, hrt, hfrt⟩ := hz
        have hA1 : rAt P K S V Fa (j + 1) := rnext_ok (F := (zup F 18 (F 14))) (j := j) hH0 hA0 hj1 (by omega) (by omega) hrt
        have hH1 : RH B P K S V RV k Fa := RH.fr2 hH0 (show Fa 3 = F 3 from hfrt.fr4.1) (show Fa 5 = F 5 from hfrt.fr4.2.1)
        have hg1 : Fa 18 = F 14 := hfrt 18 (by decide) (by decide) (by decide) (by decide) (by decide) (by decide)
        have hf1 : fr4 F Fa := fr4.tr (G := F) hf0 (show fr4 F Fa from hfrt.fr4)
        refine zg_blk pok2 X 1 [] (S' := (45, [(0, zR (m 0)), (1, zI lo), (2, zI hi)], [zI 1], (rW m Fa B SS HH NR RV))) rfl trivial ?_
        refine zg_retb X hR rfl rfl (by decide) (by decide) (by first | exact Or.inl rfl | exact Or.inr rfl) ?_
        have e9 : nmF K V lo hi j = 0 := by unfold nmF; rw [if_pos (by omega), if_pos (by omega)]
        exact Or.inl ⟨e9, rfl, _, rfl, hA1, hj1, hf1, by rw [hg1]; omega⟩
      · exact absurd (show (1 : Int) = (0 : Int) from g2) (by decide)
    · refine zg_if X 32 rfl rfl (by unfold zin; omega) (fun g3 => ?_) (fun g3 => ?_)
      · exact absurd (show ¬ (0 : Int) = (0 : Int) from g3) (by decide)
      · simp only [x_ncd] at g3
        refine zg_blk pok2 X 2 [] (S' := (28, [(0, zR (m 0)), (1, zI lo), (2, zI hi)], [zI 2, zR (m 0)], (rW m F B SS HH NR RV))) rfl trivial ?_
        refine zg_callV pok2 EWX_ok X 0 (vas := [zI 2]) (vr := []) (Y1 := (rW m F B SS HH NR RV)) (Y2 := []) rfl rfl (Or.inl rfl) zj_X12_bad rfl rfl rfl rfl (Nat.le_of_ble_eq_true rfl) rfl (zr_bad (F := F)) ⟨by decide, by decide, by decide, by decide⟩ (fun z9 Y9 hz => ?_)
        obtain ⟨rfl, rfl⟩ := hz
        refine zg_retb X hR rfl rfl (by decide) (by decide) (by first | exact Or.inl rfl | exact Or.inr rfl) ?_
        have e9 : nmF K V lo hi j = 2 := by unfold nmF; rw [if_pos (by omega), if_neg (by omega)]
        exact Or.inr ⟨by omega, rfl, _, rfl, by rw [e9]; rfl, hA.1⟩
  · simp only [x_ncd] at g1
    refine zg_blk pok2 X 2 [] (S' := (10, [(0, zR (m 0)), (1, zI lo), (2, zI hi)], [zI 1, zR (m 0)], (rW m F B SS HH NR RV))) rfl trivial ?_
    refine zg_callV pok2 EWX_ok X 0 (vas := [zI 1]) (vr := []) (Y1 := (rW m F B SS HH NR RV)) (Y2 := []) rfl rfl (Or.inl rfl) zj_X12_bad rfl rfl rfl rfl (Nat.le_of_ble_eq_true rfl) rfl (zr_bad (F := F)) ⟨by decide, by decide, by decide, by decide⟩ (fun z9 Y9 hz => ?_)
    obtain ⟨rfl, rfl⟩ := hz
    refine zg_retb X hR rfl rfl (by decide) (by decide) (by first | exact Or.inl rfl | exact Or.inr rfl) ?_
    have e9 : nmF K V lo hi j = 1 := by unfold nmF; rw [if_neg (by omega)]
    exact Or.inr ⟨by omega, rfl, _, rfl, by rw [e9]; rfl, hA.1⟩
set_option maxRecDepth 4000 in
theorem zj_X12_puts : PR2[175]? = some mt2_X12_puts := rfl
set_option maxRecDepth 4000 in
theorem zr_puts {to : Int} (hto : 0 ≤ to ∧ to < 43) {lo hi : Int} (hlo : -2147483648 ≤ lo ∧ lo < 2147483648) (hhi : -2147483648 ≤ hi ∧ hi < 2147483648) (hH : RH B P K S V RV k F) (hA : rAt P K S V F j) (hj : j ≤ k) : ZMet (EWX xs) D cy l ex mt2_X12_puts (3, 0, 0, 65) (rW m F B SS HH NR RV) [zR (m 0), zI to, zI lo, zI hi] (fun z Y => (nmF K V lo hi j = 0 ∧ z = some (zI 1) ∧ ∃ F9, Y = (rW m F9 B SS (zup HH to.toNat (V j)) NR RV) ∧ rAt P K S V F9 (j + 1) ∧ j + 1 ≤ k ∧ fr4 F F9 ∧ F9 18 = V j) ∨ (¬ nmF K V lo hi j = 0 ∧ z = some (zI 0) ∧ ∃ F9, Y = (rW m F9 B SS HH NR RV) ∧ F9 15 = nmF K V lo hi j ∧ F9 16 = S j)) := by
  obtain ⟨mok, tok, ow⟩ := pok2.1 _ _ zj_X12_puts
  refine met_ofz EWX_ok mok tok ow (Nat.le_of_ble_eq_true rfl) (fun r p0 e0 s0 m0 ar0 be0 me0 c0 A0 Q0 X hR => ?_)
  have hA0 := hA
  have hH0 := hH
  have hj0 := hj
  have hf0 : fr4 F F := ⟨rfl, rfl, rfl, rfl⟩
  refine zg_blk pok2 X 3 [] (S' := (3, [(0, zR (m 0)), (1, zI to), (2, zI lo), (3, zI hi)], [zI hi, zI lo, zR (m 0)], (rW m F B SS HH NR RV))) rfl trivial ?_
  refine zg_callV pok2 EWX_ok X 0 (vas := [zI lo, zI hi]) (vr := []) (Y1 := (rW m F B SS HH NR RV)) (Y2 := []) rfl rfl (Or.inl rfl) zj_X12_takes rfl rfl rfl rfl (Nat.le_of_ble_eq_true rfl) rfl (zr_takes (F := F) (j := j) (by omega) (by omega) hH0 hA0 hj0) ⟨by decide, by decide, by decide, by decide⟩ (fun z9 Y9 hz => ?_)
  rcases hz with ⟨hq0, rfl, Fa, rfl, hax, hjx, hfx, hgx⟩ | ⟨hq0, rfl, Fb, rfl, hb1, hb2⟩
  · have hj1 : j + 1 ≤ k := hjx
    have hA1 : rAt P K S V Fa (j + 1) := hax
    have hH1 : RH B P K S V RV k Fa := RH.fr2 hH0 hfx.1 hfx.2.1
    have hf1 : fr4 F Fa := fr4.tr (G := F) hf0 hfx
    have hg1 : Fa 18 = V j := hgx
    have hm0 := nm_ok hq0
    refine zg_if X 11 rfl rfl (by unfold zin; omega) (fun g1 => ?_) (fun g1 => ?_)
    · simp only [x_cnd] at g1
      refine zg_blk pok2 X 7 [0, 0, 3] (S' := (22, [(0, zR (m 0)), (1, zI to), (2, zI lo), (3, zI hi)], [zI 1], (rW m Fa B SS (zup HH to.toNat (Fa 18)) NR RV))) rfl ⟨rfl, rfl, rfl, rfl, (show zidx to 43 from by unfold zidx; omega), trivial⟩ ?_
      refine zg_retb X hR rfl rfl (by decide) (by decide) (by first | exact Or.inl rfl | exact Or.inr rfl) ?_
      refine Or.inl ⟨hq0, rfl, _, ?_, hA1, hj1, hf1, hg1⟩
      rw [hg1]
    · exact absurd (show (1 : Int) = (0 : Int) from g1) (by decide)
  · refine zg_if X 11 rfl rfl (by unfold zin; omega) (fun g2 => ?_) (fun g2 => ?_)
    · exact absurd (show ¬ (0 : Int) = (0 : Int) from g2) (by decide)
    · simp only [x_ncd] at g2
      refine zg_blk pok2 X 1 [] (S' := (10, [(0, zR (m 0)), (1, zI to), (2, zI lo), (3, zI hi)], [zI 0], (rW m Fb B SS HH NR RV))) rfl trivial ?_
      refine zg_retb X hR rfl rfl (by decide) (by decide) (by first | exact Or.inl rfl | exact Or.inr rfl) ?_
      exact Or.inr ⟨hq0, rfl, _, rfl, hb1, hb2⟩
set_option maxRecDepth 4000 in
theorem zj_X12_fresh : PR2[120]? = some mt2_X12_fresh := rfl
set_option maxRecDepth 4000 in
theorem zr_fresh {to : Int} (hto : 0 ≤ to ∧ to < 56) (hH : RH B P K S V RV k F) (hA : rAt P K S V F j) (hj : j ≤ k) (hRR : RR HH NR CN NM MK KN) (hI : INV CN NM x) (hRZ : ∀ q, zin64 (RV q)) : ZMet (EWX xs) D cy l ex mt2_X12_fresh (2, 0, 0, 43) (rW m F B SS HH NR RV) [zR (m 0), zI to] (fun z Y => ((K j = 1 ∧ fnd CN NM (V j) = -1) ∧ z = some (zI 1) ∧ ∃ F9, Y = (rW m F9 B SS HH (zup NR to.toNat (wd (V j))) RV) ∧ rAt P K S V F9 (j + 1) ∧ j + 1 ≤ k ∧ fr4 F F9) ∨ (¬ (K j = 1 ∧ fnd CN NM (V j) = -1) ∧ z = some (zI 0) ∧ ∃ F9, Y = (rW m F9 B SS HH NR RV) ∧ F9 15 = (if K j = 1 then 3 else 1) ∧ F9 16 = S j)) := by
  obtain ⟨mok, tok, ow⟩ := pok2.1 _ _ zj_X12_fresh
  refine met_ofz EWX_ok mok tok ow (Nat.le_of_ble_eq_true rfl) (fun r p0 e0 s0 m0 ar0 be0 me0 c0 A0 Q0 X hR => ?_)
  have hA0 := hA
  have hH0 := hH
  have hj0 := hj
  have hf0 : fr4 F F := ⟨rfl, rfl, rfl, rfl⟩
  refine zg_blk pok2 X 1 [] (S' := (1, [(0, zR (m 0)), (1, zI to)], [zR (m 0)], (rW m F B SS HH NR RV))) rfl trivial ?_
  refine zg_callV pok2 EWX_ok X 0 (vas := []) (vr := []) (Y1 := (rW m F B SS HH NR RV)) (Y2 := []) rfl rfl (Or.inl rfl) zj_X12_isName rfl rfl rfl rfl (Nat.le_of_ble_eq_true rfl) rfl (zr_isName0 (F := F) hA0 hRZ) ⟨by decide, by decide, by decide, by decide⟩ (fun z9 Y9 hz => ?_)
  rcases hz with ⟨hq, rfl, rfl⟩ | ⟨hq, rfl, rfl⟩
  · have hk0 : K j = 1 := (hA0.2.1.name hH0.2.2.2.2).mp hq
    have hky0 := hA0.2.1.key hk0
    refine zg_if X 13 rfl rfl (by unfold zin; omega) (fun g1 => ?_) (fun g1 => ?_)
    · simp only [x_cnd] at g1
      refine zg_blk pok2 X 6 [0, 3] (S' := (22, [(0, zR (m 0)), (1, zI to)], [zI (HH 0), zI 28, zR (m 0)], (rW m F B SS HH NR RV))) rfl ⟨rfl, rfl, rfl, (show zidx 0 43 from by unfold zidx; omega), trivial⟩ ?_
      rw [show HH 0 = (((CN 0).toNat : Nat) : Int) by have h9 := hRR.1 0 (by omega); have h8 := hI.cn 0 (by omega); omega]
      refine zg_callV pok2 EWX_ok X 0 (vas := [zI 28, zI (((CN 0).toNat : Nat) : Int)]) (vr := []) (Y1 := (rW m F B SS HH NR RV)) (Y2 := []) rfl rfl (Or.inl rfl) zj_X12_find rfl rfl rfl rfl (Nat.le_of_ble_eq_true rfl) rfl (zr_find (fr := 28) (n := (CN 0).toNat) (F := F) (by have h9 := hI.cn 0 (by omega); obtain ⟨d0, d1, d2, d3, -⟩ := hI; omega) hRR.2.2.2.2 (hA0.2.1.w17 hky0.2.2)) ⟨by decide, by decide, by decide, by decide⟩ (fun z9 Y9 hz => ?_)
      obtain ⟨rfl, rfl⟩ := hz
      rw [show lk (fun q => NR (28 + q)) (F 17) (CN 0).toNat = lkS CN NM 0 (V j) by rw [hky0.1]; exact rlk (s := 0) hRR hI (by omega) hky0.2.1]
      have hlr0 := lkS_rng (NM := NM) (key := V j) (hI.cn 0 (by omega))
      refine zg_if X 73 rfl rfl (by unfold zin; omega) (fun g2 => ?_) (fun g2 => ?_)
      · simp only [x_cnd] at g2
        refine zg_blk pok2 X 2 [] (S' := (75, [(0, zR (m 0)), (1, zI to)], [zI 3, zR (m 0)], (rW m F B SS HH NR RV))) rfl trivial ?_
        refine zg_callV pok2 EWX_ok X 0 (vas := [zI 3]) (vr := []) (Y1 := (rW m F B SS HH NR RV)) (Y2 := []) rfl rfl (Or.inl rfl) zj_X12_bad rfl rfl rfl rfl (Nat.le_of_ble_eq_true rfl) rfl (zr_bad (F := F)) ⟨by decide, by decide, by decide, by decide⟩ (fun z9 Y9 hz => ?_)
        obtain ⟨rfl, rfl⟩ := hz
        refine zg_retb X hR rfl rfl (by decide) (by decide) (by first | exact Or.inl rfl | exact Or.inr rfl) ?_
        refine Or.inr ⟨fun h => ?_, rfl, _, rfl, (if_pos hk0).symm, hA.1⟩
        have hfn := fnd_none h.2 hI.cn
        have h0 := hfn 0 (by omega)
        have h1 := hfn 1 (by omega)
        have h2 := hfn 2 (by omega)
        have h3 := hfn 3 (by omega)
        omega
      · simp only [x_ncd] at g2
        refine zg_blk pok2 X 6 [0, 3] (S' := (37, [(0, zR (m 0)), (1, zI to)], [zI (HH 1), zI 32, zR (m 0)], (rW m F B SS HH NR RV))) rfl ⟨rfl, rfl, rfl, (show zidx 1 43 from by unfold zidx; omega), trivial⟩ ?_
        rw [show HH 1 = (((CN 1).toNat : Nat) : Int) by have h9 := hRR.1 1 (by omega); have h8 := hI.cn 1 (by omega); omega]
        refine zg_callV pok2 EWX_ok X 0 (vas := [zI 32, zI (((CN 1).toNat : Nat) : Int)]) (vr := []) (Y1 := (rW m F B SS HH NR RV)) (Y2 := []) rfl rfl (Or.inl rfl) zj_X12_find rfl rfl rfl rfl (Nat.le_of_ble_eq_true rfl) rfl (zr_find (fr := 32) (n := (CN 1).toNat) (F := F) (by have h9 := hI.cn 1 (by omega); obtain ⟨d0, d1, d2, d3, -⟩ := hI; omega) hRR.2.2.2.2 (hA0.2.1.w17 hky0.2.2)) ⟨by decide, by decide, by decide, by decide⟩ (fun z9 Y9 hz => ?_)
        obtain ⟨rfl, rfl⟩ := hz
        rw [show lk (fun q => NR (32 + q)) (F 17) (CN 1).toNat = lkS CN NM 1 (V j) by rw [hky0.1]; exact rlk (s := 1) hRR hI (by omega) hky0.2.1]
        have hlr1 := lkS_rng (NM := NM) (key := V j) (hI.cn 1 (by omega))
        refine zg_if X 73 rfl rfl (by unfold zin; omega) (fun g3 => ?_) (fun g3 => ?_)
        · simp only [x_cnd] at g3
          refine zg_blk pok2 X 2 [] (S' := (75, [(0, zR (m 0)), (1, zI to)], [zI 3, zR (m 0)], (rW m F B SS HH NR RV))) rfl trivial ?_
          refine zg_callV pok2 EWX_ok X 0 (vas := [zI 3]) (vr := []) (Y1 := (rW m F B SS HH NR RV)) (Y2 := []) rfl rfl (Or.inl rfl) zj_X12_bad rfl rfl rfl rfl (Nat.le_of_ble_eq_true rfl) rfl (zr_bad (F := F)) ⟨by decide, by decide, by decide, by decide⟩ (fun z9 Y9 hz => ?_)
          obtain ⟨rfl, rfl⟩ := hz
          refine zg_retb X hR rfl rfl (by decide) (by decide) (by first | exact Or.inl rfl | exact Or.inr rfl) ?_
          refine Or.inr ⟨fun h => ?_, rfl, _, rfl, (if_pos hk0).symm, hA.1⟩
          have hfn := fnd_none h.2 hI.cn
          have h0 := hfn 0 (by omega)
          have h1 := hfn 1 (by omega)
          have h2 := hfn 2 (by omega)
          have h3 := hfn 3 (by omega)
          omega
        · simp only [x_ncd] at g3
          refine zg_blk pok2 X 6 [0, 3] (S' := (52, [(0, zR (m 0)), (1, zI to)], [zI (HH 2), zI 42, zR (m 0)], (rW m F B SS HH NR RV))) rfl ⟨rfl, rfl, rfl, (show zidx 2 43 from by unfold zidx; omega), trivial⟩ ?_
          rw [show HH 2 = (((CN 2).toNat : Nat) : Int) by have h9 := hRR.1 2 (by omega); have h8 := hI.cn 2 (by omega); omega]
          refine zg_callV pok2 EWX_ok X 0 (vas := [zI 42, zI (((CN 2).toNat : Nat) : Int)]) (vr := []) (Y1 := (rW m F B SS HH NR RV)) (Y2 := []) rfl rfl (Or.inl rfl) zj_X12_find rfl rfl rfl rfl (Nat.le_of_ble_eq_true rfl) rfl (zr_find (fr := 42) (n := (CN 2).toNat) (F := F) (by have h9 := hI.cn 2 (by omega); obtain ⟨d0, d1, d2, d3, -⟩ := hI; omega) hRR.2.2.2.2 (hA0.2.1.w17 hky0.2.2)) ⟨by decide, by decide, by decide, by decide⟩ (fun z9 Y9 hz => ?_)
          obtain ⟨rfl, rfl⟩ := hz
          rw [show lk (fun q => NR (42 + q)) (F 17) (CN 2).toNat = lkS CN NM 2 (V j) by rw [hky0.1]; exact rlk (s := 2) hRR hI (by omega) hky0.2.1]
          have hlr2 := lkS_rng (NM := NM) (key := V j) (hI.cn 2 (by omega))
          refine zg_if X 73 rfl rfl (by unfold zin; omega) (fun g4 => ?_) (fun g4 => ?_)
          · simp only [x_cnd] at g4
            refine zg_blk pok2 X 2 [] (S' := (75, [(0, zR (m 0)), (1, zI to)], [zI 3, zR (m 0)], (rW m F B SS HH NR RV))) rfl trivial ?_
            refine zg_callV pok2 EWX_ok X 0 (vas := [zI 3]) (vr := []) (Y1 := (rW m F B SS HH NR RV)) (Y2 := []) rfl rfl (Or.inl rfl) zj_X12_bad rfl rfl rfl rfl (Nat.le_of_ble_eq_true rfl) rfl (zr_bad (F := F)) ⟨by decide, by decide, by decide, by decide⟩ (fun z9 Y9 hz => ?_)
            obtain ⟨rfl, rfl⟩ := hz
            refine zg_retb X hR rfl rfl (by decide) (by decide) (by first | exact Or.inl rfl | exact Or.inr rfl) ?_
            refine Or.inr ⟨fun h => ?_, rfl, _, rfl, (if_pos hk0).symm, hA.1⟩
            have hfn := fnd_none h.2 hI.cn
            have h0 := hfn 0 (by omega)
            have h1 := hfn 1 (by omega)
            have h2 := hfn 2 (by omega)
            have h3 := hfn 3 (by omega)
            omega
          · simp only [x_ncd] at g4
            refine zg_blk pok2 X 6 [0, 3] (S' := (67, [(0, zR (m 0)), (1, zI to)], [zI (HH 3), zI 50, zR (m 0)], (rW m F B SS HH NR RV))) rfl ⟨rfl, rfl, rfl, (show zidx 3 43 from by unfold zidx; omega), trivial⟩ ?_
            rw [show HH 3 = (((CN 3).toNat : Nat) : Int) by have h9 := hRR.1 3 (by omega); have h8 := hI.cn 3 (by omega); omega]
            refine zg_callV pok2 EWX_ok X 0 (vas := [zI 50, zI (((CN 3).toNat : Nat) : Int)]) (vr := []) (Y1 := (rW m F B SS HH NR RV)) (Y2 := []) rfl rfl (Or.inl rfl) zj_X12_find rfl rfl rfl rfl (Nat.le_of_ble_eq_true rfl) rfl (zr_find (fr := 50) (n := (CN 3).toNat) (F := F) (by have h9 := hI.cn 3 (by omega); obtain ⟨d0, d1, d2, d3, -⟩ := hI; omega) hRR.2.2.2.2 (hA0.2.1.w17 hky0.2.2)) ⟨by decide, by decide, by decide, by decide⟩ (fun z9 Y9 hz => ?_)
            obtain ⟨rfl, rfl⟩ := hz
            rw [show lk (fun q => NR (50 + q)) (F 17) (CN 3).toNat = lkS CN NM 3 (V j) by rw [hky0.1]; exact rlk (s := 3) hRR hI (by omega) hky0.2.1]
            have hlr3 := lkS_rng (NM := NM) (key := V j) (hI.cn 3 (by omega))
            refine zg_if X 79 rfl rfl (by unfold zin; omega) (fun g5 => ?_) (fun g5 => ?_)
            · simp only [x_cnd] at g5
              refine zg_blk pok2 X 7 [0, 0, 4] (S' := (90, [(0, zR (m 0)), (1, zI to)], [zR (m 0)], (rW m F B SS HH (zup NR to.toNat (F 17)) RV))) rfl ⟨rfl, rfl, rfl, (show zidx to 56 from by unfold zidx; omega), trivial⟩ ?_
              have hj1 : j + 1 ≤ k := hH0.len hj0 (by omega) (by omega)
              refine zg_callV pok2 EWX_ok X 0 (vas := []) (vr := []) (Y1 := (rW m F B SS HH (zup NR to.toNat (F 17)) RV)) (Y2 := []) rfl rfl (Or.inl rfl) zj_X12_next rfl rfl rfl rfl (Nat.le_of_ble_eq_true rfl) rfl (zr_next (F := F) hH0.1 hH0.2.1 (by have e4 := hA0.2.2 (by omega) (by omega); have hp := hH0.2.2.2.1.2.2.2.2.2 (j + 1) hj1; show 0 ≤ F 4 ∧ F 4 ≤ F 3; omega) (by have h9 := hH0.2.2.1; show 0 ≤ F 5 ∧ F 5 ≤ 1000; omega)) ⟨by decide, by decide, by decide, by decide⟩ (fun z9 Y9 hz => ?_)
              obtain ⟨rfl, Fa, rfl, hrt, hfrt⟩ := hz
              have hA1 : rAt P K S V Fa (j + 1) := rnext_ok (F := F) (j := j) hH0 hA0 hj1 (by omega) (by omega) hrt
              have hH1 : RH B P K S V RV k Fa := RH.fr2 hH0 (show Fa 3 = F 3 from hfrt.fr4.1) (show Fa 5 = F 5 from hfrt.fr4.2.1)
              have hg1 : Fa 18 = F 18 := hfrt 18 (by decide) (by decide) (by decide) (by decide) (by decide) (by decide)
              have hf1 : fr4 F Fa := fr4.tr (G := F) hf0 (show fr4 F Fa from hfrt.fr4)
              refine zg_blk pok2 X 1 [] (S' := (94, [(0, zR (m 0)), (1, zI to)], [zI 1], (rW m Fa B SS HH (zup NR to.toNat (F 17)) RV))) rfl trivial ?_
              refine zg_retb X hR rfl rfl (by decide) (by decide) (by first | exact Or.inl rfl | exact Or.inr rfl) ?_
              refine Or.inl ⟨⟨hk0, fnd_iff ⟨by omega, by omega, by omega, by omega⟩⟩, rfl, _, ?_, hA1, hj1, hf1⟩
              rw [← hky0.1]
            · simp only [x_ncd] at g5
              refine zg_blk pok2 X 2 [] (S' := (75, [(0, zR (m 0)), (1, zI to)], [zI 3, zR (m 0)], (rW m F B SS HH NR RV))) rfl trivial ?_
              refine zg_callV pok2 EWX_ok X 0 (vas := [zI 3]) (vr := []) (Y1 := (rW m F B SS HH NR RV)) (Y2 := []) rfl rfl (Or.inl rfl) zj_X12_bad rfl rfl rfl rfl (Nat.le_of_ble_eq_true rfl) rfl (zr_bad (F := F)) ⟨by decide, by decide, by decide, by decide⟩ (fun z9 Y9 hz => ?_)
              obtain ⟨rfl, rfl⟩ := hz
              refine zg_retb X hR rfl rfl (by decide) (by decide) (by first | exact Or.inl rfl | exact Or.inr rfl) ?_
              refine Or.inr ⟨fun h => ?_, rfl, _, rfl, (if_pos hk0).symm, hA.1⟩
              have hfn := fnd_none h.2 hI.cn
              have h0 := hfn 0 (by omega)
              have h1 := hfn 1 (by omega)
              have h2 := hfn 2 (by omega)
              have h3 := hfn 3 (by omega)
              omega
    · exact absurd (show (1 : Int) = (0 : Int) from g1) (by decide)
  · have hk0 : ¬ K j = 1 := fun h => hq ((hA0.2.1.name hH0.2.2.2.2).mpr h)
    refine zg_if X 13 rfl rfl (by unfold zin; omega) (fun g6 => ?_) (fun g6 => ?_)
    · exact absurd (show ¬ (0 : Int) = (0 : Int) from g6) (by decide)
    · simp only [x_ncd] at g6
      refine zg_blk pok2 X 2 [] (S' := (9, [(0, zR (m 0)), (1, zI to)], [zI 1, zR (m 0)], (rW m F B SS HH NR RV))) rfl trivial ?_
      refine zg_callV pok2 EWX_ok X 0 (vas := [zI 1]) (vr := []) (Y1 := (rW m F B SS HH NR RV)) (Y2 := []) rfl rfl (Or.inl rfl) zj_X12_bad rfl rfl rfl rfl (Nat.le_of_ble_eq_true rfl) rfl (zr_bad (F := F)) ⟨by decide, by decide, by decide, by decide⟩ (fun z9 Y9 hz => ?_)
      obtain ⟨rfl, rfl⟩ := hz
      refine zg_retb X hR rfl rfl (by decide) (by decide) (by first | exact Or.inl rfl | exact Or.inr rfl) ?_
      exact Or.inr ⟨fun h => hk0 h.1, rfl, _, rfl, (if_neg hk0).symm, hA.1⟩
end ZT9
