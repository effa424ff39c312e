/-! the reference: lines (written by wip/p4/g13.py) -/
def rOk (P K S V F : Nat → Int) (k : Nat) (R : AR) (F9 HH9 NR9 : Nat → Int) : Prop := rAt P K S V F9 R.2.1 ∧ R.2.1 ≤ k ∧ RR HH9 NR9 R.2.2.1 R.2.2.2.1 R.2.2.2.2.1 R.2.2.2.2.2.1 ∧ F9 20 = R.2.2.2.2.2.2 ∧ F9 3 = F 3 ∧ F9 5 = F 5 ∧ F9 19 = F 19
def rM2 (P K S V F : Nat → Int) (k : Nat) (R : AR) (z : Option ZV) (F9 HH9 NR9 : Nat → Int) : Prop := (R.1 = 0 ∧ z = some (zI 1) ∧ rOk P K S V F k R F9 HH9 NR9) ∨ (¬ R.1 = 0 ∧ z = some (zI 0) ∧ F9 15 = R.1 ∧ F9 16 = S R.2.1)
section PR2
variable {HH NR CN NM MK KN K V : Nat → Int} {x v : Int} {i : Nat}
theorem RR_nr {q : Nat} (hR : RR HH NR CN NM MK KN) (hI : INV CN NM x) (hq : (q = (28 + CN 0).toNat ∧ CN 0 < 4) ∨ (q = (32 + CN 1).toNat ∧ CN 1 < 10) ∨ (q = (42 + CN 2).toNat ∧ CN 2 < 8) ∨ (q = (50 + CN 3).toNat ∧ CN 3 < 6)) : RR HH (zup NR q (wd v)) CN NM MK KN := by
  obtain ⟨h1, h2, h3, h4, h5⟩ := hR
  obtain ⟨c0, c1, c2, c3, -⟩ := hI
  obtain ⟨b0, b1, b2, b3⟩ := bs_val
  refine ⟨h1, h2, h3, fun t i ht hi => ?_, fun p => ?_⟩
  · have hbt : (t = 0 ∧ bs t = 28 ∧ CN t = CN 0) ∨ (t = 1 ∧ bs t = 32 ∧ CN t = CN 1) ∨ (t = 2 ∧ bs t = 42 ∧ CN t = CN 2) ∨ (t = 3 ∧ bs t = 50 ∧ CN t = CN 3) := by
      rcases (show t = 0 ∨ t = 1 ∨ t = 2 ∨ t = 3 by omega) with rfl | rfl | rfl | rfl <;> omega
    rw [zup_ne (by omega)]
    exact h4 t i ht hi
  · by_cases e : p = q
    · subst e
      rw [zup_eq]
      have := wd_rng v
      exact ⟨by omega, by omega⟩
    · rw [zup_ne e]
      exact h5 p
theorem td_reg2 (hI : INV CN NM x) (hm : CN 2 < 8) : tdF K V (zup CN 2 (CN 2 + 1)) (zup NM (20 + CN 2).toNat v) 0 i = tdF K V CN NM 0 i := by
  have h := lkS_reg (NM := NM) (key := v) (s := 2) hI.cn (by omega) (by omega) 0 (by omega) (V i)
  rw [if_neg (by decide)] at h
  unfold tdF
  rw [show lkS (zup CN 2 (CN 2 + 1)) (zup NM (20 + CN 2).toNat v) 0 (V i) = _ from h]
theorem td_reg3 (hI : INV CN NM x) (hm : CN 3 < 6) : tdF K V (zup CN 3 (CN 3 + 1)) (zup NM (30 + CN 3).toNat v) 0 i = tdF K V CN NM 0 i := by
  have h := lkS_reg (NM := NM) (key := v) (s := 3) hI.cn (by omega) (by omega) 0 (by omega) (V i)
  rw [if_neg (by decide)] at h
  unfold tdF
  rw [show lkS (zup CN 3 (CN 3 + 1)) (zup NM (30 + CN 3).toNat v) 0 (V i) = _ from h]
end PR2
section ZU9
variable {xs : Nat → Int32} {D : va_G} {cy : Nat → ClassId} {l : Launch} {ex : Nat → Nat} {m : Nat → Nat} {F B SS HH NR RV P K S V CN NM MK KN : Nat → Int} {Y0 : ZW} {j k : Nat} {x : Int}
set_option maxRecDepth 4000 in
theorem zj_X12_readNew : PR2[177]? = some mt2_X12_readNew := rfl
set_option maxRecDepth 4000 in
theorem zr_readNew0 (hk0 : K j = 2) (hH : RH B P K S V RV k F) (hA : rAt P K S V F j) (hj : j ≤ k) (hRR : RR HH NR CN NM MK KN) (hI : INV CN NM x) (hRZ : ∀ q, zin64 (RV q)) (hx : F 20 = x) : ZMet (EWX xs) D cy l ex mt2_X12_readNew (3, 0, 0, 64) (rW m F B SS HH NR RV) [zR (m 0), zI 0, zI 4, zI 28] (fun z Y => ∃ F9 HH9 NR9, Y = (rW m F9 B SS HH9 NR9 RV) ∧ rM2 P K S V F k (aPlain K V CN NM MK KN x 4 0 0 j) z F9 HH9 NR9 ∧ ∀ q : Nat, q < 28 → NR9 q = NR q) := by
  have hc0 := hI.1.1
  have hc1 := hI.2.1.1
  have hc2 := hI.2.2.1.1
  have hc3 := hI.2.2.2.1.1
  have hr0 := hRR.1 0 (by omega)
  have hr1 := hRR.1 1 (by omega)
  have hr2 := hRR.1 2 (by omega)
  have hr3 := hRR.1 3 (by omega)
  obtain ⟨mok, tok, ow⟩ := pok2.1 _ _ zj_X12_readNew
  refine met_ofz EWX_ok mok tok ow (Nat.le_of_ble_eq_true rfl) (fun r p0 e0 s0 m0 ar0 be0 me0 c0 A0 Q0 X hR => ?_)
  have hA0 := hA
  have hH0 := hH
  have hj0 := hj
  have hf0 : fr4 F F := ⟨rfl, rfl, rfl, rfl⟩
  obtain ⟨hc0, hc1, hc2, hc3, hc4⟩ := hI
  have hI : INV CN NM x := ⟨hc0, hc1, hc2, hc3, hc4⟩
  have hh : HH 0 = CN 0 := hRR.1 0 (by omega)
  refine zg_blk pok2 X 5 [0, 3] (S' := (7, [(0, zR (m 0)), (1, zI 0), (2, zI 4), (3, zI 28)], [zI 4, zI (HH 0)], (rW m F B SS HH NR RV))) rfl ⟨rfl, rfl, rfl, (show zidx 0 43 from by first | (unfold zidx; omega) | (have h9 := hRR.1 0 (by omega); have h8 := hRR.1 1 (by omega); have h7 := hRR.1 2 (by omega); have h6 := hRR.1 3 (by omega); unfold zidx; omega)), trivial⟩ ?_
  refine zg_icmp X 16 rfl rfl (by first | (unfold zin; omega) | (have h9 := hRR.1 0 (by omega); have h8 := hRR.1 1 (by omega); have h7 := hRR.1 2 (by omega); have h6 := hRR.1 3 (by omega); unfold zin; omega)) (by first | (unfold zin; omega) | (have h9 := hRR.1 0 (by omega); have h8 := hRR.1 1 (by omega); have h7 := hRR.1 2 (by omega); have h6 := hRR.1 3 (by omega); unfold zin; omega)) (fun g1 => ?_) (fun g1 => ?_)
  · simp only [x_cnd] at g1
    refine zg_blk pok2 X 1 [] (S' := (17, [(0, zR (m 0)), (1, zI 0), (2, zI 4), (3, zI 28)], [zR (m 0)], (rW m F B SS HH NR RV))) rfl trivial ?_
    have hj1 : j + 1 ≤ k := hH0.len hj0 (by omega) (by omega)
    refine zg_callV pok2 EWX_ok X 0 (vas := []) (vr := []) (Y1 := (rW m F B SS HH NR RV)) (Y2 := []) rfl rfl (Or.inl rfl) zj_X12_next rfl rfl rfl rfl (Nat.le_of_ble_eq_true rfl) rfl (zr_next (F := F) hH0.1 hH0.2.1 (by have e4 := hA0.2.2 (by omega) (by omega); have hp := hH0.2.2.2.1.2.2.2.2.2 (j + 1) hj1; show 0 ≤ F 4 ∧ F 4 ≤ F 3; omega) (by have h9 := hH0.2.2.1; show 0 ≤ F 5 ∧ F 5 ≤ 1000; omega)) ⟨by decide, by decide, by decide, by decide⟩ (fun z9 Y9 hz => ?_)
    obtain ⟨rfl, Fa, rfl, hrt, hfrt⟩ := hz
    have hA1 : rAt P K S V Fa (j + 1) := rnext_ok (F := F) (j := j) hH0 hA0 hj1 (by omega) (by omega) hrt
    have hH1 : RH B P K S V RV k Fa := RH.fr2 hH0 (show Fa 3 = F 3 from hfrt.fr4.1) (show Fa 5 = F 5 from hfrt.fr4.2.1)
    have hg1 : Fa 18 = F 18 := hfrt 18 (by decide) (by decide) (by decide) (by decide) (by decide) (by decide)
    have hf1 : fr4 F Fa := fr4.tr (G := F) hf0 (show fr4 F Fa from hfrt.fr4)
    refine zg_blk pok2 X 7 [0, 3] (S' := (29, [(0, zR (m 0)), (1, zI 0), (2, zI 4), (3, zI 28)], [zI (28 + (HH 0)), zR (m 0)], (rW m Fa B SS HH NR RV))) rfl ⟨rfl, rfl, rfl, (show zidx 0 43 from by first | (unfold zidx; omega) | (have h9 := hRR.1 0 (by omega); have h8 := hRR.1 1 (by omega); have h7 := hRR.1 2 (by omega); have h6 := hRR.1 3 (by omega); unfold zidx; omega)), trivial⟩ ?_
    rw [hh]
    refine zg_callV pok2 EWX_ok X 0 (vas := [zI (28 + CN 0)]) (vr := []) (Y1 := (rW m Fa B SS HH NR RV)) (Y2 := []) rfl rfl (Or.inl rfl) zj_X12_fresh rfl rfl rfl rfl (Nat.le_of_ble_eq_true rfl) rfl (zr_fresh (F := Fa) (j := (j + 1)) (by omega) hH1 hA1 hj1 hRR hI hRZ) ⟨by decide, by decide, by decide, by decide⟩ (fun z9 Y9 hz => ?_)
    rcases hz with ⟨hfre, rfl, Fb, rfl, hax, hjx, hfx⟩ | ⟨hfre, rfl, Fc, rfl, hb1, hb2⟩
    · have hj2 : j + 2 ≤ k := hjx
      have hA2 : rAt P K S V Fb (j + 2) := hax
      have hH2 : RH B P K S V RV k Fb := RH.fr2 hH1 hfx.1 hfx.2.1
      have hf2 : fr4 F Fb := fr4.tr (G := Fa) hf1 hfx
      have hkv := (hA1.2.1.key hfre.1).2.1
      have hRR1 : RR HH (zup NR ((28 + CN 0).toNat) (wd (V (j + 1)))) CN NM MK KN := RR_nr hRR hI (by omega)
      refine zg_if X 37 rfl rfl (by first | (unfold zin; omega) | (have h9 := hRR.1 0 (by omega); have h8 := hRR.1 1 (by omega); have h7 := hRR.1 2 (by omega); have h6 := hRR.1 3 (by omega); unfold zin; omega)) (fun g2 => ?_) (fun g2 => ?_)
      · simp only [x_cnd] at g2
        refine zg_blk pok2 X 9 [0, 3, 3] (S' := (48, [(0, zR (m 0)), (1, zI 0), (2, zI 4), (3, zI 28)], [zI 1], (rW m Fb B SS (zup HH 0 ((HH 0) + 1)) (zup NR ((28 + CN 0).toNat) (wd (V (j + 1)))) RV))) rfl ⟨rfl, rfl, rfl, (show zidx 0 43 from by first | (unfold zidx; omega) | (have h9 := hRR.1 0 (by omega); have h8 := hRR.1 1 (by omega); have h7 := hRR.1 2 (by omega); have h6 := hRR.1 3 (by omega); unfold zidx; omega)), rfl, rfl, (show zidx 0 43 from by first | (unfold zidx; omega) | (have h9 := hRR.1 0 (by omega); have h8 := hRR.1 1 (by omega); have h7 := hRR.1 2 (by omega); have h6 := hRR.1 3 (by omega); unfold zidx; omega)), trivial⟩ ?_
        refine zg_retb X hR rfl rfl (by decide) (by decide) (by first | exact Or.inl rfl | exact Or.inr rfl) ?_
        refine ⟨_, _, _, rfl, ?_, (by intro q hq; first | rfl | exact hn9 q hq | (rw [zup_ne (by omega)]; rfl) | (rw [zup_ne (by omega)]) | (rw [zup_ne (by omega), zup_ne (by omega)]))⟩
        unfold aPlain aReg
        rw [if_neg (by omega), if_pos hfre.1, if_pos hfre.2]
        have hfz := hf2
        exact Or.inl ⟨rfl, rfl, hA2, hj2, RR_reg (s := 0) hRR hI (by omega) hkv, hfz.2.2.2.trans hx, hfz.1, hfz.2.1, hfz.2.2.1⟩
      · exact absurd (show (1 : Int) = (0 : Int) from g2) (by decide)
    · refine zg_if X 37 rfl rfl (by first | (unfold zin; omega) | (have h9 := hRR.1 0 (by omega); have h8 := hRR.1 1 (by omega); have h7 := hRR.1 2 (by omega); have h6 := hRR.1 3 (by omega); unfold zin; omega)) (fun g3 => ?_) (fun g3 => ?_)
      · exact absurd (show ¬ (0 : Int) = (0 : Int) from g3) (by decide)
      · simp only [x_ncd] at g3
        refine zg_blk pok2 X 1 [] (S' := (36, [(0, zR (m 0)), (1, zI 0), (2, zI 4), (3, zI 28)], [zI 0], (rW m Fc B SS HH NR RV))) rfl trivial ?_
        refine zg_retb X hR rfl rfl (by decide) (by decide) (by first | exact Or.inl rfl | exact Or.inr rfl) ?_
        by_cases hkk : K (j + 1) = 1
        · rw [if_pos hkk] at hb1
          refine ⟨_, _, _, rfl, ?_, (by intro q hq; first | rfl | exact hn9 q hq | (rw [zup_ne (by omega)]; rfl) | (rw [zup_ne (by omega)]) | (rw [zup_ne (by omega), zup_ne (by omega)]))⟩
          unfold aPlain aReg
          rw [if_neg (by omega), if_pos hkk, if_neg (fun h => hfre ⟨hkk, h⟩)]
          exact Or.inr ⟨bad_ne (by decide), rfl, hb1, hb2⟩
        · rw [if_neg hkk] at hb1
          refine ⟨_, _, _, rfl, ?_, (by intro q hq; first | rfl | exact hn9 q hq | (rw [zup_ne (by omega)]; rfl) | (rw [zup_ne (by omega)]) | (rw [zup_ne (by omega), zup_ne (by omega)]))⟩
          unfold aPlain aReg
          rw [if_neg (by omega), if_neg hkk]
          exact Or.inr ⟨bad_ne (by decide), rfl, hb1, hb2⟩
  · simp only [x_ncd] at g1
    refine zg_blk pok2 X 2 [] (S' := (12, [(0, zR (m 0)), (1, zI 0), (2, zI 4), (3, zI 28)], [zI 4, zR (m 0)], (rW m F B SS HH NR RV))) rfl trivial ?_
    refine zg_callV pok2 EWX_ok X 0 (vas := [zI 4]) (vr := []) (Y1 := (rW m F B SS HH NR RV)) (Y2 := []) rfl rfl (Or.inl rfl) zj_X12_bad rfl rfl rfl rfl (Nat.le_of_ble_eq_true rfl) rfl (zr_bad (F := F)) ⟨by decide, by decide, by decide, by decide⟩ (fun z9 Y9 hz => ?_)
    obtain ⟨rfl, rfl⟩ := hz
    refine zg_retb X hR rfl rfl (by decide) (by decide) (by first | exact Or.inl rfl | exact Or.inr rfl) ?_
    refine ⟨_, _, _, rfl, ?_, (by intro q hq; first | rfl | exact hn9 q hq | (rw [zup_ne (by omega)]; rfl) | (rw [zup_ne (by omega)]) | (rw [zup_ne (by omega), zup_ne (by omega)]))⟩
    unfold aPlain aReg
    rw [if_pos (by omega)]
    exact Or.inr ⟨bad_ne (by decide), rfl, rfl, hA0.1⟩
set_option maxRecDepth 4000 in
theorem zr_readNew1 (hk0 : K j = 2) (hH : RH B P K S V RV k F) (hA : rAt P K S V F j) (hj : j ≤ k) (hRR : RR HH NR CN NM MK KN) (hI : INV CN NM x) (hRZ : ∀ q, zin64 (RV q)) (hx : F 20 = x) : ZMet (EWX xs) D cy l ex mt2_X12_readNew (3, 0, 0, 64) (rW m F B SS HH NR RV) [zR (m 0), zI 1, zI 10, zI 32] (fun z Y => ∃ F9 HH9 NR9, Y = (rW m F9 B SS HH9 NR9 RV) ∧ rM2 P K S V F k (aPlain K V CN NM MK KN x 10 10 1 j) z F9 HH9 NR9 ∧ ∀ q : Nat, q < 28 → NR9 q = NR q) := by
  have hc0 := hI.1.1
  have hc1 := hI.2.1.1
  have hc2 := hI.2.2.1.1
  have hc3 := hI.2.2.2.1.1
  have hr0 := hRR.1 0 (by omega)
  have hr1 := hRR.1 1 (by omega)
  have hr2 := hRR.1 2 (by omega)
  have hr3 := hRR.1 3 (by omega)
  obtain ⟨mok, tok, ow⟩ := pok2.1 _ _ zj_X12_readNew
  refine met_ofz EWX_ok mok tok ow (Nat.le_of_ble_eq_true rfl) (fun r p0 e0 s0 m0 ar0 be0 me0 c0 A0 Q0 X hR => ?_)
  have hA0 := hA
  have hH0 := hH
  have hj0 := hj
  have hf0 : fr4 F F := ⟨rfl, rfl, rfl, rfl⟩
  obtain ⟨hc0, hc1, hc2, hc3, hc4⟩ := hI
  have hI : INV CN NM x := ⟨hc0, hc1, hc2, hc3, hc4⟩
  have hh : HH 1 = CN 1 := hRR.1 1 (by omega)
  refine zg_blk pok2 X 5 [0, 3] (S' := (7, [(0, zR (m 0)), (1, zI 1), (2, zI 10), (3, zI 32)], [zI 10, zI (HH 1)], (rW m F B SS HH NR RV))) rfl ⟨rfl, rfl, rfl, (show zidx 1 43 from by first | (unfold zidx; omega) | (have h9 := hRR.1 0 (by omega); have h8 := hRR.1 1 (by omega); have h7 := hRR.1 2 (by omega); have h6 := hRR.1 3 (by omega); unfold zidx; omega)), trivial⟩ ?_
  refine zg_icmp X 16 rfl rfl (by first | (unfold zin; omega) | (have h9 := hRR.1 0 (by omega); have h8 := hRR.1 1 (by omega); have h7 := hRR.1 2 (by omega); have h6 := hRR.1 3 (by omega); unfold zin; omega)) (by first | (unfold zin; omega) | (have h9 := hRR.1 0 (by omega); have h8 := hRR.1 1 (by omega); have h7 := hRR.1 2 (by omega); have h6 := hRR.1 3 (by omega); unfold zin; omega)) (fun g1 => ?_) (fun g1 => ?_)
  · simp only [x_cnd] at g1
    refine zg_blk pok2 X 1 [] (S' := (17, [(0, zR (m 0)), (1, zI 1), (2, zI 10), (3, zI 32)], [zR (m 0)], (rW m F B SS HH NR RV))) rfl trivial ?_
    have hj1 : j + 1 ≤ k := hH0.len hj0 (by omega) (by omega)
    refine zg_callV pok2 EWX_ok X 0 (vas := []) (vr := []) (Y1 := (rW m F B SS HH NR RV)) (Y2 := []) rfl rfl (Or.inl rfl) zj_X12_next rfl rfl rfl rfl (Nat.le_of_ble_eq_true rfl) rfl (zr_next (F := F) hH0.1 hH0.2.1 (by have e4 := hA0.2.2 (by omega) (by omega); have hp := hH0.2.2.2.1.2.2.2.2.2 (j + 1) hj1; show 0 ≤ F 4 ∧ F 4 ≤ F 3; omega) (by have h9 := hH0.2.2.1; show 0 ≤ F 5 ∧ F 5 ≤ 1000; omega)) ⟨by decide, by decide, by decide, by decide⟩ (fun z9 Y9 hz => ?_)
    obtain ⟨rfl, Fa, rfl, hrt, hfrt⟩ := hz
    have hA1 : rAt P K S V Fa (j + 1) := rnext_ok (F := F) (j := j) hH0 hA0 hj1 (by omega) (by omega) hrt
    have hH1 : RH B P K S V RV k Fa := RH.fr2 hH0 (show Fa 3 = F 3 from hfrt.fr4.1) (show Fa 5 = F 5 from hfrt.fr4.2.1)
    have hg1 : Fa 18 = F 18 := hfrt 18 (by decide) (by decide) (by decide) (by decide) (by decide) (by decide)
    have hf1 : fr4 F Fa := fr4.tr (G := F) hf0 (show fr4 F Fa from hfrt.fr4)
    refine zg_blk pok2 X 7 [0, 3] (S' := (29, [(0, zR (m 0)), (1, zI 1), (2, zI 10), (3, zI 32)], [zI (32 + (HH 1)), zR (m 0)], (rW m Fa B SS HH NR RV))) rfl ⟨rfl, rfl, rfl, (show zidx 1 43 from by first | (unfold zidx; omega) | (have h9 := hRR.1 0 (by omega); have h8 := hRR.1 1 (by omega); have h7 := hRR.1 2 (by omega); have h6 := hRR.1 3 (by omega); unfold zidx; omega)), trivial⟩ ?_
    rw [hh]
    refine zg_callV pok2 EWX_ok X 0 (vas := [zI (32 + CN 1)]) (vr := []) (Y1 := (rW m Fa B SS HH NR RV)) (Y2 := []) rfl rfl (Or.inl rfl) zj_X12_fresh rfl rfl rfl rfl (Nat.le_of_ble_eq_true rfl) rfl (zr_fresh (F := Fa) (j := (j + 1)) (by omega) hH1 hA1 hj1 hRR hI hRZ) ⟨by decide, by decide, by decide, by decide⟩ (fun z9 Y9 hz => ?_)
    rcases hz with ⟨hfre, rfl, Fb, rfl, hax, hjx, hfx⟩ | ⟨hfre, rfl, Fc, rfl, hb1, hb2⟩
    · have hj2 : j + 2 ≤ k := hjx
      have hA2 : rAt P K S V Fb (j + 2) := hax
      have hH2 : RH B P K S V RV k Fb := RH.fr2 hH1 hfx.1 hfx.2.1
      have hf2 : fr4 F Fb := fr4.tr (G := Fa) hf1 hfx
      have hkv := (hA1.2.1.key hfre.1).2.1
      have hRR1 : RR HH (zup NR ((32 + CN 1).toNat) (wd (V (j + 1)))) CN NM MK KN := RR_nr hRR hI (by omega)
      refine zg_if X 37 rfl rfl (by first | (unfold zin; omega) | (have h9 := hRR.1 0 (by omega); have h8 := hRR.1 1 (by omega); have h7 := hRR.1 2 (by omega); have h6 := hRR.1 3 (by omega); unfold zin; omega)) (fun g2 => ?_) (fun g2 => ?_)
      · simp only [x_cnd] at g2
        refine zg_blk pok2 X 9 [0, 3, 3] (S' := (48, [(0, zR (m 0)), (1, zI 1), (2, zI 10), (3, zI 32)], [zI 1], (rW m Fb B SS (zup HH 1 ((HH 1) + 1)) (zup NR ((32 + CN 1).toNat) (wd (V (j + 1)))) RV))) rfl ⟨rfl, rfl, rfl, (show zidx 1 43 from by first | (unfold zidx; omega) | (have h9 := hRR.1 0 (by omega); have h8 := hRR.1 1 (by omega); have h7 := hRR.1 2 (by omega); have h6 := hRR.1 3 (by omega); unfold zidx; omega)), rfl, rfl, (show zidx 1 43 from by first | (unfold zidx; omega) | (have h9 := hRR.1 0 (by omega); have h8 := hRR.1 1 (by omega); have h7 := hRR.1 2 (by omega); have h6 := hRR.1 3 (by omega); unfold zidx; omega)), trivial⟩ ?_
        refine zg_retb X hR rfl rfl (by decide) (by decide) (by first | exact Or.inl rfl | exact Or.inr rfl) ?_
        refine ⟨_, _, _, rfl, ?_, (by intro q hq; first | rfl | exact hn9 q hq | (rw [zup_ne (by omega)]; rfl) | (rw [zup_ne (by omega)]) | (rw [zup_ne (by omega), zup_ne (by omega)]))⟩
        unfold aPlain aReg
        rw [if_neg (by omega), if_pos hfre.1, if_pos hfre.2]
        have hfz := hf2
        exact Or.inl ⟨rfl, rfl, hA2, hj2, RR_reg (s := 1) hRR hI (by omega) hkv, hfz.2.2.2.trans hx, hfz.1, hfz.2.1, hfz.2.2.1⟩
      · exact absurd (show (1 : Int) = (0 : Int) from g2) (by decide)
    · refine zg_if X 37 rfl rfl (by first | (unfold zin; omega) | (have h9 := hRR.1 0 (by omega); have h8 := hRR.1 1 (by omega); have h7 := hRR.1 2 (by omega); have h6 := hRR.1 3 (by omega); unfold zin; omega)) (fun g3 => ?_) (fun g3 => ?_)
      · exact absurd (show ¬ (0 : Int) = (0 : Int) from g3) (by decide)
      · simp only [x_ncd] at g3
        refine zg_blk pok2 X 1 [] (S' := (36, [(0, zR (m 0)), (1, zI 1), (2, zI 10), (3, zI 32)], [zI 0], (rW m Fc B SS HH NR RV))) rfl trivial ?_
        refine zg_retb X hR rfl rfl (by decide) (by decide) (by first | exact Or.inl rfl | exact Or.inr rfl) ?_
        by_cases hkk : K (j + 1) = 1
        · rw [if_pos hkk] at hb1
          refine ⟨_, _, _, rfl, ?_, (by intro q hq; first | rfl | exact hn9 q hq | (rw [zup_ne (by omega)]; rfl) | (rw [zup_ne (by omega)]) | (rw [zup_ne (by omega), zup_ne (by omega)]))⟩
          unfold aPlain aReg
          rw [if_neg (by omega), if_pos hkk, if_neg (fun h => hfre ⟨hkk, h⟩)]
          exact Or.inr ⟨bad_ne (by decide), rfl, hb1, hb2⟩
        · rw [if_neg hkk] at hb1
          refine ⟨_, _, _, rfl, ?_, (by intro q hq; first | rfl | exact hn9 q hq | (rw [zup_ne (by omega)]; rfl) | (rw [zup_ne (by omega)]) | (rw [zup_ne (by omega), zup_ne (by omega)]))⟩
          unfold aPlain aReg
          rw [if_neg (by omega), if_neg hkk]
          exact Or.inr ⟨bad_ne (by decide), rfl, hb1, hb2⟩
  · simp only [x_ncd] at g1
    refine zg_blk pok2 X 2 [] (S' := (12, [(0, zR (m 0)), (1, zI 1), (2, zI 10), (3, zI 32)], [zI 4, zR (m 0)], (rW m F B SS HH NR RV))) rfl trivial ?_
    refine zg_callV pok2 EWX_ok X 0 (vas := [zI 4]) (vr := []) (Y1 := (rW m F B SS HH NR RV)) (Y2 := []) rfl rfl (Or.inl rfl) zj_X12_bad rfl rfl rfl rfl (Nat.le_of_ble_eq_true rfl) rfl (zr_bad (F := F)) ⟨by decide, by decide, by decide, by decide⟩ (fun z9 Y9 hz => ?_)
    obtain ⟨rfl, rfl⟩ := hz
    refine zg_retb X hR rfl rfl (by decide) (by decide) (by first | exact Or.inl rfl | exact Or.inr rfl) ?_
    refine ⟨_, _, _, rfl, ?_, (by intro q hq; first | rfl | exact hn9 q hq | (rw [zup_ne (by omega)]; rfl) | (rw [zup_ne (by omega)]) | (rw [zup_ne (by omega), zup_ne (by omega)]))⟩
    unfold aPlain aReg
    rw [if_pos (by omega)]
    exact Or.inr ⟨bad_ne (by decide), rfl, rfl, hA0.1⟩
set_option maxRecDepth 4000 in
theorem zj_X12_readThing : PR2[179]? = some mt2_X12_readThing := rfl
set_option maxRecDepth 4000 in
theorem zr_readThing (hk0 : K j = 2) (hH : RH B P K S V RV k F) (hA : rAt P K S V F j) (hj : j ≤ k) (hRR : RR HH NR CN NM MK KN) (hI : INV CN NM x) (hRZ : ∀ q, zin64 (RV q)) (hx : F 20 = x) : ZMet (EWX xs) D cy l ex mt2_X12_readThing (3, 0, 0, 67) (rW m F B SS HH NR RV) [zR (m 0)] (fun z Y => ∃ F9 HH9 NR9, Y = (rW m F9 B SS HH9 NR9 RV) ∧ rM2 P K S V F k (aThing K V CN NM MK KN x j) z F9 HH9 NR9 ∧ ∀ q : Nat, q < 28 → NR9 q = NR q) := by
  have hc0 := hI.1.1
  have hc1 := hI.2.1.1
  have hc2 := hI.2.2.1.1
  have hc3 := hI.2.2.2.1.1
  have hr0 := hRR.1 0 (by omega)
  have hr1 := hRR.1 1 (by omega)
  have hr2 := hRR.1 2 (by omega)
  have hr3 := hRR.1 3 (by omega)
  obtain ⟨mok, tok, ow⟩ := pok2.1 _ _ zj_X12_readThing
  refine met_ofz EWX_ok mok tok ow (Nat.le_of_ble_eq_true rfl) (fun r p0 e0 s0 m0 ar0 be0 me0 c0 A0 Q0 X hR => ?_)
  have hA0 := hA
  have hH0 := hH
  have hj0 := hj
  have hf0 : fr4 F F := ⟨rfl, rfl, rfl, rfl⟩
  obtain ⟨hc0, hc1, hc2, hc3, hc4⟩ := hI
  have hI : INV CN NM x := ⟨hc0, hc1, hc2, hc3, hc4⟩
  have hh : HH 2 = CN 2 := hRR.1 2 (by omega)
  refine zg_blk pok2 X 5 [0, 3] (S' := (7, [(1, zI (HH 2)), (0, zR (m 0))], [], (rW m F B SS HH NR RV))) rfl ⟨rfl, rfl, rfl, (show zidx 2 43 from by first | (unfold zidx; omega) | (have h9 := hRR.1 0 (by omega); have h8 := hRR.1 1 (by omega); have h7 := hRR.1 2 (by omega); have h6 := hRR.1 3 (by omega); unfold zidx; omega)), trivial⟩ ?_
  rw [hh]
  refine zg_blk pok2 X 2 [] (S' := (10, [(1, zI (CN 2)), (0, zR (m 0))], [zI 8, zI (CN 2)], (rW m F B SS HH NR RV))) rfl trivial ?_
  refine zg_icmp X 19 rfl rfl (by first | (unfold zin; omega) | (have h9 := hRR.1 0 (by omega); have h8 := hRR.1 1 (by omega); have h7 := hRR.1 2 (by omega); have h6 := hRR.1 3 (by omega); unfold zin; omega)) (by first | (unfold zin; omega) | (have h9 := hRR.1 0 (by omega); have h8 := hRR.1 1 (by omega); have h7 := hRR.1 2 (by omega); have h6 := hRR.1 3 (by omega); unfold zin; omega)) (fun g1 => ?_) (fun g1 => ?_)
  · simp only [x_cnd] at g1
    refine zg_blk pok2 X 1 [] (S' := (20, [(1, zI (CN 2)), (0, zR (m 0))], [zR (m 0)], (rW m F B SS HH NR RV))) rfl trivial ?_
    have hj1 : j + 1 ≤ k := hH0.len hj0 (by omega) (by omega)
    refine zg_callV pok2 EWX_ok X 0 (vas := []) (vr := []) (Y1 := (rW m F B SS HH NR RV)) (Y2 := []) rfl rfl (Or.inl rfl) zj_X12_next rfl rfl rfl rfl (Nat.le_of_ble_eq_true rfl) rfl (zr_next (F := F) hH0.1 hH0.2.1 (by have e4 := hA0.2.2 (by omega) (by omega); have hp := hH0.2.2.2.1.2.2.2.2.2 (j + 1) hj1; show 0 ≤ F 4 ∧ F 4 ≤ F 3; omega) (by have h9 := hH0.2.2.1; show 0 ≤ F 5 ∧ F 5 ≤ 1000; omega)) ⟨by decide, by decide, by decide, by decide⟩ (fun z9 Y9 hz => ?_)
    obtain ⟨rfl, Fa, rfl, hrt, hfrt⟩ := hz
    have hA1 : rAt P K S V Fa (j + 1) := rnext_ok (F := F) (j := j) hH0 hA0 hj1 (by omega) (by omega) hrt
    have hH1 : RH B P K S V RV k Fa := RH.fr2 hH0 (show Fa 3 = F 3 from hfrt.fr4.1) (show Fa 5 = F 5 from hfrt.fr4.2.1)
    have hg1 : Fa 18 = F 18 := hfrt 18 (by decide) (by decide) (by decide) (by decide) (by decide) (by decide)
    have hf1 : fr4 F Fa := fr4.tr (G := F) hf0 (show fr4 F Fa from hfrt.fr4)
    refine zg_blk pok2 X 4 [] (S' := (28, [(1, zI (CN 2)), (0, zR (m 0))], [zI (42 + (CN 2)), zR (m 0)], (rW m Fa B SS HH NR RV))) rfl trivial ?_
    refine zg_callV pok2 EWX_ok X 0 (vas := [zI (42 + (CN 2))]) (vr := []) (Y1 := (rW m Fa B SS HH NR RV)) (Y2 := []) rfl rfl (Or.inl rfl) zj_X12_fresh rfl rfl rfl rfl (Nat.le_of_ble_eq_true rfl) rfl (zr_fresh (F := Fa) (j := (j + 1)) (by omega) hH1 hA1 hj1 hRR hI hRZ) ⟨by decide, by decide, by decide, by decide⟩ (fun z9 Y9 hz => ?_)
    rcases hz with ⟨hfre, rfl, Fb, rfl, hax, hjx, hfx⟩ | ⟨hfre, rfl, Fc, rfl, hb1, hb2⟩
    · have hj2 : j + 2 ≤ k := hjx
      have hA2 : rAt P K S V Fb (j + 2) := hax
      have hH2 : RH B P K S V RV k Fb := RH.fr2 hH1 hfx.1 hfx.2.1
      have hf2 : fr4 F Fb := fr4.tr (G := Fa) hf1 hfx
      have hkv := (hA1.2.1.key hfre.1).2.1
      have hRR1 : RR HH (zup NR ((42 + (CN 2)).toNat) (wd (V (j + 1)))) CN NM MK KN := RR_nr hRR hI (by omega)
      refine zg_if X 49 rfl rfl (by first | (unfold zin; omega) | (have h9 := hRR.1 0 (by omega); have h8 := hRR.1 1 (by omega); have h7 := hRR.1 2 (by omega); have h6 := hRR.1 3 (by omega); unfold zin; omega)) (fun g2 => ?_) (fun g2 => ?_)
      · exact absurd (show (1 : Int) = (0 : Int) from g2) (by decide)
      · simp only [x_ncd] at g2
        refine zg_blk pok2 X 6 [0, 3] (S' := (43, [(1, zI (CN 2)), (0, zR (m 0))], [zI (HH 0), zI 28, zR (m 0)], (rW m Fb B SS HH (zup NR ((42 + (CN 2)).toNat) (wd (V (j + 1)))) RV))) rfl ⟨rfl, rfl, rfl, (show zidx 0 43 from by first | (unfold zidx; omega) | (have h9 := hRR.1 0 (by omega); have h8 := hRR.1 1 (by omega); have h7 := hRR.1 2 (by omega); have h6 := hRR.1 3 (by omega); unfold zidx; omega)), trivial⟩ ?_
        rw [show HH 0 = (((CN 0).toNat : Nat) : Int) by have h9 := hRR.1 0 (by omega); have h8 := hI.cn 0 (by omega); omega]
        refine zg_callV pok2 EWX_ok X 0 (vas := [zI 28, zI (((CN 0).toNat : Nat) : Int)]) (vr := []) (Y1 := (rW m Fb B SS HH (zup NR ((42 + (CN 2)).toNat) (wd (V (j + 1)))) RV)) (Y2 := []) rfl rfl (Or.inl rfl) zj_X12_takesName rfl rfl rfl rfl (Nat.le_of_ble_eq_true rfl) rfl (zr_takesName (sN := 0) (F := Fb) (j := (j + 2)) (by omega) hH2 hA2 hj2 hRR1 hI hRZ) ⟨by decide, by decide, by decide, by decide⟩ (fun z9 Y9 hz => ?_)
        rcases hz with ⟨ht2, rfl, Fd, rfl, hax, hjx, hfx, hgx⟩ | ⟨ht2, rfl, Fe, rfl, hb1, hb2⟩
        · have hj3 : j + 3 ≤ k := hjx
          have hA3 : rAt P K S V Fd (j + 3) := hax
          have hH3 : RH B P K S V RV k Fd := RH.fr2 hH2 hfx.1 hfx.2.1
          have hf3 : fr4 F Fd := fr4.tr (G := Fb) hf2 hfx
          have hg3 : Fd 18 = lkS CN NM 0 (V (j + 2)) := hgx
          have hk2 := (td_ne ht2).1
          have hl2 := (td_ne ht2).2
          have hlr2 := lkS_rng (NM := NM) (key := V (j + 2)) (hI.cn 0 (by omega))
          refine zg_if X 51 rfl rfl (by first | (unfold zin; omega) | (have h9 := hRR.1 0 (by omega); have h8 := hRR.1 1 (by omega); have h7 := hRR.1 2 (by omega); have h6 := hRR.1 3 (by omega); unfold zin; omega)) (fun g3 => ?_) (fun g3 => ?_)
          · simp only [x_cnd] at g3
            refine zg_blk pok2 X 17 [0, 0, 3, 0, 3, 3] (S' := (75, [(1, zI (CN 2)), (0, zR (m 0))], [zI 1], (rW m Fd B SS (zup (zup HH ((8 + (CN 2)).toNat) (Fd 18)) 2 (((zup HH ((8 + (CN 2)).toNat) (Fd 18)) 2) + 1)) (zup NR ((42 + (CN 2)).toNat) (wd (V (j + 1)))) RV))) rfl ⟨rfl, rfl, rfl, rfl, (show zidx (8 + (CN 2)) 43 from by first | (unfold zidx; omega) | (have h9 := hRR.1 0 (by omega); have h8 := hRR.1 1 (by omega); have h7 := hRR.1 2 (by omega); have h6 := hRR.1 3 (by omega); unfold zidx; omega)), rfl, rfl, rfl, (show zidx 2 43 from by first | (unfold zidx; omega) | (have h9 := hRR.1 0 (by omega); have h8 := hRR.1 1 (by omega); have h7 := hRR.1 2 (by omega); have h6 := hRR.1 3 (by omega); unfold zidx; omega)), rfl, rfl, (show zidx 2 43 from by first | (unfold zidx; omega) | (have h9 := hRR.1 0 (by omega); have h8 := hRR.1 1 (by omega); have h7 := hRR.1 2 (by omega); have h6 := hRR.1 3 (by omega); unfold zidx; omega)), trivial⟩ ?_
            refine zg_retb X hR rfl rfl (by decide) (by decide) (by first | exact Or.inl rfl | exact Or.inr rfl) ?_
            refine ⟨_, _, _, rfl, ?_, (by intro q hq; first | rfl | exact hn9 q hq | (rw [zup_ne (by omega)]; rfl) | (rw [zup_ne (by omega)]) | (rw [zup_ne (by omega), zup_ne (by omega)]))⟩
            unfold aThing aReg
            rw [if_neg (by omega), if_pos hfre.1, if_pos hfre.2]
            dsimp only
            rw [td_reg2 hI (by omega)]
            rw [if_pos ht2]
            have hfz := hf3
            exact Or.inl ⟨rfl, rfl, hA3, hj3, RR_reg (s := 2) (RR_oth hRR (by omega)) hI (by omega) hkv, hfz.2.2.2.trans hx, hfz.1, hfz.2.1, hfz.2.2.1⟩
          · exact absurd (show (1 : Int) = (0 : Int) from g3) (by decide)
        · refine zg_if X 51 rfl rfl (by first | (unfold zin; omega) | (have h9 := hRR.1 0 (by omega); have h8 := hRR.1 1 (by omega); have h7 := hRR.1 2 (by omega); have h6 := hRR.1 3 (by omega); unfold zin; omega)) (fun g4 => ?_) (fun g4 => ?_)
          · exact absurd (show ¬ (0 : Int) = (0 : Int) from g4) (by decide)
          · simp only [x_ncd] at g4
            refine zg_blk pok2 X 1 [] (S' := (50, [(1, zI (CN 2)), (0, zR (m 0))], [zI 0], (rW m Fe B SS HH (zup NR ((42 + (CN 2)).toNat) (wd (V (j + 1)))) RV))) rfl trivial ?_
            refine zg_retb X hR rfl rfl (by decide) (by decide) (by first | exact Or.inl rfl | exact Or.inr rfl) ?_
            refine ⟨_, _, _, rfl, ?_, (by intro q hq; first | rfl | exact hn9 q hq | (rw [zup_ne (by omega)]; rfl) | (rw [zup_ne (by omega)]) | (rw [zup_ne (by omega), zup_ne (by omega)]))⟩
            unfold aThing aReg
            rw [if_neg (by omega), if_pos hfre.1, if_pos hfre.2]
            dsimp only
            rw [td_reg2 hI (by omega)]
            rw [if_neg ht2]
            exact Or.inr ⟨ht2, rfl, hb1, hb2⟩
    · refine zg_if X 49 rfl rfl (by first | (unfold zin; omega) | (have h9 := hRR.1 0 (by omega); have h8 := hRR.1 1 (by omega); have h7 := hRR.1 2 (by omega); have h6 := hRR.1 3 (by omega); unfold zin; omega)) (fun g5 => ?_) (fun g5 => ?_)
      · simp only [x_cnd] at g5
        refine zg_blk pok2 X 1 [] (S' := (50, [(1, zI (CN 2)), (0, zR (m 0))], [zI 0], (rW m Fc B SS HH NR RV))) rfl trivial ?_
        refine zg_retb X hR rfl rfl (by decide) (by decide) (by first | exact Or.inl rfl | exact Or.inr rfl) ?_
        by_cases hkk : K (j + 1) = 1
        · rw [if_pos hkk] at hb1
          refine ⟨_, _, _, rfl, ?_, (by intro q hq; first | rfl | exact hn9 q hq | (rw [zup_ne (by omega)]; rfl) | (rw [zup_ne (by omega)]) | (rw [zup_ne (by omega), zup_ne (by omega)]))⟩
          unfold aThing aReg
          rw [if_neg (by omega), if_pos hkk, if_neg (fun h => hfre ⟨hkk, h⟩)]
          exact Or.inr ⟨bad_ne (by decide), rfl, hb1, hb2⟩
        · rw [if_neg hkk] at hb1
          refine ⟨_, _, _, rfl, ?_, (by intro q hq; first | rfl | exact hn9 q hq | (rw [zup_ne (by omega)]; rfl) | (rw [zup_ne (by omega)]) | (rw [zup_ne (by omega), zup_ne (by omega)]))⟩
          unfold aThing aReg
          rw [if_neg (by omega), if_neg hkk]
          exact Or.inr ⟨bad_ne (by decide), rfl, hb1, hb2⟩
      · exact absurd (show ¬ (0 : Int) = (0 : Int) from g5) (by decide)
  · simp only [x_ncd] at g1
    refine zg_blk pok2 X 2 [] (S' := (15, [(1, zI (CN 2)), (0, zR (m 0))], [zI 4, zR (m 0)], (rW m F B SS HH NR RV))) rfl trivial ?_
    refine zg_callV pok2 EWX_ok X 0 (vas := [zI 4]) (vr := []) (Y1 := (rW m F B SS HH NR RV)) (Y2 := []) rfl rfl (Or.inl rfl) zj_X12_bad rfl rfl rfl rfl (Nat.le_of_ble_eq_true rfl) rfl (zr_bad (F := F)) ⟨by decide, by decide, by decide, by decide⟩ (fun z9 Y9 hz => ?_)
    obtain ⟨rfl, rfl⟩ := hz
    refine zg_retb X hR rfl rfl (by decide) (by decide) (by first | exact Or.inl rfl | exact Or.inr rfl) ?_
    refine ⟨_, _, _, rfl, ?_, (by intro q hq; first | rfl | exact hn9 q hq | (rw [zup_ne (by omega)]; rfl) | (rw [zup_ne (by omega)]) | (rw [zup_ne (by omega), zup_ne (by omega)]))⟩
    unfold aThing aReg
    rw [if_pos (by omega)]
    exact Or.inr ⟨bad_ne (by decide), rfl, rfl, hA0.1⟩
end ZU9
