/-! the class's city: new ones, lines, the whole text (written by wip/p4/g8.py) -/
section ZF
variable {xs : Nat → Int32} {D : va_G} {cy : Nat → ClassId} {l : Launch} {ex : Nat → Nat} {a c : Nat → Nat} {F B K S V G CN NM MK TP PP CO KN F1 : Nat → Int} {idx : Nat} {kd pl x : Int}
set_option maxRecDepth 4000 in
theorem zj_X1_readNew : PR2[218]? = some mt2_X1_readNew := rfl
set_option maxRecDepth 4000 in
theorem zm_readNew0 (hk0 : K idx = 2) (hT : TT F K S V) (hi : (idx : Int) < F 1) (hI : INV CN NM x) (hG : G 1 = 16 * x) : ZMet (EWX xs) D cy l ex mt2_X1_readNew (3, 0, 0, 69) (tW a (FA K S V F idx) B K S V ++ cW c G CN NM MK TP PP CO KN) [zR (c 0), zR (a 2), zI 0] (fun z Y => z = none ∧ ∃ F9 G9 CN9 NM9 MK9 TP9 PP9 CO9 KN9 : Nat → Int, cM K S V F (aPlain K V CN NM MK KN x 4 0 0 idx) F9 G9 CN9 NM9 MK9 KN9 ∧ Y = tW a F9 B K S V ++ cW c G9 CN9 NM9 MK9 TP9 PP9 CO9 KN9) := by
  obtain ⟨mok, tok, ow⟩ := pok2.1 _ _ zj_X1_readNew
  refine met_ofz EWX_ok mok tok ow (Nat.le_of_ble_eq_true rfl) (fun r p0 e0 s0 m0 ar0 be0 me0 c0 A0 Q0 X hR => ?_)
  obtain ⟨hF6, hF1a, hF1b, hTs, hTk⟩ := hT
  have t0 := hTk idx hi
  have hCN := hI.cn
  obtain ⟨hc0, hc1, hc2, hc3, hNM, hU, hx0, hx1⟩ := hI
  refine zg_blk pok2 X 6 [6, 7] (S' := (8, [(3, zI (CN 0)), (0, zR (c 0)), (1, zR (a 2)), (2, zI 0)], [zI (CN 0)], ((tW a (FA K S V F idx) B K S V) ++ (cW c G CN NM MK TP PP CO KN)))) rfl ⟨rfl, rfl, rfl, (show zidx 0 8 from by unfold zidx; omega), trivial⟩ ?_
  refine zg_gst X (j := 20) rfl rfl rfl ?_
  refine zg_blk pok2 X 1 [] (S' := (12, [(3, zI (CN 0)), (0, zR (c 0)), (1, zR (a 2)), (2, zI 0)], [zI 0, zR (ex 20), zI (CN 0)], ((tW a (FA K S V F idx) B K S V) ++ (cW c G CN NM MK TP PP CO KN)))) rfl trivial ?_
  refine zg_rld X (j := 20) (row := [4, 10, 8, 6]) rfl rfl (by omega) ?_
  refine zg_cv (S2 := (13, [(3, zI (CN 0)), (0, zR (c 0)), (1, zR (a 2)), (2, zI 0)], [zI 4, zI (CN 0)], ((tW a (FA K S V F idx) B K S V) ++ (cW c G CN NM MK TP PP CO KN)))) rfl ?_
  refine zg_icmp X 22 rfl rfl (by first | (unfold zin; omega) | exact zand_in _ _) (by first | (unfold zin; omega) | exact zand_in _ _) (fun g1 => ?_) (fun g1 => ?_)
  · simp only [x_cnd] at g1
    refine zg_blk pok2 X 1 [] (S' := (23, [(3, zI (CN 0)), (0, zR (c 0)), (1, zR (a 2)), (2, zI 0)], [zR (a 2)], ((tW a (FA K S V F idx) B K S V) ++ (cW c G CN NM MK TP PP CO KN)))) rfl trivial ?_
    refine zg_callV pok2 EWX_ok X 2 (vas := []) (vr := []) (Y1 := (tW a (FA K S V F idx) B K S V)) (Y2 := (cW c G CN NM MK TP PP CO KN)) rfl rfl (Or.inl rfl) zj_X10_step rfl rfl rfl rfl (Nat.le_of_ble_eq_true rfl) rfl (zm_step (F := (FA K S V F idx)) (show F 1 ≤ 941 by omega) (show -1 ≤ ((idx : Nat) : Int) ∧ ((idx : Nat) : Int) < 941 by omega) (show -2147483648 ≤ F 6 ∧ F 6 < 2147483648 by omega) (show 0 ≤ F 1 by omega)) ⟨by decide, by decide, by decide, by decide⟩ (fun z9 Y9 hz => ?_)
    obtain ⟨rfl, rfl⟩ := hz
    have i1 : (((idx + 1) : Nat) : Int) < F 1 := by
      have h9 := hTs idx hi (by omega) (by omega)
      omega
    have t1 := hTk (idx + 1) i1
    rw [FA_step hF6 (by omega)]
    refine zg_blk pok2 X 3 [2] (S' := (31, [(3, zI (CN 0)), (0, zR (c 0)), (1, zR (a 2)), (2, zI 0)], [zI 1, zI (K (idx + 1))], ((tW a (FA K S V F (idx + 1)) B K S V) ++ (cW c G CN NM MK TP PP CO KN)))) rfl ⟨rfl, trivial⟩ ?_
    refine zg_icmp X 40 rfl rfl (by first | (unfold zin; omega) | exact zand_in _ _) (by first | (unfold zin; omega) | exact zand_in _ _) (fun g2 => ?_) (fun g2 => ?_)
    · simp only [x_cnd] at g2
      refine zg_blk pok2 X 3 [2] (S' := (45, [(3, zI (CN 0)), (0, zR (c 0)), (1, zR (a 2)), (2, zI 0)], [zL (V (idx + 1)), zR (c 0)], ((tW a (FA K S V F (idx + 1)) B K S V) ++ (cW c G CN NM MK TP PP CO KN)))) rfl ⟨rfl, trivial⟩ ?_
      refine zg_callV pok2 EWX_ok X 6 (vas := [zL (V (idx + 1))]) (vr := []) (Y1 := ((tW a (FA K S V F (idx + 1)) B K S V) ++ (cW c G CN NM MK TP PP CO KN))) (Y2 := []) rfl rfl (Or.inl rfl) zj_X1_find rfl rfl rfl rfl (Nat.le_of_ble_eq_true rfl) rfl (zm_find hCN hNM (t1.2.2.1 (by omega))) ⟨by decide, by decide, by decide, by decide⟩ (fun z9 Y9 hz => ?_)
      obtain ⟨rfl, rfl⟩ := hz
      have hfo := fnd_ok (s := 0) (key := V (idx + 1)) hCN hU (by omega)
      refine zg_blk pok2 X 1 [] (S' := (49, [(3, zI (CN 0)), (0, zR (c 0)), (1, zR (a 2)), (2, zI 0)], [zI (-1), zI (fnd CN NM (V (idx + 1)))], ((tW a (FA K S V F (idx + 1)) B K S V) ++ (cW c G CN NM MK TP PP CO KN)))) rfl trivial ?_
      refine zg_icmp X 58 rfl rfl (by first | (unfold zin; omega) | exact zand_in _ _) (by first | (unfold zin; omega) | exact zand_in _ _) (fun g3 => ?_) (fun g3 => ?_)
      · simp only [x_cnd] at g3
        refine zg_blk pok2 X 18 [6, 2, 8, 6, 7] (S' := (83, [(3, zI (CN 0)), (0, zR (c 0)), (1, zR (a 2)), (2, zI 0)], [zR (a 2)], ((tW a (FA K S V F (idx + 1)) B K S V) ++ (cW c G (zup CN 0 ((CN 0) + 1)) (zup NM ((0 + (CN 0)).toNat) (V (idx + 1))) MK TP PP CO KN)))) rfl ⟨rfl, rfl, rfl, (show zidx (0 + (CN 0)) 40 from by unfold zidx; omega), rfl, rfl, rfl, (show zidx 0 8 from by unfold zidx; omega), trivial⟩ ?_
        refine zg_callV pok2 EWX_ok X 2 (vas := []) (vr := []) (Y1 := (tW a (FA K S V F (idx + 1)) B K S V)) (Y2 := (cW c G (zup CN 0 ((CN 0) + 1)) (zup NM ((0 + (CN 0)).toNat) (V (idx + 1))) MK TP PP CO KN)) rfl rfl (Or.inl rfl) zj_X10_step rfl rfl rfl rfl (Nat.le_of_ble_eq_true rfl) rfl (zm_step (F := (FA K S V F (idx + 1))) (show F 1 ≤ 941 by omega) (show -1 ≤ (((idx + 1) : Nat) : Int) ∧ (((idx + 1) : Nat) : Int) < 941 by omega) (show -2147483648 ≤ F 6 ∧ F 6 < 2147483648 by omega) (show 0 ≤ F 1 by omega)) ⟨by decide, by decide, by decide, by decide⟩ (fun z9 Y9 hz => ?_)
        obtain ⟨rfl, rfl⟩ := hz
        have hreg : (∀ t, t < 4 → 0 ≤ (zup CN 0 ((CN 0) + 1)) t ∧ (zup CN 0 ((CN 0) + 1)) t ≤ 10) ∧ (∀ k, zin64 ((zup NM ((0 + (CN 0)).toNat) (V (idx + 1))) k)) ∧ Uq (zup CN 0 ((CN 0) + 1)) (zup NM ((0 + (CN 0)).toNat) (V (idx + 1))) := by
          have h9 := reg_ok (s := 0) (key := V (idx + 1)) hCN hNM hU (by omega) (by omega) (t1.2.2.1 (by omega)) (by omega)
          exact h9
        have i2 : (((idx + 2) : Nat) : Int) < F 1 := by
          have h9 := hTs (idx + 1) i1 (by omega) (by omega)
          omega
        have t2 := hTk (idx + 2) i2
        rw [FA_step hF6 (by omega)]
        refine zg_blk pok2 X 2 [] (S' := (88, [(3, zI (CN 0)), (0, zR (c 0)), (1, zR (a 2)), (2, zI 0)], [zI 2, zI 0], ((tW a (FA K S V F (idx + 2)) B K S V) ++ (cW c G (zup CN 0 ((CN 0) + 1)) (zup NM ((0 + (CN 0)).toNat) (V (idx + 1))) MK TP PP CO KN)))) rfl trivial ?_
        refine zg_icmp X 110 rfl rfl (by first | (unfold zin; omega) | exact zand_in _ _) (by first | (unfold zin; omega) | exact zand_in _ _) (fun g4 => ?_) (fun g4 => ?_)
        · simp only [x_cnd] at g4
          refine zg_blk pok2 X 2 [] (S' := (112, [(3, zI (CN 0)), (0, zR (c 0)), (1, zR (a 2)), (2, zI 0)], [zI 3, zI 0], ((tW a (FA K S V F (idx + 2)) B K S V) ++ (cW c G (zup CN 0 ((CN 0) + 1)) (zup NM ((0 + (CN 0)).toNat) (V (idx + 1))) MK TP PP CO KN)))) rfl trivial ?_
          refine zg_icmp X 121 rfl rfl (by first | (unfold zin; omega) | exact zand_in _ _) (by first | (unfold zin; omega) | exact zand_in _ _) (fun g5 => ?_) (fun g5 => ?_)
          · simp only [x_cnd] at g5
            refine zg_retv X hR rfl rfl (by decide) (by decide) ?_
            refine ⟨rfl, _, _, _, _, _, _, _, _, _, ?_, rfl⟩
            unfold aPlain aReg
            rw [if_neg (by omega), if_pos (by omega), if_pos (by omega)]
            exact Or.inl ⟨rfl, rfl, rfl, rfl, rfl, rfl, hG⟩
          · exact absurd (show (0 : Int) = (3 : Int) from g5) (by decide)
        · exact absurd (show (0 : Int) = (2 : Int) from g4) (by decide)
      · simp only [x_ncd] at g3
        refine zg_blk pok2 X 2 [] (S' := (54, [(3, zI (CN 0)), (0, zR (c 0)), (1, zR (a 2)), (2, zI 0)], [zI 3, zR (a 2)], ((tW a (FA K S V F (idx + 1)) B K S V) ++ (cW c G CN NM MK TP PP CO KN)))) rfl trivial ?_
        refine zg_callV pok2 EWX_ok X 2 (vas := [zI 3]) (vr := []) (Y1 := (tW a (FA K S V F (idx + 1)) B K S V)) (Y2 := (cW c G CN NM MK TP PP CO KN)) rfl rfl (Or.inl rfl) zj_X10_fail rfl rfl rfl rfl (Nat.le_of_ble_eq_true rfl) rfl (zm_fail (F := (FA K S V F (idx + 1))) (show -2147483648 ≤ F 6 ∧ F 6 < 2147483648 by omega)) ⟨by decide, by decide, by decide, by decide⟩ (fun z9 Y9 hz => ?_)
        obtain ⟨rfl, rfl⟩ := hz
        have hfd := FA_fail (K := K) (S := S) (V := V) (F := F) (idx := (idx + 1)) (m := 3) hF6 (by decide) (by decide)
        refine zg_retv X hR rfl rfl (by decide) (by decide) ?_
        refine ⟨rfl, _, _, _, _, _, _, _, _, _, ?_, rfl⟩
        unfold aPlain aReg
        rw [if_neg (by omega), if_pos (by omega), if_neg (by omega)]
        exact Or.inr ⟨bad_ne (by decide), hfd⟩
    · simp only [x_ncd] at g2
      refine zg_blk pok2 X 2 [] (S' := (36, [(3, zI (CN 0)), (0, zR (c 0)), (1, zR (a 2)), (2, zI 0)], [zI 1, zR (a 2)], ((tW a (FA K S V F (idx + 1)) B K S V) ++ (cW c G CN NM MK TP PP CO KN)))) rfl trivial ?_
      refine zg_callV pok2 EWX_ok X 2 (vas := [zI 1]) (vr := []) (Y1 := (tW a (FA K S V F (idx + 1)) B K S V)) (Y2 := (cW c G CN NM MK TP PP CO KN)) rfl rfl (Or.inl rfl) zj_X10_fail rfl rfl rfl rfl (Nat.le_of_ble_eq_true rfl) rfl (zm_fail (F := (FA K S V F (idx + 1))) (show -2147483648 ≤ F 6 ∧ F 6 < 2147483648 by omega)) ⟨by decide, by decide, by decide, by decide⟩ (fun z9 Y9 hz => ?_)
      obtain ⟨rfl, rfl⟩ := hz
      have hfd := FA_fail (K := K) (S := S) (V := V) (F := F) (idx := (idx + 1)) (m := 1) hF6 (by decide) (by decide)
      refine zg_retv X hR rfl rfl (by decide) (by decide) ?_
      refine ⟨rfl, _, _, _, _, _, _, _, _, _, ?_, rfl⟩
      unfold aPlain aReg
      rw [if_neg (by omega), if_neg (by omega)]
      exact Or.inr ⟨bad_ne (by decide), hfd⟩
  · simp only [x_ncd] at g1
    refine zg_blk pok2 X 2 [] (S' := (18, [(3, zI (CN 0)), (0, zR (c 0)), (1, zR (a 2)), (2, zI 0)], [zI 4, zR (a 2)], ((tW a (FA K S V F idx) B K S V) ++ (cW c G CN NM MK TP PP CO KN)))) rfl trivial ?_
    refine zg_callV pok2 EWX_ok X 2 (vas := [zI 4]) (vr := []) (Y1 := (tW a (FA K S V F idx) B K S V)) (Y2 := (cW c G CN NM MK TP PP CO KN)) rfl rfl (Or.inl rfl) zj_X10_fail rfl rfl rfl rfl (Nat.le_of_ble_eq_true rfl) rfl (zm_fail (F := (FA K S V F idx)) (show -2147483648 ≤ F 6 ∧ F 6 < 2147483648 by omega)) ⟨by decide, by decide, by decide, by decide⟩ (fun z9 Y9 hz => ?_)
    obtain ⟨rfl, rfl⟩ := hz
    have hfd := FA_fail (K := K) (S := S) (V := V) (F := F) (idx := idx) (m := 4) hF6 (by decide) (by decide)
    refine zg_retv X hR rfl rfl (by decide) (by decide) ?_
    refine ⟨rfl, _, _, _, _, _, _, _, _, _, ?_, rfl⟩
    unfold aPlain aReg
    rw [if_pos (by omega)]
    exact Or.inr ⟨bad_ne (by decide), hfd⟩
set_option maxRecDepth 4000 in
theorem zm_readNew1 (hk0 : K idx = 2) (hT : TT F K S V) (hi : (idx : Int) < F 1) (hI : INV CN NM x) (hG : G 1 = 16 * x) : ZMet (EWX xs) D cy l ex mt2_X1_readNew (3, 0, 0, 69) (tW a (FA K S V F idx) B K S V ++ cW c G CN NM MK TP PP CO KN) [zR (c 0), zR (a 2), zI 1] (fun z Y => z = none ∧ ∃ F9 G9 CN9 NM9 MK9 TP9 PP9 CO9 KN9 : Nat → Int, cM K S V F (aPlain K V CN NM MK KN x 10 10 1 idx) F9 G9 CN9 NM9 MK9 KN9 ∧ Y = tW a F9 B K S V ++ cW c G9 CN9 NM9 MK9 TP9 PP9 CO9 KN9) := by
  obtain ⟨mok, tok, ow⟩ := pok2.1 _ _ zj_X1_readNew
  refine met_ofz EWX_ok mok tok ow (Nat.le_of_ble_eq_true rfl) (fun r p0 e0 s0 m0 ar0 be0 me0 c0 A0 Q0 X hR => ?_)
  obtain ⟨hF6, hF1a, hF1b, hTs, hTk⟩ := hT
  have t0 := hTk idx hi
  have hCN := hI.cn
  obtain ⟨hc0, hc1, hc2, hc3, hNM, hU, hx0, hx1⟩ := hI
  refine zg_blk pok2 X 6 [6, 7] (S' := (8, [(3, zI (CN 1)), (0, zR (c 0)), (1, zR (a 2)), (2, zI 1)], [zI (CN 1)], ((tW a (FA K S V F idx) B K S V) ++ (cW c G CN NM MK TP PP CO KN)))) rfl ⟨rfl, rfl, rfl, (show zidx 1 8 from by unfold zidx; omega), trivial⟩ ?_
  refine zg_gst X (j := 20) rfl rfl rfl ?_
  refine zg_blk pok2 X 1 [] (S' := (12, [(3, zI (CN 1)), (0, zR (c 0)), (1, zR (a 2)), (2, zI 1)], [zI 1, zR (ex 20), zI (CN 1)], ((tW a (FA K S V F idx) B K S V) ++ (cW c G CN NM MK TP PP CO KN)))) rfl trivial ?_
  refine zg_rld X (j := 20) (row := [4, 10, 8, 6]) rfl rfl (by omega) ?_
  refine zg_cv (S2 := (13, [(3, zI (CN 1)), (0, zR (c 0)), (1, zR (a 2)), (2, zI 1)], [zI 10, zI (CN 1)], ((tW a (FA K S V F idx) B K S V) ++ (cW c G CN NM MK TP PP CO KN)))) rfl ?_
  refine zg_icmp X 22 rfl rfl (by first | (unfold zin; omega) | exact zand_in _ _) (by first | (unfold zin; omega) | exact zand_in _ _) (fun g1 => ?_) (fun g1 => ?_)
  · simp only [x_cnd] at g1
    refine zg_blk pok2 X 1 [] (S' := (23, [(3, zI (CN 1)), (0, zR (c 0)), (1, zR (a 2)), (2, zI 1)], [zR (a 2)], ((tW a (FA K S V F idx) B K S V) ++ (cW c G CN NM MK TP PP CO KN)))) rfl trivial ?_
    refine zg_callV pok2 EWX_ok X 2 (vas := []) (vr := []) (Y1 := (tW a (FA K S V F idx) B K S V)) (Y2 := (cW c G CN NM MK TP PP CO KN)) rfl rfl (Or.inl rfl) zj_X10_step rfl rfl rfl rfl (Nat.le_of_ble_eq_true rfl) rfl (zm_step (F := (FA K S V F idx)) (show F 1 ≤ 941 by omega) (show -1 ≤ ((idx : Nat) : Int) ∧ ((idx : Nat) : Int) < 941 by omega) (show -2147483648 ≤ F 6 ∧ F 6 < 2147483648 by omega) (show 0 ≤ F 1 by omega)) ⟨by decide, by decide, by decide, by decide⟩ (fun z9 Y9 hz => ?_)
    obtain ⟨rfl, rfl⟩ := hz
    have i1 : (((idx + 1) : Nat) : Int) < F 1 := by
      have h9 := hTs idx hi (by omega) (by omega)
      omega
    have t1 := hTk (idx + 1) i1
    rw [FA_step hF6 (by omega)]
    refine zg_blk pok2 X 3 [2] (S' := (31, [(3, zI (CN 1)), (0, zR (c 0)), (1, zR (a 2)), (2, zI 1)], [zI 1, zI (K (idx + 1))], ((tW a (FA K S V F (idx + 1)) B K S V) ++ (cW c G CN NM MK TP PP CO KN)))) rfl ⟨rfl, trivial⟩ ?_
    refine zg_icmp X 40 rfl rfl (by first | (unfold zin; omega) | exact zand_in _ _) (by first | (unfold zin; omega) | exact zand_in _ _) (fun g2 => ?_) (fun g2 => ?_)
    · simp only [x_cnd] at g2
      refine zg_blk pok2 X 3 [2] (S' := (45, [(3, zI (CN 1)), (0, zR (c 0)), (1, zR (a 2)), (2, zI 1)], [zL (V (idx + 1)), zR (c 0)], ((tW a (FA K S V F (idx + 1)) B K S V) ++ (cW c G CN NM MK TP PP CO KN)))) rfl ⟨rfl, trivial⟩ ?_
      refine zg_callV pok2 EWX_ok X 6 (vas := [zL (V (idx + 1))]) (vr := []) (Y1 := ((tW a (FA K S V F (idx + 1)) B K S V) ++ (cW c G CN NM MK TP PP CO KN))) (Y2 := []) rfl rfl (Or.inl rfl) zj_X1_find rfl rfl rfl rfl (Nat.le_of_ble_eq_true rfl) rfl (zm_find hCN hNM (t1.2.2.1 (by omega))) ⟨by decide, by decide, by decide, by decide⟩ (fun z9 Y9 hz => ?_)
      obtain ⟨rfl, rfl⟩ := hz
      have hfo := fnd_ok (s := 0) (key := V (idx + 1)) hCN hU (by omega)
      refine zg_blk pok2 X 1 [] (S' := (49, [(3, zI (CN 1)), (0, zR (c 0)), (1, zR (a 2)), (2, zI 1)], [zI (-1), zI (fnd CN NM (V (idx + 1)))], ((tW a (FA K S V F (idx + 1)) B K S V) ++ (cW c G CN NM MK TP PP CO KN)))) rfl trivial ?_
      refine zg_icmp X 58 rfl rfl (by first | (unfold zin; omega) | exact zand_in _ _) (by first | (unfold zin; omega) | exact zand_in _ _) (fun g3 => ?_) (fun g3 => ?_)
      · simp only [x_cnd] at g3
        refine zg_blk pok2 X 18 [6, 2, 8, 6, 7] (S' := (83, [(3, zI (CN 1)), (0, zR (c 0)), (1, zR (a 2)), (2, zI 1)], [zR (a 2)], ((tW a (FA K S V F (idx + 1)) B K S V) ++ (cW c G (zup CN 1 ((CN 1) + 1)) (zup NM ((10 + (CN 1)).toNat) (V (idx + 1))) MK TP PP CO KN)))) rfl ⟨rfl, rfl, rfl, (show zidx (10 + (CN 1)) 40 from by unfold zidx; omega), rfl, rfl, rfl, (show zidx 1 8 from by unfold zidx; omega), trivial⟩ ?_
        refine zg_callV pok2 EWX_ok X 2 (vas := []) (vr := []) (Y1 := (tW a (FA K S V F (idx + 1)) B K S V)) (Y2 := (cW c G (zup CN 1 ((CN 1) + 1)) (zup NM ((10 + (CN 1)).toNat) (V (idx + 1))) MK TP PP CO KN)) rfl rfl (Or.inl rfl) zj_X10_step rfl rfl rfl rfl (Nat.le_of_ble_eq_true rfl) rfl (zm_step (F := (FA K S V F (idx + 1))) (show F 1 ≤ 941 by omega) (show -1 ≤ (((idx + 1) : Nat) : Int) ∧ (((idx + 1) : Nat) : Int) < 941 by omega) (show -2147483648 ≤ F 6 ∧ F 6 < 2147483648 by omega) (show 0 ≤ F 1 by omega)) ⟨by decide, by decide, by decide, by decide⟩ (fun z9 Y9 hz => ?_)
        obtain ⟨rfl, rfl⟩ := hz
        have hreg : (∀ t, t < 4 → 0 ≤ (zup CN 1 ((CN 1) + 1)) t ∧ (zup CN 1 ((CN 1) + 1)) t ≤ 10) ∧ (∀ k, zin64 ((zup NM ((10 + (CN 1)).toNat) (V (idx + 1))) k)) ∧ Uq (zup CN 1 ((CN 1) + 1)) (zup NM ((10 + (CN 1)).toNat) (V (idx + 1))) := by
          have h9 := reg_ok (s := 1) (key := V (idx + 1)) hCN hNM hU (by omega) (by omega) (t1.2.2.1 (by omega)) (by omega)
          exact h9
        have i2 : (((idx + 2) : Nat) : Int) < F 1 := by
          have h9 := hTs (idx + 1) i1 (by omega) (by omega)
          omega
        have t2 := hTk (idx + 2) i2
        rw [FA_step hF6 (by omega)]
        refine zg_blk pok2 X 2 [] (S' := (88, [(3, zI (CN 1)), (0, zR (c 0)), (1, zR (a 2)), (2, zI 1)], [zI 2, zI 1], ((tW a (FA K S V F (idx + 2)) B K S V) ++ (cW c G (zup CN 1 ((CN 1) + 1)) (zup NM ((10 + (CN 1)).toNat) (V (idx + 1))) MK TP PP CO KN)))) rfl trivial ?_
        refine zg_icmp X 110 rfl rfl (by first | (unfold zin; omega) | exact zand_in _ _) (by first | (unfold zin; omega) | exact zand_in _ _) (fun g4 => ?_) (fun g4 => ?_)
        · simp only [x_cnd] at g4
          refine zg_blk pok2 X 2 [] (S' := (112, [(3, zI (CN 1)), (0, zR (c 0)), (1, zR (a 2)), (2, zI 1)], [zI 3, zI 1], ((tW a (FA K S V F (idx + 2)) B K S V) ++ (cW c G (zup CN 1 ((CN 1) + 1)) (zup NM ((10 + (CN 1)).toNat) (V (idx + 1))) MK TP PP CO KN)))) rfl trivial ?_
          refine zg_icmp X 121 rfl rfl (by first | (unfold zin; omega) | exact zand_in _ _) (by first | (unfold zin; omega) | exact zand_in _ _) (fun g5 => ?_) (fun g5 => ?_)
          · simp only [x_cnd] at g5
            refine zg_retv X hR rfl rfl (by decide) (by decide) ?_
            refine ⟨rfl, _, _, _, _, _, _, _, _, _, ?_, rfl⟩
            unfold aPlain aReg
            rw [if_neg (by omega), if_pos (by omega), if_pos (by omega)]
            exact Or.inl ⟨rfl, rfl, rfl, rfl, rfl, rfl, hG⟩
          · exact absurd (show (1 : Int) = (3 : Int) from g5) (by decide)
        · exact absurd (show (1 : Int) = (2 : Int) from g4) (by decide)
      · simp only [x_ncd] at g3
        refine zg_blk pok2 X 2 [] (S' := (54, [(3, zI (CN 1)), (0, zR (c 0)), (1, zR (a 2)), (2, zI 1)], [zI 3, zR (a 2)], ((tW a (FA K S V F (idx + 1)) B K S V) ++ (cW c G CN NM MK TP PP CO KN)))) rfl trivial ?_
        refine zg_callV pok2 EWX_ok X 2 (vas := [zI 3]) (vr := []) (Y1 := (tW a (FA K S V F (idx + 1)) B K S V)) (Y2 := (cW c G CN NM MK TP PP CO KN)) rfl rfl (Or.inl rfl) zj_X10_fail rfl rfl rfl rfl (Nat.le_of_ble_eq_true rfl) rfl (zm_fail (F := (FA K S V F (idx + 1))) (show -2147483648 ≤ F 6 ∧ F 6 < 2147483648 by omega)) ⟨by decide, by decide, by decide, by decide⟩ (fun z9 Y9 hz => ?_)
        obtain ⟨rfl, rfl⟩ := hz
        have hfd := FA_fail (K := K) (S := S) (V := V) (F := F) (idx := (idx + 1)) (m := 3) hF6 (by decide) (by decide)
        refine zg_retv X hR rfl rfl (by decide) (by decide) ?_
        refine ⟨rfl, _, _, _, _, _, _, _, _, _, ?_, rfl⟩
        unfold aPlain aReg
        rw [if_neg (by omega), if_pos (by omega), if_neg (by omega)]
        exact Or.inr ⟨bad_ne (by decide), hfd⟩
    · simp only [x_ncd] at g2
      refine zg_blk pok2 X 2 [] (S' := (36, [(3, zI (CN 1)), (0, zR (c 0)), (1, zR (a 2)), (2, zI 1)], [zI 1, zR (a 2)], ((tW a (FA K S V F (idx + 1)) B K S V) ++ (cW c G CN NM MK TP PP CO KN)))) rfl trivial ?_
      refine zg_callV pok2 EWX_ok X 2 (vas := [zI 1]) (vr := []) (Y1 := (tW a (FA K S V F (idx + 1)) B K S V)) (Y2 := (cW c G CN NM MK TP PP CO KN)) rfl rfl (Or.inl rfl) zj_X10_fail rfl rfl rfl rfl (Nat.le_of_ble_eq_true rfl) rfl (zm_fail (F := (FA K S V F (idx + 1))) (show -2147483648 ≤ F 6 ∧ F 6 < 2147483648 by omega)) ⟨by decide, by decide, by decide, by decide⟩ (fun z9 Y9 hz => ?_)
      obtain ⟨rfl, rfl⟩ := hz
      have hfd := FA_fail (K := K) (S := S) (V := V) (F := F) (idx := (idx + 1)) (m := 1) hF6 (by decide) (by decide)
      refine zg_retv X hR rfl rfl (by decide) (by decide) ?_
      refine ⟨rfl, _, _, _, _, _, _, _, _, _, ?_, rfl⟩
      unfold aPlain aReg
      rw [if_neg (by omega), if_neg (by omega)]
      exact Or.inr ⟨bad_ne (by decide), hfd⟩
  · simp only [x_ncd] at g1
    refine zg_blk pok2 X 2 [] (S' := (18, [(3, zI (CN 1)), (0, zR (c 0)), (1, zR (a 2)), (2, zI 1)], [zI 4, zR (a 2)], ((tW a (FA K S V F idx) B K S V) ++ (cW c G CN NM MK TP PP CO KN)))) rfl trivial ?_
    refine zg_callV pok2 EWX_ok X 2 (vas := [zI 4]) (vr := []) (Y1 := (tW a (FA K S V F idx) B K S V)) (Y2 := (cW c G CN NM MK TP PP CO KN)) rfl rfl (Or.inl rfl) zj_X10_fail rfl rfl rfl rfl (Nat.le_of_ble_eq_true rfl) rfl (zm_fail (F := (FA K S V F idx)) (show -2147483648 ≤ F 6 ∧ F 6 < 2147483648 by omega)) ⟨by decide, by decide, by decide, by decide⟩ (fun z9 Y9 hz => ?_)
    obtain ⟨rfl, rfl⟩ := hz
    have hfd := FA_fail (K := K) (S := S) (V := V) (F := F) (idx := idx) (m := 4) hF6 (by decide) (by decide)
    refine zg_retv X hR rfl rfl (by decide) (by decide) ?_
    refine ⟨rfl, _, _, _, _, _, _, _, _, _, ?_, rfl⟩
    unfold aPlain aReg
    rw [if_pos (by omega)]
    exact Or.inr ⟨bad_ne (by decide), hfd⟩
set_option maxRecDepth 4000 in
theorem zm_readNew2 (hk0 : K idx = 2) (hT : TT F K S V) (hi : (idx : Int) < F 1) (hI : INV CN NM x) (hG : G 1 = 16 * x) : ZMet (EWX xs) D cy l ex mt2_X1_readNew (3, 0, 0, 69) (tW a (FA K S V F idx) B K S V ++ cW c G CN NM MK TP PP CO KN) [zR (c 0), zR (a 2), zI 2] (fun z Y => z = none ∧ ∃ F9 G9 CN9 NM9 MK9 TP9 PP9 CO9 KN9 : Nat → Int, cM K S V F (aThing K V CN NM MK KN x idx) F9 G9 CN9 NM9 MK9 KN9 ∧ Y = tW a F9 B K S V ++ cW c G9 CN9 NM9 MK9 TP9 PP9 CO9 KN9) := by
  obtain ⟨mok, tok, ow⟩ := pok2.1 _ _ zj_X1_readNew
  refine met_ofz EWX_ok mok tok ow (Nat.le_of_ble_eq_true rfl) (fun r p0 e0 s0 m0 ar0 be0 me0 c0 A0 Q0 X hR => ?_)
  obtain ⟨hF6, hF1a, hF1b, hTs, hTk⟩ := hT
  have t0 := hTk idx hi
  have hCN := hI.cn
  obtain ⟨hc0, hc1, hc2, hc3, hNM, hU, hx0, hx1⟩ := hI
  refine zg_blk pok2 X 6 [6, 7] (S' := (8, [(3, zI (CN 2)), (0, zR (c 0)), (1, zR (a 2)), (2, zI 2)], [zI (CN 2)], ((tW a (FA K S V F idx) B K S V) ++ (cW c G CN NM MK TP PP CO KN)))) rfl ⟨rfl, rfl, rfl, (show zidx 2 8 from by unfold zidx; omega), trivial⟩ ?_
  refine zg_gst X (j := 20) rfl rfl rfl ?_
  refine zg_blk pok2 X 1 [] (S' := (12, [(3, zI (CN 2)), (0, zR (c 0)), (1, zR (a 2)), (2, zI 2)], [zI 2, zR (ex 20), zI (CN 2)], ((tW a (FA K S V F idx) B K S V) ++ (cW c G CN NM MK TP PP CO KN)))) rfl trivial ?_
  refine zg_rld X (j := 20) (row := [4, 10, 8, 6]) rfl rfl (by omega) ?_
  refine zg_cv (S2 := (13, [(3, zI (CN 2)), (0, zR (c 0)), (1, zR (a 2)), (2, zI 2)], [zI 8, zI (CN 2)], ((tW a (FA K S V F idx) B K S V) ++ (cW c G CN NM MK TP PP CO KN)))) rfl ?_
  refine zg_icmp X 22 rfl rfl (by first | (unfold zin; omega) | exact zand_in _ _) (by first | (unfold zin; omega) | exact zand_in _ _) (fun g1 => ?_) (fun g1 => ?_)
  · simp only [x_cnd] at g1
    refine zg_blk pok2 X 1 [] (S' := (23, [(3, zI (CN 2)), (0, zR (c 0)), (1, zR (a 2)), (2, zI 2)], [zR (a 2)], ((tW a (FA K S V F idx) B K S V) ++ (cW c G CN NM MK TP PP CO KN)))) rfl trivial ?_
    refine zg_callV pok2 EWX_ok X 2 (vas := []) (vr := []) (Y1 := (tW a (FA K S V F idx) B K S V)) (Y2 := (cW c G CN NM MK TP PP CO KN)) rfl rfl (Or.inl rfl) zj_X10_step rfl rfl rfl rfl (Nat.le_of_ble_eq_true rfl) rfl (zm_step (F := (FA K S V F idx)) (show F 1 ≤ 941 by omega) (show -1 ≤ ((idx : Nat) : Int) ∧ ((idx : Nat) : Int) < 941 by omega) (show -2147483648 ≤ F 6 ∧ F 6 < 2147483648 by omega) (show 0 ≤ F 1 by omega)) ⟨by decide, by decide, by decide, by decide⟩ (fun z9 Y9 hz => ?_)
    obtain ⟨rfl, rfl⟩ := hz
    have i1 : (((idx + 1) : Nat) : Int) < F 1 := by
      have h9 := hTs idx hi (by omega) (by omega)
      omega
    have t1 := hTk (idx + 1) i1
    rw [FA_step hF6 (by omega)]
    refine zg_blk pok2 X 3 [2] (S' := (31, [(3, zI (CN 2)), (0, zR (c 0)), (1, zR (a 2)), (2, zI 2)], [zI 1, zI (K (idx + 1))], ((tW a (FA K S V F (idx + 1)) B K S V) ++ (cW c G CN NM MK TP PP CO KN)))) rfl ⟨rfl, trivial⟩ ?_
    refine zg_icmp X 40 rfl rfl (by first | (unfold zin; omega) | exact zand_in _ _) (by first | (unfold zin; omega) | exact zand_in _ _) (fun g2 => ?_) (fun g2 => ?_)
    · simp only [x_cnd] at g2
      refine zg_blk pok2 X 3 [2] (S' := (45, [(3, zI (CN 2)), (0, zR (c 0)), (1, zR (a 2)), (2, zI 2)], [zL (V (idx + 1)), zR (c 0)], ((tW a (FA K S V F (idx + 1)) B K S V) ++ (cW c G CN NM MK TP PP CO KN)))) rfl ⟨rfl, trivial⟩ ?_
      refine zg_callV pok2 EWX_ok X 6 (vas := [zL (V (idx + 1))]) (vr := []) (Y1 := ((tW a (FA K S V F (idx + 1)) B K S V) ++ (cW c G CN NM MK TP PP CO KN))) (Y2 := []) rfl rfl (Or.inl rfl) zj_X1_find rfl rfl rfl rfl (Nat.le_of_ble_eq_true rfl) rfl (zm_find hCN hNM (t1.2.2.1 (by omega))) ⟨by decide, by decide, by decide, by decide⟩ (fun z9 Y9 hz => ?_)
      obtain ⟨rfl, rfl⟩ := hz
      have hfo := fnd_ok (s := 0) (key := V (idx + 1)) hCN hU (by omega)
      refine zg_blk pok2 X 1 [] (S' := (49, [(3, zI (CN 2)), (0, zR (c 0)), (1, zR (a 2)), (2, zI 2)], [zI (-1), zI (fnd CN NM (V (idx + 1)))], ((tW a (FA K S V F (idx + 1)) B K S V) ++ (cW c G CN NM MK TP PP CO KN)))) rfl trivial ?_
      refine zg_icmp X 58 rfl rfl (by first | (unfold zin; omega) | exact zand_in _ _) (by first | (unfold zin; omega) | exact zand_in _ _) (fun g3 => ?_) (fun g3 => ?_)
      · simp only [x_cnd] at g3
        refine zg_blk pok2 X 18 [6, 2, 8, 6, 7] (S' := (83, [(3, zI (CN 2)), (0, zR (c 0)), (1, zR (a 2)), (2, zI 2)], [zR (a 2)], ((tW a (FA K S V F (idx + 1)) B K S V) ++ (cW c G (zup CN 2 ((CN 2) + 1)) (zup NM ((20 + (CN 2)).toNat) (V (idx + 1))) MK TP PP CO KN)))) rfl ⟨rfl, rfl, rfl, (show zidx (20 + (CN 2)) 40 from by unfold zidx; omega), rfl, rfl, rfl, (show zidx 2 8 from by unfold zidx; omega), trivial⟩ ?_
        refine zg_callV pok2 EWX_ok X 2 (vas := []) (vr := []) (Y1 := (tW a (FA K S V F (idx + 1)) B K S V)) (Y2 := (cW c G (zup CN 2 ((CN 2) + 1)) (zup NM ((20 + (CN 2)).toNat) (V (idx + 1))) MK TP PP CO KN)) rfl rfl (Or.inl rfl) zj_X10_step rfl rfl rfl rfl (Nat.le_of_ble_eq_true rfl) rfl (zm_step (F := (FA K S V F (idx + 1))) (show F 1 ≤ 941 by omega) (show -1 ≤ (((idx + 1) : Nat) : Int) ∧ (((idx + 1) : Nat) : Int) < 941 by omega) (show -2147483648 ≤ F 6 ∧ F 6 < 2147483648 by omega) (show 0 ≤ F 1 by omega)) ⟨by decide, by decide, by decide, by decide⟩ (fun z9 Y9 hz => ?_)
        obtain ⟨rfl, rfl⟩ := hz
        have hreg : (∀ t, t < 4 → 0 ≤ (zup CN 2 ((CN 2) + 1)) t ∧ (zup CN 2 ((CN 2) + 1)) t ≤ 10) ∧ (∀ k, zin64 ((zup NM ((20 + (CN 2)).toNat) (V (idx + 1))) k)) ∧ Uq (zup CN 2 ((CN 2) + 1)) (zup NM ((20 + (CN 2)).toNat) (V (idx + 1))) := by
          have h9 := reg_ok (s := 2) (key := V (idx + 1)) hCN hNM hU (by omega) (by omega) (t1.2.2.1 (by omega)) (by omega)
          exact h9
        have i2 : (((idx + 2) : Nat) : Int) < F 1 := by
          have h9 := hTs (idx + 1) i1 (by omega) (by omega)
          omega
        have t2 := hTk (idx + 2) i2
        rw [FA_step hF6 (by omega)]
        refine zg_blk pok2 X 2 [] (S' := (88, [(3, zI (CN 2)), (0, zR (c 0)), (1, zR (a 2)), (2, zI 2)], [zI 2, zI 2], ((tW a (FA K S V F (idx + 2)) B K S V) ++ (cW c G (zup CN 2 ((CN 2) + 1)) (zup NM ((20 + (CN 2)).toNat) (V (idx + 1))) MK TP PP CO KN)))) rfl trivial ?_
        refine zg_icmp X 110 rfl rfl (by first | (unfold zin; omega) | exact zand_in _ _) (by first | (unfold zin; omega) | exact zand_in _ _) (fun g4 => ?_) (fun g4 => ?_)
        · exact absurd (show ¬ (2 : Int) = (2 : Int) from g4) (by decide)
        · simp only [x_ncd] at g4
          refine zg_blk pok2 X 6 [6] (S' := (99, [(3, zI (CN 2)), (0, zR (c 0)), (1, zR (a 2)), (2, zI 2)], [zI 0, zR (a 2), zR (c 0), zI (CN 2), zR (c 4)], ((tW a (FA K S V F (idx + 2)) B K S V) ++ (cW c G (zup CN 2 ((CN 2) + 1)) (zup NM ((20 + (CN 2)).toNat) (V (idx + 1))) MK TP PP CO KN)))) rfl ⟨rfl, trivial⟩ ?_
          refine zg_callV pok2 EWX_ok X 6 (vas := [zR (a 2), zI 0]) (vr := [zI (CN 2), zR (c 4)]) (Y1 := ((tW a (FA K S V F (idx + 2)) B K S V) ++ (cW c G (zup CN 2 ((CN 2) + 1)) (zup NM ((20 + (CN 2)).toNat) (V (idx + 1))) MK TP PP CO KN))) (Y2 := []) rfl rfl (Or.inl rfl) zj_X1_toldHere rfl rfl rfl rfl (Nat.le_of_ble_eq_true rfl) rfl (zm_toldHereA (sN := 0) (idx := (idx + 2)) (by omega) hreg.1 hreg.2.1 hreg.2.2 ⟨hF6, hF1a, hF1b, hTs, hTk⟩ i2) ⟨by decide, by decide, by decide, by decide⟩ (fun z9 Y9 hz => ?_)
          rcases hz with ⟨ht1, rfl, rfl⟩ | ⟨ht1, rfl, F9b, hfd, rfl⟩
          · have hk1 := (td_ne ht1).1
            have hl1 := (td_ne ht1).2
            have hr1 := lkS_rng (NM := (zup NM ((20 + (CN 2)).toNat) (V (idx + 1)))) (key := V (idx + 2)) (hreg.1 0 (by omega))
            refine zg_blk pok2 X 2 [10] (S' := (104, [(3, zI (CN 2)), (0, zR (c 0)), (1, zR (a 2)), (2, zI 2)], [zR (a 2)], ((tW a (FA K S V F (idx + 2)) B K S V) ++ (cW c G (zup CN 2 ((CN 2) + 1)) (zup NM ((20 + (CN 2)).toNat) (V (idx + 1))) MK (zup TP ((CN 2).toNat) (lkS (zup CN 2 ((CN 2) + 1)) (zup NM ((20 + (CN 2)).toNat) (V (idx + 1))) 0 (V (idx + 2)))) PP CO KN)))) rfl ⟨rfl, rfl, (show zidx (CN 2) 8 from by unfold zidx; omega), trivial⟩ ?_
            refine zg_callV pok2 EWX_ok X 2 (vas := []) (vr := []) (Y1 := (tW a (FA K S V F (idx + 2)) B K S V)) (Y2 := (cW c G (zup CN 2 ((CN 2) + 1)) (zup NM ((20 + (CN 2)).toNat) (V (idx + 1))) MK (zup TP ((CN 2).toNat) (lkS (zup CN 2 ((CN 2) + 1)) (zup NM ((20 + (CN 2)).toNat) (V (idx + 1))) 0 (V (idx + 2)))) PP CO KN)) rfl rfl (Or.inl rfl) zj_X10_step rfl rfl rfl rfl (Nat.le_of_ble_eq_true rfl) rfl (zm_step (F := (FA K S V F (idx + 2))) (show F 1 ≤ 941 by omega) (show -1 ≤ (((idx + 2) : Nat) : Int) ∧ (((idx + 2) : Nat) : Int) < 941 by omega) (show -2147483648 ≤ F 6 ∧ F 6 < 2147483648 by omega) (show 0 ≤ F 1 by omega)) ⟨by decide, by decide, by decide, by decide⟩ (fun z9 Y9 hz => ?_)
            obtain ⟨rfl, rfl⟩ := hz
            have i3 : (((idx + 3) : Nat) : Int) < F 1 := by
              have h9 := hTs (idx + 2) i2 (by omega) (by omega)
              omega
            have t3 := hTk (idx + 3) i3
            rw [FA_step hF6 (by omega)]
            refine zg_blk pok2 X 1 [] (S' := (121, [(3, zI (CN 2)), (0, zR (c 0)), (1, zR (a 2)), (2, zI 2)], [], ((tW a (FA K S V F (idx + 3)) B K S V) ++ (cW c G (zup CN 2 ((CN 2) + 1)) (zup NM ((20 + (CN 2)).toNat) (V (idx + 1))) MK (zup TP ((CN 2).toNat) (lkS (zup CN 2 ((CN 2) + 1)) (zup NM ((20 + (CN 2)).toNat) (V (idx + 1))) 0 (V (idx + 2)))) PP CO KN)))) rfl trivial ?_
            refine zg_retv X hR rfl rfl (by decide) (by decide) ?_
            refine ⟨rfl, _, _, _, _, _, _, _, _, _, ?_, rfl⟩
            unfold aThing aReg
            rw [if_neg (by omega), if_pos (by omega), if_pos (by omega)]
            dsimp only
            rw [if_pos ht1]
            exact Or.inl ⟨rfl, rfl, rfl, rfl, rfl, rfl, hG⟩
          · refine zg_blk pok2 X 2 [10] (S' := (104, [(3, zI (CN 2)), (0, zR (c 0)), (1, zR (a 2)), (2, zI 2)], [zR (a 2)], ((tW a F9b B K S V) ++ (cW c G (zup CN 2 ((CN 2) + 1)) (zup NM ((20 + (CN 2)).toNat) (V (idx + 1))) MK (zup TP ((CN 2).toNat) (-1)) PP CO KN)))) rfl ⟨rfl, rfl, (show zidx (CN 2) 8 from by unfold zidx; omega), trivial⟩ ?_
            refine zg_callV pok2 EWX_ok X 2 (vas := []) (vr := []) (Y1 := (tW a F9b B K S V)) (Y2 := (cW c G (zup CN 2 ((CN 2) + 1)) (zup NM ((20 + (CN 2)).toNat) (V (idx + 1))) MK (zup TP ((CN 2).toNat) (-1)) PP CO KN)) rfl rfl (Or.inl rfl) zj_X10_step rfl rfl rfl rfl (Nat.le_of_ble_eq_true rfl) rfl (zm_stepX hfd) ⟨by decide, by decide, by decide, by decide⟩ (fun z9 Y9 hz => ?_)
            obtain ⟨rfl, rfl⟩ := hz
            refine zg_blk pok2 X 1 [] (S' := (121, [(3, zI (CN 2)), (0, zR (c 0)), (1, zR (a 2)), (2, zI 2)], [], ((tW a F9b B K S V) ++ (cW c G (zup CN 2 ((CN 2) + 1)) (zup NM ((20 + (CN 2)).toNat) (V (idx + 1))) MK (zup TP ((CN 2).toNat) (-1)) PP CO KN)))) rfl trivial ?_
            refine zg_retv X hR rfl rfl (by decide) (by decide) ?_
            refine ⟨rfl, _, _, _, _, _, _, _, _, _, ?_, rfl⟩
            unfold aThing aReg
            rw [if_neg (by omega), if_pos (by omega), if_pos (by omega)]
            dsimp only
            rw [if_neg ht1]
            exact Or.inr ⟨ht1, hfd⟩
      · simp only [x_ncd] at g3
        refine zg_blk pok2 X 2 [] (S' := (54, [(3, zI (CN 2)), (0, zR (c 0)), (1, zR (a 2)), (2, zI 2)], [zI 3, zR (a 2)], ((tW a (FA K S V F (idx + 1)) B K S V) ++ (cW c G CN NM MK TP PP CO KN)))) rfl trivial ?_
        refine zg_callV pok2 EWX_ok X 2 (vas := [zI 3]) (vr := []) (Y1 := (tW a (FA K S V F (idx + 1)) B K S V)) (Y2 := (cW c G CN NM MK TP PP CO KN)) rfl rfl (Or.inl rfl) zj_X10_fail rfl rfl rfl rfl (Nat.le_of_ble_eq_true rfl) rfl (zm_fail (F := (FA K S V F (idx + 1))) (show -2147483648 ≤ F 6 ∧ F 6 < 2147483648 by omega)) ⟨by decide, by decide, by decide, by decide⟩ (fun z9 Y9 hz => ?_)
        obtain ⟨rfl, rfl⟩ := hz
        have hfd := FA_fail (K := K) (S := S) (V := V) (F := F) (idx := (idx + 1)) (m := 3) hF6 (by decide) (by decide)
        refine zg_retv X hR rfl rfl (by decide) (by decide) ?_
        refine ⟨rfl, _, _, _, _, _, _, _, _, _, ?_, rfl⟩
        unfold aThing aReg
        rw [if_neg (by omega), if_pos (by omega), if_neg (by omega)]
        exact Or.inr ⟨bad_ne (by decide), hfd⟩
    · simp only [x_ncd] at g2
      refine zg_blk pok2 X 2 [] (S' := (36, [(3, zI (CN 2)), (0, zR (c 0)), (1, zR (a 2)), (2, zI 2)], [zI 1, zR (a 2)], ((tW a (FA K S V F (idx + 1)) B K S V) ++ (cW c G CN NM MK TP PP CO KN)))) rfl trivial ?_
      refine zg_callV pok2 EWX_ok X 2 (vas := [zI 1]) (vr := []) (Y1 := (tW a (FA K S V F (idx + 1)) B K S V)) (Y2 := (cW c G CN NM MK TP PP CO KN)) rfl rfl (Or.inl rfl) zj_X10_fail rfl rfl rfl rfl (Nat.le_of_ble_eq_true rfl) rfl (zm_fail (F := (FA K S V F (idx + 1))) (show -2147483648 ≤ F 6 ∧ F 6 < 2147483648 by omega)) ⟨by decide, by decide, by decide, by decide⟩ (fun z9 Y9 hz => ?_)
      obtain ⟨rfl, rfl⟩ := hz
      have hfd := FA_fail (K := K) (S := S) (V := V) (F := F) (idx := (idx + 1)) (m := 1) hF6 (by decide) (by decide)
      refine zg_retv X hR rfl rfl (by decide) (by decide) ?_
      refine ⟨rfl, _, _, _, _, _, _, _, _, _, ?_, rfl⟩
      unfold aThing aReg
      rw [if_neg (by omega), if_neg (by omega)]
      exact Or.inr ⟨bad_ne (by decide), hfd⟩
  · simp only [x_ncd] at g1
    refine zg_blk pok2 X 2 [] (S' := (18, [(3, zI (CN 2)), (0, zR (c 0)), (1, zR (a 2)), (2, zI 2)], [zI 4, zR (a 2)], ((tW a (FA K S V F idx) B K S V) ++ (cW c G CN NM MK TP PP CO KN)))) rfl trivial ?_
    refine zg_callV pok2 EWX_ok X 2 (vas := [zI 4]) (vr := []) (Y1 := (tW a (FA K S V F idx) B K S V)) (Y2 := (cW c G CN NM MK TP PP CO KN)) rfl rfl (Or.inl rfl) zj_X10_fail rfl rfl rfl rfl (Nat.le_of_ble_eq_true rfl) rfl (zm_fail (F := (FA K S V F idx)) (show -2147483648 ≤ F 6 ∧ F 6 < 2147483648 by omega)) ⟨by decide, by decide, by decide, by decide⟩ (fun z9 Y9 hz => ?_)
    obtain ⟨rfl, rfl⟩ := hz
    have hfd := FA_fail (K := K) (S := S) (V := V) (F := F) (idx := idx) (m := 4) hF6 (by decide) (by decide)
    refine zg_retv X hR rfl rfl (by decide) (by decide) ?_
    refine ⟨rfl, _, _, _, _, _, _, _, _, _, ?_, rfl⟩
    unfold aThing aReg
    rw [if_pos (by omega)]
    exact Or.inr ⟨bad_ne (by decide), hfd⟩
set_option maxRecDepth 4000 in
theorem zm_readNew3 (hk0 : K idx = 2) (hT : TT F K S V) (hi : (idx : Int) < F 1) (hI : INV CN NM x) (hG : G 1 = 16 * x) : ZMet (EWX xs) D cy l ex mt2_X1_readNew (3, 0, 0, 69) (tW a (FA K S V F idx) B K S V ++ cW c G CN NM MK TP PP CO KN) [zR (c 0), zR (a 2), zI 3] (fun z Y => z = none ∧ ∃ F9 G9 CN9 NM9 MK9 TP9 PP9 CO9 KN9 : Nat → Int, cM K S V F (aPerson K V CN NM MK KN x idx) F9 G9 CN9 NM9 MK9 KN9 ∧ Y = tW a F9 B K S V ++ cW c G9 CN9 NM9 MK9 TP9 PP9 CO9 KN9) := by
  obtain ⟨mok, tok, ow⟩ := pok2.1 _ _ zj_X1_readNew
  refine met_ofz EWX_ok mok tok ow (Nat.le_of_ble_eq_true rfl) (fun r p0 e0 s0 m0 ar0 be0 me0 c0 A0 Q0 X hR => ?_)
  obtain ⟨hF6, hF1a, hF1b, hTs, hTk⟩ := hT
  have t0 := hTk idx hi
  have hCN := hI.cn
  obtain ⟨hc0, hc1, hc2, hc3, hNM, hU, hx0, hx1⟩ := hI
  refine zg_blk pok2 X 6 [6, 7] (S' := (8, [(3, zI (CN 3)), (0, zR (c 0)), (1, zR (a 2)), (2, zI 3)], [zI (CN 3)], ((tW a (FA K S V F idx) B K S V) ++ (cW c G CN NM MK TP PP CO KN)))) rfl ⟨rfl, rfl, rfl, (show zidx 3 8 from by unfold zidx; omega), trivial⟩ ?_
  refine zg_gst X (j := 20) rfl rfl rfl ?_
  refine zg_blk pok2 X 1 [] (S' := (12, [(3, zI (CN 3)), (0, zR (c 0)), (1, zR (a 2)), (2, zI 3)], [zI 3, zR (ex 20), zI (CN 3)], ((tW a (FA K S V F idx) B K S V) ++ (cW c G CN NM MK TP PP CO KN)))) rfl trivial ?_
  refine zg_rld X (j := 20) (row := [4, 10, 8, 6]) rfl rfl (by omega) ?_
  refine zg_cv (S2 := (13, [(3, zI (CN 3)), (0, zR (c 0)), (1, zR (a 2)), (2, zI 3)], [zI 6, zI (CN 3)], ((tW a (FA K S V F idx) B K S V) ++ (cW c G CN NM MK TP PP CO KN)))) rfl ?_
  refine zg_icmp X 22 rfl rfl (by first | (unfold zin; omega) | exact zand_in _ _) (by first | (unfold zin; omega) | exact zand_in _ _) (fun g1 => ?_) (fun g1 => ?_)
  · simp only [x_cnd] at g1
    refine zg_blk pok2 X 1 [] (S' := (23, [(3, zI (CN 3)), (0, zR (c 0)), (1, zR (a 2)), (2, zI 3)], [zR (a 2)], ((tW a (FA K S V F idx) B K S V) ++ (cW c G CN NM MK TP PP CO KN)))) rfl trivial ?_
    refine zg_callV pok2 EWX_ok X 2 (vas := []) (vr := []) (Y1 := (tW a (FA K S V F idx) B K S V)) (Y2 := (cW c G CN NM MK TP PP CO KN)) rfl rfl (Or.inl rfl) zj_X10_step rfl rfl rfl rfl (Nat.le_of_ble_eq_true rfl) rfl (zm_step (F := (FA K S V F idx)) (show F 1 ≤ 941 by omega) (show -1 ≤ ((idx : Nat) : Int) ∧ ((idx : Nat) : Int) < 941 by omega) (show -2147483648 ≤ F 6 ∧ F 6 < 2147483648 by omega) (show 0 ≤ F 1 by omega)) ⟨by decide, by decide, by decide, by decide⟩ (fun z9 Y9 hz => ?_)
    obtain ⟨rfl, rfl⟩ := hz
    have i1 : (((idx + 1) : Nat) : Int) < F 1 := by
      have h9 := hTs idx hi (by omega) (by omega)
      omega
    have t1 := hTk (idx + 1) i1
    rw [FA_step hF6 (by omega)]
    refine zg_blk pok2 X 3 [2] (S' := (31, [(3, zI (CN 3)), (0, zR (c 0)), (1, zR (a 2)), (2, zI 3)], [zI 1, zI (K (idx + 1))], ((tW a (FA K S V F (idx + 1)) B K S V) ++ (cW c G CN NM MK TP PP CO KN)))) rfl ⟨rfl, trivial⟩ ?_
    refine zg_icmp X 40 rfl rfl (by first | (unfold zin; omega) | exact zand_in _ _) (by first | (unfold zin; omega) | exact zand_in _ _) (fun g2 => ?_) (fun g2 => ?_)
    · simp only [x_cnd] at g2
      refine zg_blk pok2 X 3 [2] (S' := (45, [(3, zI (CN 3)), (0, zR (c 0)), (1, zR (a 2)), (2, zI 3)], [zL (V (idx + 1)), zR (c 0)], ((tW a (FA K S V F (idx + 1)) B K S V) ++ (cW c G CN NM MK TP PP CO KN)))) rfl ⟨rfl, trivial⟩ ?_
      refine zg_callV pok2 EWX_ok X 6 (vas := [zL (V (idx + 1))]) (vr := []) (Y1 := ((tW a (FA K S V F (idx + 1)) B K S V) ++ (cW c G CN NM MK TP PP CO KN))) (Y2 := []) rfl rfl (Or.inl rfl) zj_X1_find rfl rfl rfl rfl (Nat.le_of_ble_eq_true rfl) rfl (zm_find hCN hNM (t1.2.2.1 (by omega))) ⟨by decide, by decide, by decide, by decide⟩ (fun z9 Y9 hz => ?_)
      obtain ⟨rfl, rfl⟩ := hz
      have hfo := fnd_ok (s := 0) (key := V (idx + 1)) hCN hU (by omega)
      refine zg_blk pok2 X 1 [] (S' := (49, [(3, zI (CN 3)), (0, zR (c 0)), (1, zR (a 2)), (2, zI 3)], [zI (-1), zI (fnd CN NM (V (idx + 1)))], ((tW a (FA K S V F (idx + 1)) B K S V) ++ (cW c G CN NM MK TP PP CO KN)))) rfl trivial ?_
      refine zg_icmp X 58 rfl rfl (by first | (unfold zin; omega) | exact zand_in _ _) (by first | (unfold zin; omega) | exact zand_in _ _) (fun g3 => ?_) (fun g3 => ?_)
      · simp only [x_cnd] at g3
        refine zg_blk pok2 X 18 [6, 2, 8, 6, 7] (S' := (83, [(3, zI (CN 3)), (0, zR (c 0)), (1, zR (a 2)), (2, zI 3)], [zR (a 2)], ((tW a (FA K S V F (idx + 1)) B K S V) ++ (cW c G (zup CN 3 ((CN 3) + 1)) (zup NM ((30 + (CN 3)).toNat) (V (idx + 1))) MK TP PP CO KN)))) rfl ⟨rfl, rfl, rfl, (show zidx (30 + (CN 3)) 40 from by unfold zidx; omega), rfl, rfl, rfl, (show zidx 3 8 from by unfold zidx; omega), trivial⟩ ?_
        refine zg_callV pok2 EWX_ok X 2 (vas := []) (vr := []) (Y1 := (tW a (FA K S V F (idx + 1)) B K S V)) (Y2 := (cW c G (zup CN 3 ((CN 3) + 1)) (zup NM ((30 + (CN 3)).toNat) (V (idx + 1))) MK TP PP CO KN)) rfl rfl (Or.inl rfl) zj_X10_step rfl rfl rfl rfl (Nat.le_of_ble_eq_true rfl) rfl (zm_step (F := (FA K S V F (idx + 1))) (show F 1 ≤ 941 by omega) (show -1 ≤ (((idx + 1) : Nat) : Int) ∧ (((idx + 1) : Nat) : Int) < 941 by omega) (show -2147483648 ≤ F 6 ∧ F 6 < 2147483648 by omega) (show 0 ≤ F 1 by omega)) ⟨by decide, by decide, by decide, by decide⟩ (fun z9 Y9 hz => ?_)
        obtain ⟨rfl, rfl⟩ := hz
        have hreg : (∀ t, t < 4 → 0 ≤ (zup CN 3 ((CN 3) + 1)) t ∧ (zup CN 3 ((CN 3) + 1)) t ≤ 10) ∧ (∀ k, zin64 ((zup NM ((30 + (CN 3)).toNat) (V (idx + 1))) k)) ∧ Uq (zup CN 3 ((CN 3) + 1)) (zup NM ((30 + (CN 3)).toNat) (V (idx + 1))) := by
          have h9 := reg_ok (s := 3) (key := V (idx + 1)) hCN hNM hU (by omega) (by omega) (t1.2.2.1 (by omega)) (by omega)
          exact h9
        have i2 : (((idx + 2) : Nat) : Int) < F 1 := by
          have h9 := hTs (idx + 1) i1 (by omega) (by omega)
          omega
        have t2 := hTk (idx + 2) i2
        rw [FA_step hF6 (by omega)]
        refine zg_blk pok2 X 2 [] (S' := (88, [(3, zI (CN 3)), (0, zR (c 0)), (1, zR (a 2)), (2, zI 3)], [zI 2, zI 3], ((tW a (FA K S V F (idx + 2)) B K S V) ++ (cW c G (zup CN 3 ((CN 3) + 1)) (zup NM ((30 + (CN 3)).toNat) (V (idx + 1))) MK TP PP CO KN)))) rfl trivial ?_
        refine zg_icmp X 110 rfl rfl (by first | (unfold zin; omega) | exact zand_in _ _) (by first | (unfold zin; omega) | exact zand_in _ _) (fun g4 => ?_) (fun g4 => ?_)
        · simp only [x_cnd] at g4
          refine zg_blk pok2 X 2 [] (S' := (112, [(3, zI (CN 3)), (0, zR (c 0)), (1, zR (a 2)), (2, zI 3)], [zI 3, zI 3], ((tW a (FA K S V F (idx + 2)) B K S V) ++ (cW c G (zup CN 3 ((CN 3) + 1)) (zup NM ((30 + (CN 3)).toNat) (V (idx + 1))) MK TP PP CO KN)))) rfl trivial ?_
          refine zg_icmp X 121 rfl rfl (by first | (unfold zin; omega) | exact zand_in _ _) (by first | (unfold zin; omega) | exact zand_in _ _) (fun g5 => ?_) (fun g5 => ?_)
          · exact absurd (show ¬ (3 : Int) = (3 : Int) from g5) (by decide)
          · simp only [x_ncd] at g5
            refine zg_blk pok2 X 3 [] (S' := (118, [(3, zI (CN 3)), (0, zR (c 0)), (1, zR (a 2)), (2, zI 3)], [zI (CN 3), zR (a 2), zR (c 0)], ((tW a (FA K S V F (idx + 2)) B K S V) ++ (cW c G (zup CN 3 ((CN 3) + 1)) (zup NM ((30 + (CN 3)).toNat) (V (idx + 1))) MK TP PP CO KN)))) rfl trivial ?_
            refine zg_callV pok2 EWX_ok X 6 (vas := [zR (a 2), zI (CN 3)]) (vr := []) (Y1 := ((tW a (FA K S V F (idx + 2)) B K S V) ++ (cW c G (zup CN 3 ((CN 3) + 1)) (zup NM ((30 + (CN 3)).toNat) (V (idx + 1))) MK TP PP CO KN))) (Y2 := []) rfl rfl (Or.inl rfl) zj_X1_readPerson rfl rfl rfl rfl (Nat.le_of_ble_eq_true rfl) rfl (zm_readPerson (idx := (idx + 2)) (CN := (zup CN 3 ((CN 3) + 1))) (NM := (zup NM ((30 + (CN 3)).toNat) (V (idx + 1)))) (by omega) ⟨hF6, hF1a, hF1b, hTs, hTk⟩ i2 hreg.1 hreg.2.1 hreg.2.2 hG) ⟨by decide, by decide, by decide, by decide⟩ (fun z9 Y9 hz => ?_)
            obtain ⟨rfl, F9, G9, CN9, NM9, MK9, TP9, PP9, CO9, KN9, hcm, rfl⟩ := hz
            refine zg_retv X hR rfl rfl (by decide) (by decide) ?_
            refine ⟨rfl, F9, G9, CN9, NM9, MK9, TP9, PP9, CO9, KN9, ?_, List.append_nil _⟩
            unfold aPerson aReg
            rw [if_neg (by omega), if_pos (by omega), if_pos (by omega)]
            exact hcm
        · exact absurd (show (3 : Int) = (2 : Int) from g4) (by decide)
      · simp only [x_ncd] at g3
        refine zg_blk pok2 X 2 [] (S' := (54, [(3, zI (CN 3)), (0, zR (c 0)), (1, zR (a 2)), (2, zI 3)], [zI 3, zR (a 2)], ((tW a (FA K S V F (idx + 1)) B K S V) ++ (cW c G CN NM MK TP PP CO KN)))) rfl trivial ?_
        refine zg_callV pok2 EWX_ok X 2 (vas := [zI 3]) (vr := []) (Y1 := (tW a (FA K S V F (idx + 1)) B K S V)) (Y2 := (cW c G CN NM MK TP PP CO KN)) rfl rfl (Or.inl rfl) zj_X10_fail rfl rfl rfl rfl (Nat.le_of_ble_eq_true rfl) rfl (zm_fail (F := (FA K S V F (idx + 1))) (show -2147483648 ≤ F 6 ∧ F 6 < 2147483648 by omega)) ⟨by decide, by decide, by decide, by decide⟩ (fun z9 Y9 hz => ?_)
        obtain ⟨rfl, rfl⟩ := hz
        have hfd := FA_fail (K := K) (S := S) (V := V) (F := F) (idx := (idx + 1)) (m := 3) hF6 (by decide) (by decide)
        refine zg_retv X hR rfl rfl (by decide) (by decide) ?_
        refine ⟨rfl, _, _, _, _, _, _, _, _, _, ?_, rfl⟩
        unfold aPerson aReg
        rw [if_neg (by omega), if_pos (by omega), if_neg (by omega)]
        exact Or.inr ⟨bad_ne (by decide), hfd⟩
    · simp only [x_ncd] at g2
      refine zg_blk pok2 X 2 [] (S' := (36, [(3, zI (CN 3)), (0, zR (c 0)), (1, zR (a 2)), (2, zI 3)], [zI 1, zR (a 2)], ((tW a (FA K S V F (idx + 1)) B K S V) ++ (cW c G CN NM MK TP PP CO KN)))) rfl trivial ?_
      refine zg_callV pok2 EWX_ok X 2 (vas := [zI 1]) (vr := []) (Y1 := (tW a (FA K S V F (idx + 1)) B K S V)) (Y2 := (cW c G CN NM MK TP PP CO KN)) rfl rfl (Or.inl rfl) zj_X10_fail rfl rfl rfl rfl (Nat.le_of_ble_eq_true rfl) rfl (zm_fail (F := (FA K S V F (idx + 1))) (show -2147483648 ≤ F 6 ∧ F 6 < 2147483648 by omega)) ⟨by decide, by decide, by decide, by decide⟩ (fun z9 Y9 hz => ?_)
      obtain ⟨rfl, rfl⟩ := hz
      have hfd := FA_fail (K := K) (S := S) (V := V) (F := F) (idx := (idx + 1)) (m := 1) hF6 (by decide) (by decide)
      refine zg_retv X hR rfl rfl (by decide) (by decide) ?_
      refine ⟨rfl, _, _, _, _, _, _, _, _, _, ?_, rfl⟩
      unfold aPerson aReg
      rw [if_neg (by omega), if_neg (by omega)]
      exact Or.inr ⟨bad_ne (by decide), hfd⟩
  · simp only [x_ncd] at g1
    refine zg_blk pok2 X 2 [] (S' := (18, [(3, zI (CN 3)), (0, zR (c 0)), (1, zR (a 2)), (2, zI 3)], [zI 4, zR (a 2)], ((tW a (FA K S V F idx) B K S V) ++ (cW c G CN NM MK TP PP CO KN)))) rfl trivial ?_
    refine zg_callV pok2 EWX_ok X 2 (vas := [zI 4]) (vr := []) (Y1 := (tW a (FA K S V F idx) B K S V)) (Y2 := (cW c G CN NM MK TP PP CO KN)) rfl rfl (Or.inl rfl) zj_X10_fail rfl rfl rfl rfl (Nat.le_of_ble_eq_true rfl) rfl (zm_fail (F := (FA K S V F idx)) (show -2147483648 ≤ F 6 ∧ F 6 < 2147483648 by omega)) ⟨by decide, by decide, by decide, by decide⟩ (fun z9 Y9 hz => ?_)
    obtain ⟨rfl, rfl⟩ := hz
    have hfd := FA_fail (K := K) (S := S) (V := V) (F := F) (idx := idx) (m := 4) hF6 (by decide) (by decide)
    refine zg_retv X hR rfl rfl (by decide) (by decide) ?_
    refine ⟨rfl, _, _, _, _, _, _, _, _, _, ?_, rfl⟩
    unfold aPerson aReg
    rw [if_pos (by omega)]
    exact Or.inr ⟨bad_ne (by decide), hfd⟩
set_option maxRecDepth 4000 in
theorem zm_plainWordA (hT : TT F K S V) (hi : (idx : Int) < F 1) : ZMet (EWX xs) D cy l ex mt2_X10_plainWord (0, 0, 0, 0) (tW a (FA K S V F idx) B K S V) [zR (a 2)] (fun z Y => (K idx = 2 ∧ z = some (zI (V idx)) ∧ Y = (tW a (FA K S V F idx) B K S V)) ∨ (¬ K idx = 2 ∧ z = some (zI (-1)) ∧ Y = (tW a (FA K S V F idx) B K S V))) := by
  obtain ⟨mok, tok, ow⟩ := pok2.1 _ _ zj_X10_plainWord
  refine met_ofz EWX_ok mok tok ow (Nat.le_of_ble_eq_true rfl) (fun r p0 e0 s0 m0 ar0 be0 me0 c0 A0 Q0 X hR => ?_)
  obtain ⟨hF6, hF1a, hF1b, hTs, hTk⟩ := hT
  have t0 := hTk idx hi
  refine zg_blk pok2 X 3 [2] (S' := (5, [(0, zR (a 2))], [zI 2, zI (K idx)], (tW a (FA K S V F idx) B K S V))) rfl ⟨rfl, trivial⟩ ?_
  refine zg_icmp X 16 rfl rfl (by unfold zin; omega) (by unfold zin; omega) (fun g1 => ?_) (fun g1 => ?_)
  · simp only [x_cnd] at g1
    refine zg_blk pok2 X 1 [] (S' := (17, [(0, zR (a 2))], [zI (-1)], (tW a (FA K S V F idx) B K S V))) rfl trivial ?_
    refine zg_reti X hR rfl rfl (by decide) (by decide) ?_
    first | exact Or.inl ⟨by omega, rfl, rfl⟩ | exact Or.inr ⟨by omega, rfl, rfl⟩
  · simp only [x_ncd] at g1
    refine zg_blk pok2 X 4 [2] (S' := (17, [(0, zR (a 2))], [zI (V idx)], (tW a (FA K S V F idx) B K S V))) rfl ⟨rfl, trivial⟩ ?_
    refine zg_reti X hR rfl rfl (by decide) (by decide) ?_
    first | exact Or.inl ⟨by omega, rfl, rfl⟩ | exact Or.inr ⟨by omega, rfl, rfl⟩
set_option maxRecDepth 4000 in
theorem zj_X1_readLine : PR2[217]? = some mt2_X1_readLine := rfl
set_option maxRecDepth 4000 in
theorem zm_readLine (hT : TT F K S V) (hi : (idx : Int) < F 1) (hI : INV CN NM x) (hG : G 1 = 16 * x) : ZMet (EWX xs) D cy l ex mt2_X1_readLine (4, 0, 0, 92) (tW a (FA K S V F idx) B K S V ++ cW c G CN NM MK TP PP CO KN) [zR (c 0), zR (a 2)] (fun z Y => z = none ∧ ∃ F9 G9 CN9 NM9 MK9 TP9 PP9 CO9 KN9 : Nat → Int, cM K S V F (aLine K V CN NM MK KN x idx) F9 G9 CN9 NM9 MK9 KN9 ∧ Y = tW a F9 B K S V ++ cW c G9 CN9 NM9 MK9 TP9 PP9 CO9 KN9) := by
  obtain ⟨mok, tok, ow⟩ := pok2.1 _ _ zj_X1_readLine
  refine met_ofz EWX_ok mok tok ow (Nat.le_of_ble_eq_true rfl) (fun r p0 e0 s0 m0 ar0 be0 me0 c0 A0 Q0 X hR => ?_)
  obtain ⟨hF6, hF1a, hF1b, hTs, hTk⟩ := hT
  have t0 := hTk idx hi
  have hCN := hI.cn
  obtain ⟨hc0, hc1, hc2, hc3, hNM, hU, hx0, hx1⟩ := hI
  refine zg_blk pok2 X 1 [] (S' := (1, [(0, zR (c 0)), (1, zR (a 2))], [zR (a 2)], ((tW a (FA K S V F idx) B K S V) ++ (cW c G CN NM MK TP PP CO KN)))) rfl trivial ?_
  refine zg_callV pok2 EWX_ok X 2 (vas := []) (vr := []) (Y1 := (tW a (FA K S V F idx) B K S V)) (Y2 := (cW c G CN NM MK TP PP CO KN)) rfl rfl (Or.inl rfl) zj_X10_plainWord rfl rfl rfl rfl (Nat.le_of_ble_eq_true rfl) rfl (zm_plainWordA ⟨hF6, hF1a, hF1b, hTs, hTk⟩ hi) ⟨by decide, by decide, by decide, by decide⟩ (fun z9 Y9 hz => ?_)
  rcases hz with ⟨hk0, rfl, rfl⟩ | ⟨hk0, rfl, rfl⟩
  · refine zg_blk pok2 X 2 [] (S' := (6, [(2, zI (V idx)), (0, zR (c 0)), (1, zR (a 2))], [zI (V idx)], ((tW a (FA K S V F idx) B K S V) ++ (cW c G CN NM MK TP PP CO KN)))) rfl trivial ?_
    rcases (show V idx = 0 ∨ V idx = 1 ∨ V idx = 2 ∨ V idx = 3 ∨ V idx = 4 ∨ V idx = 5 ∨ V idx = 6 ∨ V idx = 7 ∨ V idx = 8 ∨ V idx = 9 ∨ 10 ≤ V idx by omega) with hv | hv | hv | hv | hv | hv | hv | hv | hv | hv | hv
    · rw [hv]
      refine zg_tin X rfl (by first | (unfold zin; omega) | exact zand_in _ _) (by decide) (by decide) (by rfl) rfl ?_
      refine zg_blk pok2 X 3 [] (S' := (63, [(2, zI 0), (0, zR (c 0)), (1, zR (a 2))], [zI 0, zR (a 2), zR (c 0)], ((tW a (FA K S V F idx) B K S V) ++ (cW c G CN NM MK TP PP CO KN)))) rfl trivial ?_
      refine zg_callV pok2 EWX_ok X 6 (vas := [zR (a 2), zI 0]) (vr := []) (Y1 := ((tW a (FA K S V F idx) B K S V) ++ (cW c G CN NM MK TP PP CO KN))) (Y2 := []) rfl rfl (Or.inl rfl) zj_X1_readNew rfl rfl rfl rfl (Nat.le_of_ble_eq_true rfl) rfl (zm_readNew0 hk0 ⟨hF6, hF1a, hF1b, hTs, hTk⟩ hi ⟨hc0, hc1, hc2, hc3, hNM, hU, hx0, hx1⟩ hG) ⟨by decide, by decide, by decide, by decide⟩ (fun z9 Y9 hz => ?_)
      obtain ⟨rfl, F9, G9, CN9, NM9, MK9, TP9, PP9, CO9, KN9, hcm, rfl⟩ := hz
      refine zg_blk pok2 X 1 [] (S' := (117, [(2, zI 0), (0, zR (c 0)), (1, zR (a 2))], [], ((tW a F9 B K S V) ++ (cW c G9 CN9 NM9 MK9 TP9 PP9 CO9 KN9)))) rfl trivial ?_
      refine zg_retv X hR rfl rfl (by decide) (by decide) ?_
      refine ⟨rfl, F9, G9, CN9, NM9, MK9, TP9, PP9, CO9, KN9, ?_, rfl⟩
      rw [show aLine K V CN NM MK KN x idx = aPlain K V CN NM MK KN x 4 0 0 idx by unfold aLine; rw [if_pos hk0, hv]; rfl]
      exact hcm
    · rw [hv]
      refine zg_tin X rfl (by first | (unfold zin; omega) | exact zand_in _ _) (by decide) (by decide) (by rfl) rfl ?_
      refine zg_blk pok2 X 3 [] (S' := (63, [(2, zI 1), (0, zR (c 0)), (1, zR (a 2))], [zI 1, zR (a 2), zR (c 0)], ((tW a (FA K S V F idx) B K S V) ++ (cW c G CN NM MK TP PP CO KN)))) rfl trivial ?_
      refine zg_callV pok2 EWX_ok X 6 (vas := [zR (a 2), zI 1]) (vr := []) (Y1 := ((tW a (FA K S V F idx) B K S V) ++ (cW c G CN NM MK TP PP CO KN))) (Y2 := []) rfl rfl (Or.inl rfl) zj_X1_readNew rfl rfl rfl rfl (Nat.le_of_ble_eq_true rfl) rfl (zm_readNew1 hk0 ⟨hF6, hF1a, hF1b, hTs, hTk⟩ hi ⟨hc0, hc1, hc2, hc3, hNM, hU, hx0, hx1⟩ hG) ⟨by decide, by decide, by decide, by decide⟩ (fun z9 Y9 hz => ?_)
      obtain ⟨rfl, F9, G9, CN9, NM9, MK9, TP9, PP9, CO9, KN9, hcm, rfl⟩ := hz
      refine zg_blk pok2 X 1 [] (S' := (117, [(2, zI 1), (0, zR (c 0)), (1, zR (a 2))], [], ((tW a F9 B K S V) ++ (cW c G9 CN9 NM9 MK9 TP9 PP9 CO9 KN9)))) rfl trivial ?_
      refine zg_retv X hR rfl rfl (by decide) (by decide) ?_
      refine ⟨rfl, F9, G9, CN9, NM9, MK9, TP9, PP9, CO9, KN9, ?_, rfl⟩
      rw [show aLine K V CN NM MK KN x idx = aPlain K V CN NM MK KN x 10 10 1 idx by unfold aLine; rw [if_pos hk0, hv]; rfl]
      exact hcm
    · rw [hv]
      refine zg_tin X rfl (by first | (unfold zin; omega) | exact zand_in _ _) (by decide) (by decide) (by rfl) rfl ?_
      refine zg_blk pok2 X 3 [] (S' := (63, [(2, zI 2), (0, zR (c 0)), (1, zR (a 2))], [zI 2, zR (a 2), zR (c 0)], ((tW a (FA K S V F idx) B K S V) ++ (cW c G CN NM MK TP PP CO KN)))) rfl trivial ?_
      refine zg_callV pok2 EWX_ok X 6 (vas := [zR (a 2), zI 2]) (vr := []) (Y1 := ((tW a (FA K S V F idx) B K S V) ++ (cW c G CN NM MK TP PP CO KN))) (Y2 := []) rfl rfl (Or.inl rfl) zj_X1_readNew rfl rfl rfl rfl (Nat.le_of_ble_eq_true rfl) rfl (zm_readNew2 hk0 ⟨hF6, hF1a, hF1b, hTs, hTk⟩ hi ⟨hc0, hc1, hc2, hc3, hNM, hU, hx0, hx1⟩ hG) ⟨by decide, by decide, by decide, by decide⟩ (fun z9 Y9 hz => ?_)
      obtain ⟨rfl, F9, G9, CN9, NM9, MK9, TP9, PP9, CO9, KN9, hcm, rfl⟩ := hz
      refine zg_blk pok2 X 1 [] (S' := (117, [(2, zI 2), (0, zR (c 0)), (1, zR (a 2))], [], ((tW a F9 B K S V) ++ (cW c G9 CN9 NM9 MK9 TP9 PP9 CO9 KN9)))) rfl trivial ?_
      refine zg_retv X hR rfl rfl (by decide) (by decide) ?_
      refine ⟨rfl, F9, G9, CN9, NM9, MK9, TP9, PP9, CO9, KN9, ?_, rfl⟩
      rw [show aLine K V CN NM MK KN x idx = aThing K V CN NM MK KN x idx by unfold aLine; rw [if_pos hk0, hv]; rfl]
      exact hcm
    · rw [hv]
      refine zg_tin X rfl (by first | (unfold zin; omega) | exact zand_in _ _) (by decide) (by decide) (by rfl) rfl ?_
      refine zg_blk pok2 X 3 [] (S' := (63, [(2, zI 3), (0, zR (c 0)), (1, zR (a 2))], [zI 3, zR (a 2), zR (c 0)], ((tW a (FA K S V F idx) B K S V) ++ (cW c G CN NM MK TP PP CO KN)))) rfl trivial ?_
      refine zg_callV pok2 EWX_ok X 6 (vas := [zR (a 2), zI 3]) (vr := []) (Y1 := ((tW a (FA K S V F idx) B K S V) ++ (cW c G CN NM MK TP PP CO KN))) (Y2 := []) rfl rfl (Or.inl rfl) zj_X1_readNew rfl rfl rfl rfl (Nat.le_of_ble_eq_true rfl) rfl (zm_readNew3 hk0 ⟨hF6, hF1a, hF1b, hTs, hTk⟩ hi ⟨hc0, hc1, hc2, hc3, hNM, hU, hx0, hx1⟩ hG) ⟨by decide, by decide, by decide, by decide⟩ (fun z9 Y9 hz => ?_)
      obtain ⟨rfl, F9, G9, CN9, NM9, MK9, TP9, PP9, CO9, KN9, hcm, rfl⟩ := hz
      refine zg_blk pok2 X 1 [] (S' := (117, [(2, zI 3), (0, zR (c 0)), (1, zR (a 2))], [], ((tW a F9 B K S V) ++ (cW c G9 CN9 NM9 MK9 TP9 PP9 CO9 KN9)))) rfl trivial ?_
      refine zg_retv X hR rfl rfl (by decide) (by decide) ?_
      refine ⟨rfl, F9, G9, CN9, NM9, MK9, TP9, PP9, CO9, KN9, ?_, rfl⟩
      rw [show aLine K V CN NM MK KN x idx = aPerson K V CN NM MK KN x idx by unfold aLine; rw [if_pos hk0, hv]; rfl]
      exact hcm
    · rw [hv]
      refine zg_tin X rfl (by first | (unfold zin; omega) | exact zand_in _ _) (by decide) (by decide) (by rfl) rfl ?_
      refine zg_blk pok2 X 3 [] (S' := (106, [(2, zI 4), (0, zR (c 0)), (1, zR (a 2))], [zI 4, zR (a 2), zR (c 0)], ((tW a (FA K S V F idx) B K S V) ++ (cW c G CN NM MK TP PP CO KN)))) rfl trivial ?_
      refine zg_callV pok2 EWX_ok X 6 (vas := [zR (a 2), zI 4]) (vr := []) (Y1 := ((tW a (FA K S V F idx) B K S V) ++ (cW c G CN NM MK TP PP CO KN))) (Y2 := []) rfl rfl (Or.inl rfl) zj_X1_readSetting rfl rfl rfl rfl (Nat.le_of_ble_eq_true rfl) rfl (zm_readSetting4 hk0 ⟨hF6, hF1a, hF1b, hTs, hTk⟩ hi ⟨hc0, hc1, hc2, hc3, hNM, hU, hx0, hx1⟩ hG) ⟨by decide, by decide, by decide, by decide⟩ (fun z9 Y9 hz => ?_)
      obtain ⟨rfl, F9, G9, CN9, NM9, MK9, TP9, PP9, CO9, KN9, hcm, rfl⟩ := hz
      refine zg_blk pok2 X 1 [] (S' := (117, [(2, zI 4), (0, zR (c 0)), (1, zR (a 2))], [], ((tW a F9 B K S V) ++ (cW c G9 CN9 NM9 MK9 TP9 PP9 CO9 KN9)))) rfl trivial ?_
      refine zg_retv X hR rfl rfl (by decide) (by decide) ?_
      refine ⟨rfl, F9, G9, CN9, NM9, MK9, TP9, PP9, CO9, KN9, ?_, rfl⟩
      rw [show aLine K V CN NM MK KN x idx = aSet K V CN NM MK KN x 1 20 4 idx by unfold aLine; rw [if_pos hk0, hv]; rfl]
      exact hcm
    · rw [hv]
      refine zg_tin X rfl (by first | (unfold zin; omega) | exact zand_in _ _) (by decide) (by decide) (by rfl) rfl ?_
      refine zg_blk pok2 X 3 [] (S' := (106, [(2, zI 5), (0, zR (c 0)), (1, zR (a 2))], [zI 5, zR (a 2), zR (c 0)], ((tW a (FA K S V F idx) B K S V) ++ (cW c G CN NM MK TP PP CO KN)))) rfl trivial ?_
      refine zg_callV pok2 EWX_ok X 6 (vas := [zR (a 2), zI 5]) (vr := []) (Y1 := ((tW a (FA K S V F idx) B K S V) ++ (cW c G CN NM MK TP PP CO KN))) (Y2 := []) rfl rfl (Or.inl rfl) zj_X1_readSetting rfl rfl rfl rfl (Nat.le_of_ble_eq_true rfl) rfl (zm_readSetting5 hk0 ⟨hF6, hF1a, hF1b, hTs, hTk⟩ hi ⟨hc0, hc1, hc2, hc3, hNM, hU, hx0, hx1⟩ hG) ⟨by decide, by decide, by decide, by decide⟩ (fun z9 Y9 hz => ?_)
      obtain ⟨rfl, F9, G9, CN9, NM9, MK9, TP9, PP9, CO9, KN9, hcm, rfl⟩ := hz
      refine zg_blk pok2 X 1 [] (S' := (117, [(2, zI 5), (0, zR (c 0)), (1, zR (a 2))], [], ((tW a F9 B K S V) ++ (cW c G9 CN9 NM9 MK9 TP9 PP9 CO9 KN9)))) rfl trivial ?_
      refine zg_retv X hR rfl rfl (by decide) (by decide) ?_
      refine ⟨rfl, F9, G9, CN9, NM9, MK9, TP9, PP9, CO9, KN9, ?_, rfl⟩
      rw [show aLine K V CN NM MK KN x idx = aSet K V CN NM MK KN x 0 9 5 idx by unfold aLine; rw [if_pos hk0, hv]; rfl]
      exact hcm
    · rw [hv]
      refine zg_tin X rfl (by first | (unfold zin; omega) | exact zand_in _ _) (by decide) (by decide) (by rfl) rfl ?_
      refine zg_blk pok2 X 3 [] (S' := (106, [(2, zI 6), (0, zR (c 0)), (1, zR (a 2))], [zI 6, zR (a 2), zR (c 0)], ((tW a (FA K S V F idx) B K S V) ++ (cW c G CN NM MK TP PP CO KN)))) rfl trivial ?_
      refine zg_callV pok2 EWX_ok X 6 (vas := [zR (a 2), zI 6]) (vr := []) (Y1 := ((tW a (FA K S V F idx) B K S V) ++ (cW c G CN NM MK TP PP CO KN))) (Y2 := []) rfl rfl (Or.inl rfl) zj_X1_readSetting rfl rfl rfl rfl (Nat.le_of_ble_eq_true rfl) rfl (zm_readSetting6 hk0 ⟨hF6, hF1a, hF1b, hTs, hTk⟩ hi ⟨hc0, hc1, hc2, hc3, hNM, hU, hx0, hx1⟩ hG) ⟨by decide, by decide, by decide, by decide⟩ (fun z9 Y9 hz => ?_)
      obtain ⟨rfl, F9, G9, CN9, NM9, MK9, TP9, PP9, CO9, KN9, hcm, rfl⟩ := hz
      refine zg_blk pok2 X 1 [] (S' := (117, [(2, zI 6), (0, zR (c 0)), (1, zR (a 2))], [], ((tW a F9 B K S V) ++ (cW c G9 CN9 NM9 MK9 TP9 PP9 CO9 KN9)))) rfl trivial ?_
      refine zg_retv X hR rfl rfl (by decide) (by decide) ?_
      refine ⟨rfl, F9, G9, CN9, NM9, MK9, TP9, PP9, CO9, KN9, ?_, rfl⟩
      rw [show aLine K V CN NM MK KN x idx = aSet K V CN NM MK KN x 0 9 6 idx by unfold aLine; rw [if_pos hk0, hv]; rfl]
      exact hcm
    · rw [hv]
      refine zg_tin X rfl (by first | (unfold zin; omega) | exact zand_in _ _) (by decide) (by decide) (by rfl) rfl ?_
      refine zg_blk pok2 X 3 [] (S' := (106, [(2, zI 7), (0, zR (c 0)), (1, zR (a 2))], [zI 7, zR (a 2), zR (c 0)], ((tW a (FA K S V F idx) B K S V) ++ (cW c G CN NM MK TP PP CO KN)))) rfl trivial ?_
      refine zg_callV pok2 EWX_ok X 6 (vas := [zR (a 2), zI 7]) (vr := []) (Y1 := ((tW a (FA K S V F idx) B K S V) ++ (cW c G CN NM MK TP PP CO KN))) (Y2 := []) rfl rfl (Or.inl rfl) zj_X1_readSetting rfl rfl rfl rfl (Nat.le_of_ble_eq_true rfl) rfl (zm_readSetting7 hk0 ⟨hF6, hF1a, hF1b, hTs, hTk⟩ hi ⟨hc0, hc1, hc2, hc3, hNM, hU, hx0, hx1⟩ hG) ⟨by decide, by decide, by decide, by decide⟩ (fun z9 Y9 hz => ?_)
      obtain ⟨rfl, F9, G9, CN9, NM9, MK9, TP9, PP9, CO9, KN9, hcm, rfl⟩ := hz
      refine zg_blk pok2 X 1 [] (S' := (117, [(2, zI 7), (0, zR (c 0)), (1, zR (a 2))], [], ((tW a F9 B K S V) ++ (cW c G9 CN9 NM9 MK9 TP9 PP9 CO9 KN9)))) rfl trivial ?_
      refine zg_retv X hR rfl rfl (by decide) (by decide) ?_
      refine ⟨rfl, F9, G9, CN9, NM9, MK9, TP9, PP9, CO9, KN9, ?_, rfl⟩
      rw [show aLine K V CN NM MK KN x idx = aSet K V CN NM MK KN x 0 6 7 idx by unfold aLine; rw [if_pos hk0, hv]; rfl]
      exact hcm
    · rw [hv]
      refine zg_tin X rfl (by first | (unfold zin; omega) | exact zand_in _ _) (by decide) (by decide) (by rfl) rfl ?_
      refine zg_blk pok2 X 1 [] (S' := (70, [(2, zI 8), (0, zR (c 0)), (1, zR (a 2))], [zR (a 2)], ((tW a (FA K S V F idx) B K S V) ++ (cW c G CN NM MK TP PP CO KN)))) rfl trivial ?_
      refine zg_callV pok2 EWX_ok X 2 (vas := []) (vr := []) (Y1 := (tW a (FA K S V F idx) B K S V)) (Y2 := (cW c G CN NM MK TP PP CO KN)) rfl rfl (Or.inl rfl) zj_X10_step rfl rfl rfl rfl (Nat.le_of_ble_eq_true rfl) rfl (zm_step (F := (FA K S V F idx)) (show F 1 ≤ 941 by omega) (show -1 ≤ ((idx : Nat) : Int) ∧ ((idx : Nat) : Int) < 941 by omega) (show -2147483648 ≤ F 6 ∧ F 6 < 2147483648 by omega) (show 0 ≤ F 1 by omega)) ⟨by decide, by decide, by decide, by decide⟩ (fun z9 Y9 hz => ?_)
      obtain ⟨rfl, rfl⟩ := hz
      have i1 : (((idx + 1) : Nat) : Int) < F 1 := by
        have h9 := hTs idx hi (by omega) (by omega)
        omega
      have t1 := hTk (idx + 1) i1
      rw [FA_step hF6 (by omega)]
      refine zg_blk pok2 X 5 [6] (S' := (80, [(2, zI 8), (0, zR (c 0)), (1, zR (a 2))], [zR (c 3), zI 2, zR (a 2), zR (c 0)], ((tW a (FA K S V F (idx + 1)) B K S V) ++ (cW c G CN NM MK TP PP CO KN)))) rfl ⟨rfl, trivial⟩ ?_
      refine zg_callV pok2 EWX_ok X 6 (vas := [zR (a 2), zI 2, zR (c 3)]) (vr := []) (Y1 := ((tW a (FA K S V F (idx + 1)) B K S V) ++ (cW c G CN NM MK TP PP CO KN))) (Y2 := []) rfl rfl (Or.inl rfl) zj_X1_readPair rfl rfl rfl rfl (Nat.le_of_ble_eq_true rfl) rfl (zm_readPairM (idx := idx + 1) ⟨hF6, hF1a, hF1b, hTs, hTk⟩ i1 ⟨hc0, hc1, hc2, hc3, hNM, hU, hx0, hx1⟩ hG) ⟨by decide, by decide, by decide, by decide⟩ (fun z9 Y9 hz => ?_)
      obtain ⟨rfl, F9, G9, CN9, NM9, MK9, TP9, PP9, CO9, KN9, hcm, rfl⟩ := hz
      refine zg_blk pok2 X 1 [] (S' := (117, [(2, zI 8), (0, zR (c 0)), (1, zR (a 2))], [], ((tW a F9 B K S V) ++ (cW c G9 CN9 NM9 MK9 TP9 PP9 CO9 KN9)))) rfl trivial ?_
      refine zg_retv X hR rfl rfl (by decide) (by decide) ?_
      refine ⟨rfl, F9, G9, CN9, NM9, MK9, TP9, PP9, CO9, KN9, ?_, rfl⟩
      rw [show aLine K V CN NM MK KN x idx = aIs K V CN NM MK KN x (idx + 1) by unfold aLine; rw [if_pos hk0, hv]; rfl]
      exact hcm
    · rw [hv]
      refine zg_tin X rfl (by first | (unfold zin; omega) | exact zand_in _ _) (by decide) (by decide) (by rfl) rfl ?_
      refine zg_blk pok2 X 1 [] (S' := (87, [(2, zI 9), (0, zR (c 0)), (1, zR (a 2))], [zR (a 2)], ((tW a (FA K S V F idx) B K S V) ++ (cW c G CN NM MK TP PP CO KN)))) rfl trivial ?_
      refine zg_callV pok2 EWX_ok X 2 (vas := []) (vr := []) (Y1 := (tW a (FA K S V F idx) B K S V)) (Y2 := (cW c G CN NM MK TP PP CO KN)) rfl rfl (Or.inl rfl) zj_X10_step rfl rfl rfl rfl (Nat.le_of_ble_eq_true rfl) rfl (zm_step (F := (FA K S V F idx)) (show F 1 ≤ 941 by omega) (show -1 ≤ ((idx : Nat) : Int) ∧ ((idx : Nat) : Int) < 941 by omega) (show -2147483648 ≤ F 6 ∧ F 6 < 2147483648 by omega) (show 0 ≤ F 1 by omega)) ⟨by decide, by decide, by decide, by decide⟩ (fun z9 Y9 hz => ?_)
      obtain ⟨rfl, rfl⟩ := hz
      have i1 : (((idx + 1) : Nat) : Int) < F 1 := by
        have h9 := hTs idx hi (by omega) (by omega)
        omega
      have t1 := hTk (idx + 1) i1
      rw [FA_step hF6 (by omega)]
      refine zg_blk pok2 X 5 [6] (S' := (97, [(2, zI 9), (0, zR (c 0)), (1, zR (a 2))], [zR (c 7), zI 3, zR (a 2), zR (c 0)], ((tW a (FA K S V F (idx + 1)) B K S V) ++ (cW c G CN NM MK TP PP CO KN)))) rfl ⟨rfl, trivial⟩ ?_
      refine zg_callV pok2 EWX_ok X 6 (vas := [zR (a 2), zI 3, zR (c 7)]) (vr := []) (Y1 := ((tW a (FA K S V F (idx + 1)) B K S V) ++ (cW c G CN NM MK TP PP CO KN))) (Y2 := []) rfl rfl (Or.inl rfl) zj_X1_readPair rfl rfl rfl rfl (Nat.le_of_ble_eq_true rfl) rfl (zm_readPairK (idx := idx + 1) ⟨hF6, hF1a, hF1b, hTs, hTk⟩ i1 ⟨hc0, hc1, hc2, hc3, hNM, hU, hx0, hx1⟩ hG) ⟨by decide, by decide, by decide, by decide⟩ (fun z9 Y9 hz => ?_)
      obtain ⟨rfl, F9, G9, CN9, NM9, MK9, TP9, PP9, CO9, KN9, hcm, rfl⟩ := hz
      refine zg_blk pok2 X 1 [] (S' := (117, [(2, zI 9), (0, zR (c 0)), (1, zR (a 2))], [], ((tW a F9 B K S V) ++ (cW c G9 CN9 NM9 MK9 TP9 PP9 CO9 KN9)))) rfl trivial ?_
      refine zg_retv X hR rfl rfl (by decide) (by decide) ?_
      refine ⟨rfl, F9, G9, CN9, NM9, MK9, TP9, PP9, CO9, KN9, ?_, rfl⟩
      rw [show aLine K V CN NM MK KN x idx = aKnows K V CN NM MK KN x (idx + 1) by unfold aLine; rw [if_pos hk0, hv]; rfl]
      exact hcm
    · refine zg_tout X rfl (by first | (unfold zin; omega) | exact zand_in _ _) (Or.inr (by omega)) rfl ?_
      refine zg_blk pok2 X 2 [] (S' := (114, [(2, zI (V idx)), (0, zR (c 0)), (1, zR (a 2))], [zI 1, zR (a 2)], ((tW a (FA K S V F idx) B K S V) ++ (cW c G CN NM MK TP PP CO KN)))) rfl trivial ?_
      refine zg_callV pok2 EWX_ok X 2 (vas := [zI 1]) (vr := []) (Y1 := (tW a (FA K S V F idx) B K S V)) (Y2 := (cW c G CN NM MK TP PP CO KN)) rfl rfl (Or.inl rfl) zj_X10_fail rfl rfl rfl rfl (Nat.le_of_ble_eq_true rfl) rfl (zm_fail (F := (FA K S V F idx)) (show -2147483648 ≤ F 6 ∧ F 6 < 2147483648 by omega)) ⟨by decide, by decide, by decide, by decide⟩ (fun z9 Y9 hz => ?_)
      obtain ⟨rfl, rfl⟩ := hz
      have hfd := FA_fail (K := K) (S := S) (V := V) (F := F) (idx := idx) (m := 1) hF6 (by decide) (by decide)
      refine zg_retv X hR rfl rfl (by decide) (by decide) ?_
      refine ⟨rfl, _, _, _, _, _, _, _, _, _, ?_, rfl⟩
      rw [show aLine K V CN NM MK KN x idx = bad 1 idx by unfold aLine; rw [if_pos hk0]; exact aWord_out (by omega)]
      exact Or.inr ⟨bad_ne (by decide), hfd⟩
  · refine zg_blk pok2 X 2 [] (S' := (6, [(2, zI (-1)), (0, zR (c 0)), (1, zR (a 2))], [zI (-1)], ((tW a (FA K S V F idx) B K S V) ++ (cW c G CN NM MK TP PP CO KN)))) rfl trivial ?_
    refine zg_tout X rfl (by first | (unfold zin; omega) | exact zand_in _ _) (by decide) rfl ?_
    refine zg_blk pok2 X 2 [] (S' := (114, [(2, zI (-1)), (0, zR (c 0)), (1, zR (a 2))], [zI 1, zR (a 2)], ((tW a (FA K S V F idx) B K S V) ++ (cW c G CN NM MK TP PP CO KN)))) rfl trivial ?_
    refine zg_callV pok2 EWX_ok X 2 (vas := [zI 1]) (vr := []) (Y1 := (tW a (FA K S V F idx) B K S V)) (Y2 := (cW c G CN NM MK TP PP CO KN)) rfl rfl (Or.inl rfl) zj_X10_fail rfl rfl rfl rfl (Nat.le_of_ble_eq_true rfl) rfl (zm_fail (F := (FA K S V F idx)) (show -2147483648 ≤ F 6 ∧ F 6 < 2147483648 by omega)) ⟨by decide, by decide, by decide, by decide⟩ (fun z9 Y9 hz => ?_)
    obtain ⟨rfl, rfl⟩ := hz
    have hfd := FA_fail (K := K) (S := S) (V := V) (F := F) (idx := idx) (m := 1) hF6 (by decide) (by decide)
    refine zg_retv X hR rfl rfl (by decide) (by decide) ?_
    refine ⟨rfl, _, _, _, _, _, _, _, _, _, ?_, rfl⟩
    rw [show aLine K V CN NM MK KN x idx = bad 1 idx by unfold aLine; rw [if_neg hk0]]
    exact Or.inr ⟨bad_ne (by decide), hfd⟩
end ZF
