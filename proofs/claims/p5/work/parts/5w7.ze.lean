/-! the class's city: lines (written by wip/p4/g7.py) -/
def cM (K S V F : Nat → Int) (R : AR) (F9 G9 CN9 NM9 MK9 KN9 : Nat → Int) : Prop := (R.1 = 0 ∧ F9 = FA K S V F R.2.1 ∧ CN9 = R.2.2.1 ∧ NM9 = R.2.2.2.1 ∧ MK9 = R.2.2.2.2.1 ∧ KN9 = R.2.2.2.2.2.1 ∧ G9 1 = 16 * R.2.2.2.2.2.2) ∨ (¬ R.1 = 0 ∧ fd F9 R.1 (S R.2.1))
theorem td_ne {K V CN NM : Nat → Int} {s i : Nat} (h : tdF K V CN NM s i = 0) : K i = 1 ∧ ¬ lkS CN NM s (V i) = -1 := by
  unfold tdF at h
  split at h
  · rename_i h1
    split at h
    · exact absurd h (by decide)
    · rename_i h2
      exact ⟨h1, h2⟩
  · exact absurd h (by decide)
theorem nm_ok {K V : Nat → Int} {lo hi : Int} {i : Nat} (h : nmF K V lo hi i = 0) : K i = 3 ∧ lo ≤ V i ∧ V i ≤ hi := by
  unfold nmF at h
  split at h
  · rename_i h1
    split at h
    · rename_i h2
      exact ⟨h1, h2⟩
    · exact absurd h (by decide)
  · exact absurd h (by decide)
theorem bad_ne {f : Int} {i : Nat} (h : ¬ f = 0) : ¬ (bad f i).1 = 0 := h
section ZE9
variable {xs : Nat → Int32} {D : va_G} {cy : Nat → ClassId} {l : Launch} {ex : Nat → Nat} {a c : Nat → Nat} {F B K S V G CN NM MK TP PP CO KN F1 : Nat → Int} {idx : Nat} {kd pl x : Int}
set_option maxRecDepth 4000 in
theorem zj_X1_readPair : PR2[219]? = some mt2_X1_readPair := rfl
set_option maxRecDepth 4000 in
theorem zm_readPairM (hT : TT F K S V) (hi : (idx : Int) < F 1) (hI : INV CN NM x) (hG : G 1 = 16 * x) : ZMet (EWX xs) D cy l ex mt2_X1_readPair (2, 0, 0, 47) (tW a (FA K S V F idx) B K S V ++ cW c G CN NM MK TP PP CO KN) [zR (c 0), zR (a 2), zI 2, zR (c 3)] (fun z Y => z = none ∧ ∃ F9 G9 CN9 NM9 MK9 TP9 PP9 CO9 KN9 : Nat → Int, cM K S V F (aIs K V CN NM MK KN x idx) F9 G9 CN9 NM9 MK9 KN9 ∧ Y = tW a F9 B K S V ++ cW c G9 CN9 NM9 MK9 TP9 PP9 CO9 KN9) := by
  obtain ⟨mok, tok, ow⟩ := pok2.1 _ _ zj_X1_readPair
  refine met_ofz EWX_ok mok tok ow (Nat.le_of_ble_eq_true rfl) (fun r p0 e0 s0 m0 ar0 be0 me0 c0 A0 Q0 X hR => ?_)
  obtain ⟨hF6, hF1a, hF1b, hTs, hTk⟩ := hT
  have t0 := hTk idx hi
  have hCN := hI.cn
  obtain ⟨hc0, hc1, hc2, hc3, hNM, hU, hx0, hx1⟩ := hI
  refine zg_blk pok2 X 3 [] (S' := (3, [(0, zR (c 0)), (1, zR (a 2)), (2, zI 2), (3, zR (c 3))], [zI 2, zR (a 2), zR (c 0)], ((tW a (FA K S V F idx) B K S V) ++ (cW c G CN NM MK TP PP CO KN)))) rfl trivial ?_
  refine zg_callV pok2 EWX_ok X 6 (vas := [zR (a 2), zI 2]) (vr := []) (Y1 := ((tW a (FA K S V F idx) B K S V) ++ (cW c G CN NM MK TP PP CO KN))) (Y2 := []) rfl rfl (Or.inl rfl) zj_X1_toldHere rfl rfl rfl rfl (Nat.le_of_ble_eq_true rfl) rfl (zm_toldHereA (sN := 2) (idx := idx) (by omega) hCN hNM hU ⟨hF6, hF1a, hF1b, hTs, hTk⟩ hi) ⟨by decide, by decide, by decide, by decide⟩ (fun z9 Y9 hz => ?_)
  rcases hz with ⟨ht1, rfl, rfl⟩ | ⟨ht1, rfl, F9b, hfd, rfl⟩
  · have hk1 := (td_ne ht1).1
    have hl1 := (td_ne ht1).2
    have hr1 := lkS_rng (NM := NM) (key := V idx) (hCN 2 (by omega))
    refine zg_blk pok2 X 2 [] (S' := (9, [(4, zI (lkS CN NM 2 (V idx))), (0, zR (c 0)), (1, zR (a 2)), (2, zI 2), (3, zR (c 3))], [zR (a 2)], ((tW a (FA K S V F idx) B K S V) ++ (cW c G CN NM MK TP PP CO KN)))) rfl trivial ?_
    refine zg_callV pok2 EWX_ok X 2 (vas := []) (vr := []) (Y1 := (tW a (FA K S V F idx) B K S V)) (Y2 := (cW c G CN NM MK TP PP CO KN)) rfl rfl (Or.inl rfl) zj_X10_step rfl rfl rfl rfl (Nat.le_of_ble_eq_true rfl) rfl (zm_step (F := (FA K S V F idx)) (show F 1 ≤ 941 by omega) (show -1 ≤ ((idx : Nat) : Int) ∧ ((idx : Nat) : Int) < 941 by omega) (show -2147483648 ≤ F 6 ∧ F 6 < 2147483648 by omega) (show 0 ≤ F 1 by omega)) ⟨by decide, by decide, by decide, by decide⟩ (fun z9 Y9 hz => ?_)
    obtain ⟨rfl, rfl⟩ := hz
    have i1 : (((idx + 1) : Nat) : Int) < F 1 := by
      have h9 := hTs idx hi (by omega) (by omega)
      omega
    have t1 := hTk (idx + 1) i1
    rw [FA_step hF6 (by omega)]
    refine zg_blk pok2 X 3 [] (S' := (15, [(4, zI (lkS CN NM 2 (V idx))), (0, zR (c 0)), (1, zR (a 2)), (2, zI 2), (3, zR (c 3))], [zI 1, zR (a 2), zR (c 0)], ((tW a (FA K S V F (idx + 1)) B K S V) ++ (cW c G CN NM MK TP PP CO KN)))) rfl trivial ?_
    refine zg_callV pok2 EWX_ok X 6 (vas := [zR (a 2), zI 1]) (vr := []) (Y1 := ((tW a (FA K S V F (idx + 1)) B K S V) ++ (cW c G CN NM MK TP PP CO KN))) (Y2 := []) rfl rfl (Or.inl rfl) zj_X1_toldHere rfl rfl rfl rfl (Nat.le_of_ble_eq_true rfl) rfl (zm_toldHereA (sN := 1) (idx := (idx + 1)) (by omega) hCN hNM hU ⟨hF6, hF1a, hF1b, hTs, hTk⟩ i1) ⟨by decide, by decide, by decide, by decide⟩ (fun z9 Y9 hz => ?_)
    rcases hz with ⟨ht2, rfl, rfl⟩ | ⟨ht2, rfl, F9c, hfd, rfl⟩
    · have hk2 := (td_ne ht2).1
      have hl2 := (td_ne ht2).2
      have hr2 := lkS_rng (NM := NM) (key := V (idx + 1)) (hCN 1 (by omega))
      refine zg_blk pok2 X 3 [] (S' := (23, [(5, zI (lkS CN NM 1 (V (idx + 1)))), (4, zI (lkS CN NM 2 (V idx))), (0, zR (c 0)), (1, zR (a 2)), (2, zI 2), (3, zR (c 3))], [zI (-1), zI (lkS CN NM 2 (V idx))], ((tW a (FA K S V F (idx + 1)) B K S V) ++ (cW c G CN NM MK TP PP CO KN)))) rfl trivial ?_
      refine zg_icmp X 39 rfl rfl (by first | (unfold zin; omega) | exact zand_in _ _) (by first | (unfold zin; omega) | exact zand_in _ _) (fun g1 => ?_) (fun g1 => ?_)
      · simp only [x_cnd] at g1
        exfalso
        omega
      · simp only [x_ncd] at g1
        refine zg_blk pok2 X 2 [] (S' := (29, [(5, zI (lkS CN NM 1 (V (idx + 1)))), (4, zI (lkS CN NM 2 (V idx))), (0, zR (c 0)), (1, zR (a 2)), (2, zI 2), (3, zR (c 3))], [zI (-1), zI (lkS CN NM 1 (V (idx + 1)))], ((tW a (FA K S V F (idx + 1)) B K S V) ++ (cW c G CN NM MK TP PP CO KN)))) rfl trivial ?_
        refine zg_icmp X 39 rfl rfl (by first | (unfold zin; omega) | exact zand_in _ _) (by first | (unfold zin; omega) | exact zand_in _ _) (fun g2 => ?_) (fun g2 => ?_)
        · simp only [x_cnd] at g2
          exfalso
          omega
        · simp only [x_ncd] at g2
          refine zg_blk pok2 X 3 [9] (S' := (36, [(5, zI (lkS CN NM 1 (V (idx + 1)))), (4, zI (lkS CN NM 2 (V idx))), (0, zR (c 0)), (1, zR (a 2)), (2, zI 2), (3, zR (c 3))], [zI 8, zI (lkS CN NM 2 (V idx))], ((tW a (FA K S V F (idx + 1)) B K S V) ++ (cW c G CN NM MK TP PP CO KN)))) rfl ⟨rfl, (by decide), trivial⟩ ?_
          refine zg_icmp X 40 rfl rfl (by first | (unfold zin; omega) | exact zand_in _ _) (by first | (unfold zin; omega) | exact zand_in _ _) (fun g3 => ?_) (fun g3 => ?_)
          · simp only [x_cnd] at g3
            refine zg_blk pok2 X 8 [9] (S' := (50, [(5, zI (lkS CN NM 1 (V (idx + 1)))), (4, zI (lkS CN NM 2 (V idx))), (0, zR (c 0)), (1, zR (a 2)), (2, zI 2), (3, zR (c 3))], [zI 1, zI (zand (zshr (MK ((lkS CN NM 2 (V idx)).toNat)) (lkS CN NM 1 (V (idx + 1)))) 1)], ((tW a (FA K S V F (idx + 1)) B K S V) ++ (cW c G CN NM MK TP PP CO KN)))) rfl ⟨rfl, rfl, (show zidx (lkS CN NM 2 (V idx)) 8 from by unfold zidx; omega), trivial⟩ ?_
            refine zg_icmp X 59 rfl rfl (by first | (unfold zin; omega) | exact zand_in _ _) (by first | (unfold zin; omega) | exact zand_in _ _) (fun g4 => ?_) (fun g4 => ?_)
            · simp only [x_cnd] at g4
              refine zg_blk pok2 X 10 [9, 9] (S' := (71, [(5, zI (lkS CN NM 1 (V (idx + 1)))), (4, zI (lkS CN NM 2 (V idx))), (0, zR (c 0)), (1, zR (a 2)), (2, zI 2), (3, zR (c 3))], [zR (a 2)], ((tW a (FA K S V F (idx + 1)) B K S V) ++ (cW c G CN NM (zup MK ((lkS CN NM 2 (V idx)).toNat) (zor (MK ((lkS CN NM 2 (V idx)).toNat)) (zshl 1 (lkS CN NM 1 (V (idx + 1)))))) TP PP CO KN)))) rfl ⟨rfl, rfl, (show zidx (lkS CN NM 2 (V idx)) 8 from by unfold zidx; omega), rfl, rfl, (show zidx (lkS CN NM 2 (V idx)) 8 from by unfold zidx; omega), trivial⟩ ?_
              refine zg_callV pok2 EWX_ok X 2 (vas := []) (vr := []) (Y1 := (tW a (FA K S V F (idx + 1)) B K S V)) (Y2 := (cW c G CN NM (zup MK ((lkS CN NM 2 (V idx)).toNat) (zor (MK ((lkS CN NM 2 (V idx)).toNat)) (zshl 1 (lkS CN NM 1 (V (idx + 1)))))) TP PP CO KN)) rfl rfl (Or.inl rfl) zj_X10_step rfl rfl rfl rfl (Nat.le_of_ble_eq_true rfl) rfl (zm_step (F := (FA K S V F (idx + 1))) (show F 1 ≤ 941 by omega) (show -1 ≤ (((idx + 1) : Nat) : Int) ∧ (((idx + 1) : Nat) : Int) < 941 by omega) (show -2147483648 ≤ F 6 ∧ F 6 < 2147483648 by omega) (show 0 ≤ F 1 by omega)) ⟨by decide, by decide, by decide, by decide⟩ (fun z9 Y9 hz => ?_)
              obtain ⟨rfl, rfl⟩ := hz
              have i2 : (((idx + 2) : Nat) : Int) < F 1 := by
                have h9 := hTs (idx + 1) i1 (by omega) (by omega)
                omega
              have t2 := hTk (idx + 2) i2
              rw [FA_step hF6 (by omega)]
              refine zg_retv X hR rfl rfl (by decide) (by decide) ?_
              refine ⟨rfl, _, _, _, _, _, _, _, _, _, ?_, rfl⟩
              unfold aIs aPair
              rw [if_pos ht1, if_pos ht2, if_neg (by omega)]
              exact Or.inl ⟨rfl, rfl, rfl, rfl, rfl, rfl, hG⟩
            · simp only [x_ncd] at g4
              refine zg_blk pok2 X 2 [] (S' := (55, [(5, zI (lkS CN NM 1 (V (idx + 1)))), (4, zI (lkS CN NM 2 (V idx))), (0, zR (c 0)), (1, zR (a 2)), (2, zI 2), (3, zR (c 3))], [zI 3, zR (a 2)], ((tW a (FA K S V F (idx + 1)) B K S V) ++ (cW c G CN NM MK TP PP CO KN)))) rfl trivial ?_
              refine zg_callV pok2 EWX_ok X 2 (vas := [zI 3]) (vr := []) (Y1 := (tW a (FA K S V F (idx + 1)) B K S V)) (Y2 := (cW c G CN NM MK TP PP CO KN)) rfl rfl (Or.inl rfl) zj_X10_fail rfl rfl rfl rfl (Nat.le_of_ble_eq_true rfl) rfl (zm_fail (F := (FA K S V F (idx + 1))) (show -2147483648 ≤ F 6 ∧ F 6 < 2147483648 by omega)) ⟨by decide, by decide, by decide, by decide⟩ (fun z9 Y9 hz => ?_)
              obtain ⟨rfl, rfl⟩ := hz
              have hfd := FA_fail (K := K) (S := S) (V := V) (F := F) (idx := (idx + 1)) (m := 3) hF6 (by decide) (by decide)
              refine zg_retv X hR rfl rfl (by decide) (by decide) ?_
              refine ⟨rfl, _, _, _, _, _, _, _, _, _, ?_, rfl⟩
              unfold aIs aPair
              rw [if_pos ht1, if_pos ht2, if_pos (by omega)]
              exact Or.inr ⟨bad_ne (by decide), hfd⟩
          · simp only [x_ncd] at g3
            exfalso
            omega
    · refine zg_blk pok2 X 3 [] (S' := (23, [(5, zI (-1)), (4, zI (lkS CN NM 2 (V idx))), (0, zR (c 0)), (1, zR (a 2)), (2, zI 2), (3, zR (c 3))], [zI (-1), zI (lkS CN NM 2 (V idx))], ((tW a F9c B K S V) ++ (cW c G CN NM MK TP PP CO KN)))) rfl trivial ?_
      refine zg_icmp X 39 rfl rfl (by first | (unfold zin; omega) | exact zand_in _ _) (by first | (unfold zin; omega) | exact zand_in _ _) (fun g5 => ?_) (fun g5 => ?_)
      · simp only [x_cnd] at g5
        exfalso
        omega
      · simp only [x_ncd] at g5
        refine zg_blk pok2 X 2 [] (S' := (29, [(5, zI (-1)), (4, zI (lkS CN NM 2 (V idx))), (0, zR (c 0)), (1, zR (a 2)), (2, zI 2), (3, zR (c 3))], [zI (-1), zI (-1)], ((tW a F9c B K S V) ++ (cW c G CN NM MK TP PP CO KN)))) rfl trivial ?_
        refine zg_icmp X 39 rfl rfl (by first | (unfold zin; omega) | exact zand_in _ _) (by first | (unfold zin; omega) | exact zand_in _ _) (fun g6 => ?_) (fun g6 => ?_)
        · simp only [x_cnd] at g6
          refine zg_retv X hR rfl rfl (by decide) (by decide) ?_
          refine ⟨rfl, _, _, _, _, _, _, _, _, _, ?_, rfl⟩
          unfold aIs aPair
          rw [if_pos ht1, if_neg ht2]
          exact Or.inr ⟨ht2, hfd⟩
        · exact absurd (show ¬ (-1 : Int) = (-1 : Int) from g6) (by decide)
  · refine zg_blk pok2 X 2 [] (S' := (9, [(4, zI (-1)), (0, zR (c 0)), (1, zR (a 2)), (2, zI 2), (3, zR (c 3))], [zR (a 2)], ((tW a F9b B K S V) ++ (cW c G CN NM MK TP PP CO KN)))) rfl trivial ?_
    refine zg_callV pok2 EWX_ok X 2 (vas := []) (vr := []) (Y1 := (tW a F9b B K S V)) (Y2 := (cW c G CN NM MK TP PP CO KN)) rfl rfl (Or.inl rfl) zj_X10_step rfl rfl rfl rfl (Nat.le_of_ble_eq_true rfl) rfl (zm_stepX hfd) ⟨by decide, by decide, by decide, by decide⟩ (fun z9 Y9 hz => ?_)
    obtain ⟨rfl, rfl⟩ := hz
    refine zg_blk pok2 X 3 [] (S' := (15, [(4, zI (-1)), (0, zR (c 0)), (1, zR (a 2)), (2, zI 2), (3, zR (c 3))], [zI 1, zR (a 2), zR (c 0)], ((tW a F9b B K S V) ++ (cW c G CN NM MK TP PP CO KN)))) rfl trivial ?_
    refine zg_callV pok2 EWX_ok X 6 (vas := [zR (a 2), zI 1]) (vr := []) (Y1 := ((tW a F9b B K S V) ++ (cW c G CN NM MK TP PP CO KN))) (Y2 := []) rfl rfl (Or.inl rfl) zj_X1_toldHere rfl rfl rfl rfl (Nat.le_of_ble_eq_true rfl) rfl (zm_toldHereX hfd) ⟨by decide, by decide, by decide, by decide⟩ (fun z9 Y9 hz => ?_)
    obtain ⟨rfl, F9c, hfd, rfl⟩ := hz
    refine zg_blk pok2 X 3 [] (S' := (23, [(5, zI (-1)), (4, zI (-1)), (0, zR (c 0)), (1, zR (a 2)), (2, zI 2), (3, zR (c 3))], [zI (-1), zI (-1)], ((tW a F9c B K S V) ++ (cW c G CN NM MK TP PP CO KN)))) rfl trivial ?_
    refine zg_icmp X 39 rfl rfl (by first | (unfold zin; omega) | exact zand_in _ _) (by first | (unfold zin; omega) | exact zand_in _ _) (fun g7 => ?_) (fun g7 => ?_)
    · simp only [x_cnd] at g7
      refine zg_retv X hR rfl rfl (by decide) (by decide) ?_
      refine ⟨rfl, _, _, _, _, _, _, _, _, _, ?_, rfl⟩
      unfold aIs aPair
      rw [if_neg ht1]
      exact Or.inr ⟨ht1, hfd⟩
    · exact absurd (show ¬ (-1 : Int) = (-1 : Int) from g7) (by decide)
set_option maxRecDepth 4000 in
theorem zm_readPairK (hT : TT F K S V) (hi : (idx : Int) < F 1) (hI : INV CN NM x) (hG : G 1 = 16 * x) : ZMet (EWX xs) D cy l ex mt2_X1_readPair (2, 0, 0, 47) (tW a (FA K S V F idx) B K S V ++ cW c G CN NM MK TP PP CO KN) [zR (c 0), zR (a 2), zI 3, zR (c 7)] (fun z Y => z = none ∧ ∃ F9 G9 CN9 NM9 MK9 TP9 PP9 CO9 KN9 : Nat → Int, cM K S V F (aKnows K V CN NM MK KN x idx) F9 G9 CN9 NM9 MK9 KN9 ∧ Y = tW a F9 B K S V ++ cW c G9 CN9 NM9 MK9 TP9 PP9 CO9 KN9) := by
  obtain ⟨mok, tok, ow⟩ := pok2.1 _ _ zj_X1_readPair
  refine met_ofz EWX_ok mok tok ow (Nat.le_of_ble_eq_true rfl) (fun r p0 e0 s0 m0 ar0 be0 me0 c0 A0 Q0 X hR => ?_)
  obtain ⟨hF6, hF1a, hF1b, hTs, hTk⟩ := hT
  have t0 := hTk idx hi
  have hCN := hI.cn
  obtain ⟨hc0, hc1, hc2, hc3, hNM, hU, hx0, hx1⟩ := hI
  refine zg_blk pok2 X 3 [] (S' := (3, [(0, zR (c 0)), (1, zR (a 2)), (2, zI 3), (3, zR (c 7))], [zI 3, zR (a 2), zR (c 0)], ((tW a (FA K S V F idx) B K S V) ++ (cW c G CN NM MK TP PP CO KN)))) rfl trivial ?_
  refine zg_callV pok2 EWX_ok X 6 (vas := [zR (a 2), zI 3]) (vr := []) (Y1 := ((tW a (FA K S V F idx) B K S V) ++ (cW c G CN NM MK TP PP CO KN))) (Y2 := []) rfl rfl (Or.inl rfl) zj_X1_toldHere rfl rfl rfl rfl (Nat.le_of_ble_eq_true rfl) rfl (zm_toldHereA (sN := 3) (idx := idx) (by omega) hCN hNM hU ⟨hF6, hF1a, hF1b, hTs, hTk⟩ hi) ⟨by decide, by decide, by decide, by decide⟩ (fun z9 Y9 hz => ?_)
  rcases hz with ⟨ht1, rfl, rfl⟩ | ⟨ht1, rfl, F9b, hfd, rfl⟩
  · have hk1 := (td_ne ht1).1
    have hl1 := (td_ne ht1).2
    have hr1 := lkS_rng (NM := NM) (key := V idx) (hCN 3 (by omega))
    refine zg_blk pok2 X 2 [] (S' := (9, [(4, zI (lkS CN NM 3 (V idx))), (0, zR (c 0)), (1, zR (a 2)), (2, zI 3), (3, zR (c 7))], [zR (a 2)], ((tW a (FA K S V F idx) B K S V) ++ (cW c G CN NM MK TP PP CO KN)))) rfl trivial ?_
    refine zg_callV pok2 EWX_ok X 2 (vas := []) (vr := []) (Y1 := (tW a (FA K S V F idx) B K S V)) (Y2 := (cW c G CN NM MK TP PP CO KN)) rfl rfl (Or.inl rfl) zj_X10_step rfl rfl rfl rfl (Nat.le_of_ble_eq_true rfl) rfl (zm_step (F := (FA K S V F idx)) (show F 1 ≤ 941 by omega) (show -1 ≤ ((idx : Nat) : Int) ∧ ((idx : Nat) : Int) < 941 by omega) (show -2147483648 ≤ F 6 ∧ F 6 < 2147483648 by omega) (show 0 ≤ F 1 by omega)) ⟨by decide, by decide, by decide, by decide⟩ (fun z9 Y9 hz => ?_)
    obtain ⟨rfl, rfl⟩ := hz
    have i1 : (((idx + 1) : Nat) : Int) < F 1 := by
      have h9 := hTs idx hi (by omega) (by omega)
      omega
    have t1 := hTk (idx + 1) i1
    rw [FA_step hF6 (by omega)]
    refine zg_blk pok2 X 3 [] (S' := (15, [(4, zI (lkS CN NM 3 (V idx))), (0, zR (c 0)), (1, zR (a 2)), (2, zI 3), (3, zR (c 7))], [zI 1, zR (a 2), zR (c 0)], ((tW a (FA K S V F (idx + 1)) B K S V) ++ (cW c G CN NM MK TP PP CO KN)))) rfl trivial ?_
    refine zg_callV pok2 EWX_ok X 6 (vas := [zR (a 2), zI 1]) (vr := []) (Y1 := ((tW a (FA K S V F (idx + 1)) B K S V) ++ (cW c G CN NM MK TP PP CO KN))) (Y2 := []) rfl rfl (Or.inl rfl) zj_X1_toldHere rfl rfl rfl rfl (Nat.le_of_ble_eq_true rfl) rfl (zm_toldHereA (sN := 1) (idx := (idx + 1)) (by omega) hCN hNM hU ⟨hF6, hF1a, hF1b, hTs, hTk⟩ i1) ⟨by decide, by decide, by decide, by decide⟩ (fun z9 Y9 hz => ?_)
    rcases hz with ⟨ht2, rfl, rfl⟩ | ⟨ht2, rfl, F9c, hfd, rfl⟩
    · have hk2 := (td_ne ht2).1
      have hl2 := (td_ne ht2).2
      have hr2 := lkS_rng (NM := NM) (key := V (idx + 1)) (hCN 1 (by omega))
      refine zg_blk pok2 X 3 [] (S' := (23, [(5, zI (lkS CN NM 1 (V (idx + 1)))), (4, zI (lkS CN NM 3 (V idx))), (0, zR (c 0)), (1, zR (a 2)), (2, zI 3), (3, zR (c 7))], [zI (-1), zI (lkS CN NM 3 (V idx))], ((tW a (FA K S V F (idx + 1)) B K S V) ++ (cW c G CN NM MK TP PP CO KN)))) rfl trivial ?_
      refine zg_icmp X 39 rfl rfl (by first | (unfold zin; omega) | exact zand_in _ _) (by first | (unfold zin; omega) | exact zand_in _ _) (fun g1 => ?_) (fun g1 => ?_)
      · simp only [x_cnd] at g1
        exfalso
        omega
      · simp only [x_ncd] at g1
        refine zg_blk pok2 X 2 [] (S' := (29, [(5, zI (lkS CN NM 1 (V (idx + 1)))), (4, zI (lkS CN NM 3 (V idx))), (0, zR (c 0)), (1, zR (a 2)), (2, zI 3), (3, zR (c 7))], [zI (-1), zI (lkS CN NM 1 (V (idx + 1)))], ((tW a (FA K S V F (idx + 1)) B K S V) ++ (cW c G CN NM MK TP PP CO KN)))) rfl trivial ?_
        refine zg_icmp X 39 rfl rfl (by first | (unfold zin; omega) | exact zand_in _ _) (by first | (unfold zin; omega) | exact zand_in _ _) (fun g2 => ?_) (fun g2 => ?_)
        · simp only [x_cnd] at g2
          exfalso
          omega
        · simp only [x_ncd] at g2
          refine zg_blk pok2 X 3 [13] (S' := (36, [(5, zI (lkS CN NM 1 (V (idx + 1)))), (4, zI (lkS CN NM 3 (V idx))), (0, zR (c 0)), (1, zR (a 2)), (2, zI 3), (3, zR (c 7))], [zI 6, zI (lkS CN NM 3 (V idx))], ((tW a (FA K S V F (idx + 1)) B K S V) ++ (cW c G CN NM MK TP PP CO KN)))) rfl ⟨rfl, (by decide), trivial⟩ ?_
          refine zg_icmp X 40 rfl rfl (by first | (unfold zin; omega) | exact zand_in _ _) (by first | (unfold zin; omega) | exact zand_in _ _) (fun g3 => ?_) (fun g3 => ?_)
          · simp only [x_cnd] at g3
            refine zg_blk pok2 X 8 [13] (S' := (50, [(5, zI (lkS CN NM 1 (V (idx + 1)))), (4, zI (lkS CN NM 3 (V idx))), (0, zR (c 0)), (1, zR (a 2)), (2, zI 3), (3, zR (c 7))], [zI 1, zI (zand (zshr (KN ((lkS CN NM 3 (V idx)).toNat)) (lkS CN NM 1 (V (idx + 1)))) 1)], ((tW a (FA K S V F (idx + 1)) B K S V) ++ (cW c G CN NM MK TP PP CO KN)))) rfl ⟨rfl, rfl, (show zidx (lkS CN NM 3 (V idx)) 6 from by unfold zidx; omega), trivial⟩ ?_
            refine zg_icmp X 59 rfl rfl (by first | (unfold zin; omega) | exact zand_in _ _) (by first | (unfold zin; omega) | exact zand_in _ _) (fun g4 => ?_) (fun g4 => ?_)
            · simp only [x_cnd] at g4
              refine zg_blk pok2 X 10 [13, 13] (S' := (71, [(5, zI (lkS CN NM 1 (V (idx + 1)))), (4, zI (lkS CN NM 3 (V idx))), (0, zR (c 0)), (1, zR (a 2)), (2, zI 3), (3, zR (c 7))], [zR (a 2)], ((tW a (FA K S V F (idx + 1)) B K S V) ++ (cW c G CN NM MK TP PP CO (zup KN ((lkS CN NM 3 (V idx)).toNat) (zor (KN ((lkS CN NM 3 (V idx)).toNat)) (zshl 1 (lkS CN NM 1 (V (idx + 1)))))))))) rfl ⟨rfl, rfl, (show zidx (lkS CN NM 3 (V idx)) 6 from by unfold zidx; omega), rfl, rfl, (show zidx (lkS CN NM 3 (V idx)) 6 from by unfold zidx; omega), trivial⟩ ?_
              refine zg_callV pok2 EWX_ok X 2 (vas := []) (vr := []) (Y1 := (tW a (FA K S V F (idx + 1)) B K S V)) (Y2 := (cW c G CN NM MK TP PP CO (zup KN ((lkS CN NM 3 (V idx)).toNat) (zor (KN ((lkS CN NM 3 (V idx)).toNat)) (zshl 1 (lkS CN NM 1 (V (idx + 1)))))))) rfl rfl (Or.inl rfl) zj_X10_step rfl rfl rfl rfl (Nat.le_of_ble_eq_true rfl) rfl (zm_step (F := (FA K S V F (idx + 1))) (show F 1 ≤ 941 by omega) (show -1 ≤ (((idx + 1) : Nat) : Int) ∧ (((idx + 1) : Nat) : Int) < 941 by omega) (show -2147483648 ≤ F 6 ∧ F 6 < 2147483648 by omega) (show 0 ≤ F 1 by omega)) ⟨by decide, by decide, by decide, by decide⟩ (fun z9 Y9 hz => ?_)
              obtain ⟨rfl, rfl⟩ := hz
              have i2 : (((idx + 2) : Nat) : Int) < F 1 := by
                have h9 := hTs (idx + 1) i1 (by omega) (by omega)
                omega
              have t2 := hTk (idx + 2) i2
              rw [FA_step hF6 (by omega)]
              refine zg_retv X hR rfl rfl (by decide) (by decide) ?_
              refine ⟨rfl, _, _, _, _, _, _, _, _, _, ?_, rfl⟩
              unfold aKnows aPair
              rw [if_pos ht1, if_pos ht2, if_neg (by omega)]
              exact Or.inl ⟨rfl, rfl, rfl, rfl, rfl, rfl, hG⟩
            · simp only [x_ncd] at g4
              refine zg_blk pok2 X 2 [] (S' := (55, [(5, zI (lkS CN NM 1 (V (idx + 1)))), (4, zI (lkS CN NM 3 (V idx))), (0, zR (c 0)), (1, zR (a 2)), (2, zI 3), (3, zR (c 7))], [zI 3, zR (a 2)], ((tW a (FA K S V F (idx + 1)) B K S V) ++ (cW c G CN NM MK TP PP CO KN)))) rfl trivial ?_
              refine zg_callV pok2 EWX_ok X 2 (vas := [zI 3]) (vr := []) (Y1 := (tW a (FA K S V F (idx + 1)) B K S V)) (Y2 := (cW c G CN NM MK TP PP CO KN)) rfl rfl (Or.inl rfl) zj_X10_fail rfl rfl rfl rfl (Nat.le_of_ble_eq_true rfl) rfl (zm_fail (F := (FA K S V F (idx + 1))) (show -2147483648 ≤ F 6 ∧ F 6 < 2147483648 by omega)) ⟨by decide, by decide, by decide, by decide⟩ (fun z9 Y9 hz => ?_)
              obtain ⟨rfl, rfl⟩ := hz
              have hfd := FA_fail (K := K) (S := S) (V := V) (F := F) (idx := (idx + 1)) (m := 3) hF6 (by decide) (by decide)
              refine zg_retv X hR rfl rfl (by decide) (by decide) ?_
              refine ⟨rfl, _, _, _, _, _, _, _, _, _, ?_, rfl⟩
              unfold aKnows aPair
              rw [if_pos ht1, if_pos ht2, if_pos (by omega)]
              exact Or.inr ⟨bad_ne (by decide), hfd⟩
          · simp only [x_ncd] at g3
            exfalso
            omega
    · refine zg_blk pok2 X 3 [] (S' := (23, [(5, zI (-1)), (4, zI (lkS CN NM 3 (V idx))), (0, zR (c 0)), (1, zR (a 2)), (2, zI 3), (3, zR (c 7))], [zI (-1), zI (lkS CN NM 3 (V idx))], ((tW a F9c B K S V) ++ (cW c G CN NM MK TP PP CO KN)))) rfl trivial ?_
      refine zg_icmp X 39 rfl rfl (by first | (unfold zin; omega) | exact zand_in _ _) (by first | (unfold zin; omega) | exact zand_in _ _) (fun g5 => ?_) (fun g5 => ?_)
      · simp only [x_cnd] at g5
        exfalso
        omega
      · simp only [x_ncd] at g5
        refine zg_blk pok2 X 2 [] (S' := (29, [(5, zI (-1)), (4, zI (lkS CN NM 3 (V idx))), (0, zR (c 0)), (1, zR (a 2)), (2, zI 3), (3, zR (c 7))], [zI (-1), zI (-1)], ((tW a F9c B K S V) ++ (cW c G CN NM MK TP PP CO KN)))) rfl trivial ?_
        refine zg_icmp X 39 rfl rfl (by first | (unfold zin; omega) | exact zand_in _ _) (by first | (unfold zin; omega) | exact zand_in _ _) (fun g6 => ?_) (fun g6 => ?_)
        · simp only [x_cnd] at g6
          refine zg_retv X hR rfl rfl (by decide) (by decide) ?_
          refine ⟨rfl, _, _, _, _, _, _, _, _, _, ?_, rfl⟩
          unfold aKnows aPair
          rw [if_pos ht1, if_neg ht2]
          exact Or.inr ⟨ht2, hfd⟩
        · exact absurd (show ¬ (-1 : Int) = (-1 : Int) from g6) (by decide)
  · refine zg_blk pok2 X 2 [] (S' := (9, [(4, zI (-1)), (0, zR (c 0)), (1, zR (a 2)), (2, zI 3), (3, zR (c 7))], [zR (a 2)], ((tW a F9b B K S V) ++ (cW c G CN NM MK TP PP CO KN)))) rfl trivial ?_
    refine zg_callV pok2 EWX_ok X 2 (vas := []) (vr := []) (Y1 := (tW a F9b B K S V)) (Y2 := (cW c G CN NM MK TP PP CO KN)) rfl rfl (Or.inl rfl) zj_X10_step rfl rfl rfl rfl (Nat.le_of_ble_eq_true rfl) rfl (zm_stepX hfd) ⟨by decide, by decide, by decide, by decide⟩ (fun z9 Y9 hz => ?_)
    obtain ⟨rfl, rfl⟩ := hz
    refine zg_blk pok2 X 3 [] (S' := (15, [(4, zI (-1)), (0, zR (c 0)), (1, zR (a 2)), (2, zI 3), (3, zR (c 7))], [zI 1, zR (a 2), zR (c 0)], ((tW a F9b B K S V) ++ (cW c G CN NM MK TP PP CO KN)))) rfl trivial ?_
    refine zg_callV pok2 EWX_ok X 6 (vas := [zR (a 2), zI 1]) (vr := []) (Y1 := ((tW a F9b B K S V) ++ (cW c G CN NM MK TP PP CO KN))) (Y2 := []) rfl rfl (Or.inl rfl) zj_X1_toldHere rfl rfl rfl rfl (Nat.le_of_ble_eq_true rfl) rfl (zm_toldHereX hfd) ⟨by decide, by decide, by decide, by decide⟩ (fun z9 Y9 hz => ?_)
    obtain ⟨rfl, F9c, hfd, rfl⟩ := hz
    refine zg_blk pok2 X 3 [] (S' := (23, [(5, zI (-1)), (4, zI (-1)), (0, zR (c 0)), (1, zR (a 2)), (2, zI 3), (3, zR (c 7))], [zI (-1), zI (-1)], ((tW a F9c B K S V) ++ (cW c G CN NM MK TP PP CO KN)))) rfl trivial ?_
    refine zg_icmp X 39 rfl rfl (by first | (unfold zin; omega) | exact zand_in _ _) (by first | (unfold zin; omega) | exact zand_in _ _) (fun g7 => ?_) (fun g7 => ?_)
    · simp only [x_cnd] at g7
      refine zg_retv X hR rfl rfl (by decide) (by decide) ?_
      refine ⟨rfl, _, _, _, _, _, _, _, _, _, ?_, rfl⟩
      unfold aKnows aPair
      rw [if_neg ht1]
      exact Or.inr ⟨ht1, hfd⟩
    · exact absurd (show ¬ (-1 : Int) = (-1 : Int) from g7) (by decide)
set_option maxRecDepth 4000 in
theorem zj_X1_readSetting : PR2[221]? = some mt2_X1_readSetting := rfl
set_option maxRecDepth 4000 in
theorem zm_readSetting4 (hk0 : K idx = 2) (hT : TT F K S V) (hi : (idx : Int) < F 1) (hI : INV CN NM x) (hG : G 1 = 16 * x) : ZMet (EWX xs) D cy l ex mt2_X1_readSetting (2, 0, 0, 44) (tW a (FA K S V F idx) B K S V ++ cW c G CN NM MK TP PP CO KN) [zR (c 0), zR (a 2), zI 4] (fun z Y => z = none ∧ ∃ F9 G9 CN9 NM9 MK9 TP9 PP9 CO9 KN9 : Nat → Int, cM K S V F (aSet K V CN NM MK KN x 1 20 4 idx) F9 G9 CN9 NM9 MK9 KN9 ∧ Y = tW a F9 B K S V ++ cW c G9 CN9 NM9 MK9 TP9 PP9 CO9 KN9) := by
  obtain ⟨mok, tok, ow⟩ := pok2.1 _ _ zj_X1_readSetting
  refine met_ofz EWX_ok mok tok ow (Nat.le_of_ble_eq_true rfl) (fun r p0 e0 s0 m0 ar0 be0 me0 c0 A0 Q0 X hR => ?_)
  obtain ⟨hF6, hF1a, hF1b, hTs, hTk⟩ := hT
  have t0 := hTk idx hi
  have hCN := hI.cn
  obtain ⟨hc0, hc1, hc2, hc3, hNM, hU, hx0, hx1⟩ := hI
  have hb : zand (zshr (G 1) 4) 1 = zand (zshr x (((4 : Nat) : Int) - 4)) 1 ∧ zor (G 1) (zshl 1 4) = 16 * zor x (zshl 1 (((4 : Nat) : Int) - 4)) := by
    have h := z_bit16 (x := x) (w := 4) ⟨hx0, hx1⟩ (by omega)
    rw [hG]
    exact ⟨h.1, h.2.1⟩
  refine zg_blk pok2 X 7 [6] (S' := (9, [(0, zR (c 0)), (1, zR (a 2)), (2, zI 4)], [zI 1, zI (zand (zshr (G 1) 4) 1)], ((tW a (FA K S V F idx) B K S V) ++ (cW c G CN NM MK TP PP CO KN)))) rfl ⟨rfl, trivial⟩ ?_
  refine zg_icmp X 18 rfl rfl (by first | (unfold zin; omega) | exact zand_in _ _) (by first | (unfold zin; omega) | exact zand_in _ _) (fun g1 => ?_) (fun g1 => ?_)
  · simp only [x_cnd] at g1
    refine zg_blk pok2 X 9 [6, 6] (S' := (31, [(0, zR (c 0)), (1, zR (a 2)), (2, zI 4)], [zR (a 2)], ((tW a (FA K S V F idx) B K S V) ++ (cW c (zup G 1 (zor (G 1) (zshl 1 4))) CN NM MK TP PP CO KN)))) rfl ⟨rfl, rfl, rfl, rfl, trivial⟩ ?_
    refine zg_callV pok2 EWX_ok X 2 (vas := []) (vr := []) (Y1 := (tW a (FA K S V F idx) B K S V)) (Y2 := (cW c (zup G 1 (zor (G 1) (zshl 1 4))) CN NM MK TP PP CO KN)) rfl rfl (Or.inl rfl) zj_X10_step rfl rfl rfl rfl (Nat.le_of_ble_eq_true rfl) rfl (zm_step (F := (FA K S V F idx)) (show F 1 ≤ 941 by omega) (show -1 ≤ ((idx : Nat) : Int) ∧ ((idx : Nat) : Int) < 941 by omega) (show -2147483648 ≤ F 6 ∧ F 6 < 2147483648 by omega) (show 0 ≤ F 1 by omega)) ⟨by decide, by decide, by decide, by decide⟩ (fun z9 Y9 hz => ?_)
    obtain ⟨rfl, rfl⟩ := hz
    have i1 : (((idx + 1) : Nat) : Int) < F 1 := by
      have h9 := hTs idx hi (by omega) (by omega)
      omega
    have t1 := hTk (idx + 1) i1
    rw [FA_step hF6 (by omega)]
    refine zg_blk pok2 X 4 [6] (S' := (40, [(0, zR (c 0)), (1, zR (a 2)), (2, zI 4)], [zR (a 2), zI 4, zR (c 1)], ((tW a (FA K S V F (idx + 1)) B K S V) ++ (cW c (zup G 1 (zor (G 1) (zshl 1 4))) CN NM MK TP PP CO KN)))) rfl ⟨rfl, trivial⟩ ?_
    refine zg_gst X (j := 21) rfl rfl rfl ?_
    refine zg_blk pok2 X 3 [] (S' := (46, [(0, zR (c 0)), (1, zR (a 2)), (2, zI 4)], [zI 0, zR (ex 21), zR (a 2), zI 4, zR (c 1)], ((tW a (FA K S V F (idx + 1)) B K S V) ++ (cW c (zup G 1 (zor (G 1) (zshl 1 4))) CN NM MK TP PP CO KN)))) rfl trivial ?_
    refine zg_rld X (j := 21) (row := [1, 0, 0, 0]) rfl rfl (by omega) ?_
    refine zg_cv (S2 := (47, [(0, zR (c 0)), (1, zR (a 2)), (2, zI 4)], [zI 1, zR (a 2), zI 4, zR (c 1)], ((tW a (FA K S V F (idx + 1)) B K S V) ++ (cW c (zup G 1 (zor (G 1) (zshl 1 4))) CN NM MK TP PP CO KN)))) rfl ?_
    refine zg_gst X (j := 22) rfl rfl rfl ?_
    refine zg_blk pok2 X 3 [] (S' := (53, [(0, zR (c 0)), (1, zR (a 2)), (2, zI 4)], [zI 0, zR (ex 22), zI 1, zR (a 2), zI 4, zR (c 1)], ((tW a (FA K S V F (idx + 1)) B K S V) ++ (cW c (zup G 1 (zor (G 1) (zshl 1 4))) CN NM MK TP PP CO KN)))) rfl trivial ?_
    refine zg_rld X (j := 22) (row := [20, 9, 9, 6]) rfl rfl (by omega) ?_
    refine zg_cv (S2 := (54, [(0, zR (c 0)), (1, zR (a 2)), (2, zI 4)], [zI 20, zI 1, zR (a 2), zI 4, zR (c 1)], ((tW a (FA K S V F (idx + 1)) B K S V) ++ (cW c (zup G 1 (zor (G 1) (zshl 1 4))) CN NM MK TP PP CO KN)))) rfl ?_
    refine zg_callV pok2 EWX_ok X 2 (vas := [zI 1, zI 20]) (vr := [zI 4, zR (c 1)]) (Y1 := (tW a (FA K S V F (idx + 1)) B K S V)) (Y2 := (cW c (zup G 1 (zor (G 1) (zshl 1 4))) CN NM MK TP PP CO KN)) rfl rfl (Or.inl rfl) zj_X10_takeNumber rfl rfl rfl rfl (Nat.le_of_ble_eq_true rfl) rfl (zm_takeNumberA (z1 := 1) (z2 := 20) (idx := (idx + 1)) (by omega) (by omega) ⟨hF6, hF1a, hF1b, hTs, hTk⟩ i1) ⟨by decide, by decide, by decide, by decide⟩ (fun z9 Y9 hz => ?_)
    rcases hz with ⟨hq1, rfl, rfl⟩ | ⟨hq1, rfl, F9b, hfd, rfl⟩
    · have hm1 := nm_ok hq1
      have i2 : (((idx + 2) : Nat) : Int) < F 1 := by
        have h9 := hTs (idx + 1) i1 (by omega) (by omega)
        omega
      have t2 := hTk (idx + 2) i2
      refine zg_blk pok2 X 1 [7] (S' := (58, [(0, zR (c 0)), (1, zR (a 2)), (2, zI 4)], [], ((tW a (FA K S V F (idx + 2)) B K S V) ++ (cW c (zup G 1 (zor (G 1) (zshl 1 4))) (zup CN 4 (V (idx + 1))) NM MK TP PP CO KN)))) rfl ⟨rfl, rfl, (show zidx 4 8 from by unfold zidx; omega), trivial⟩ ?_
      refine zg_retv X hR rfl rfl (by decide) (by decide) ?_
      refine ⟨rfl, _, _, _, _, _, _, _, _, _, ?_, rfl⟩
      unfold aSet
      rw [if_neg (show ¬ zand (zshr x (((4 : Nat) : Int) - 4)) 1 = 1 by rw [← hb.1]; omega), if_pos hq1]
      exact Or.inl ⟨rfl, rfl, rfl, rfl, rfl, rfl, hb.2⟩
    · refine zg_blk pok2 X 1 [7] (S' := (58, [(0, zR (c 0)), (1, zR (a 2)), (2, zI 4)], [], ((tW a F9b B K S V) ++ (cW c (zup G 1 (zor (G 1) (zshl 1 4))) (zup CN 4 (-1)) NM MK TP PP CO KN)))) rfl ⟨rfl, rfl, (show zidx 4 8 from by unfold zidx; omega), trivial⟩ ?_
      refine zg_retv X hR rfl rfl (by decide) (by decide) ?_
      refine ⟨rfl, _, _, _, _, _, _, _, _, _, ?_, rfl⟩
      unfold aSet
      rw [if_neg (show ¬ zand (zshr x (((4 : Nat) : Int) - 4)) 1 = 1 by rw [← hb.1]; omega), if_neg hq1]
      exact Or.inr ⟨hq1, hfd⟩
  · simp only [x_ncd] at g1
    refine zg_blk pok2 X 2 [] (S' := (14, [(0, zR (c 0)), (1, zR (a 2)), (2, zI 4)], [zI 3, zR (a 2)], ((tW a (FA K S V F idx) B K S V) ++ (cW c G CN NM MK TP PP CO KN)))) rfl trivial ?_
    refine zg_callV pok2 EWX_ok X 2 (vas := [zI 3]) (vr := []) (Y1 := (tW a (FA K S V F idx) B K S V)) (Y2 := (cW c G CN NM MK TP PP CO KN)) rfl rfl (Or.inl rfl) zj_X10_fail rfl rfl rfl rfl (Nat.le_of_ble_eq_true rfl) rfl (zm_fail (F := (FA K S V F idx)) (show -2147483648 ≤ F 6 ∧ F 6 < 2147483648 by omega)) ⟨by decide, by decide, by decide, by decide⟩ (fun z9 Y9 hz => ?_)
    obtain ⟨rfl, rfl⟩ := hz
    have hfd := FA_fail (K := K) (S := S) (V := V) (F := F) (idx := idx) (m := 3) hF6 (by decide) (by decide)
    refine zg_retv X hR rfl rfl (by decide) (by decide) ?_
    refine ⟨rfl, _, _, _, _, _, _, _, _, _, ?_, rfl⟩
    unfold aSet
    rw [if_pos (show zand (zshr x (((4 : Nat) : Int) - 4)) 1 = 1 by rw [← hb.1]; omega)]
    exact Or.inr ⟨bad_ne (by decide), hfd⟩
set_option maxRecDepth 4000 in
theorem zm_readSetting5 (hk0 : K idx = 2) (hT : TT F K S V) (hi : (idx : Int) < F 1) (hI : INV CN NM x) (hG : G 1 = 16 * x) : ZMet (EWX xs) D cy l ex mt2_X1_readSetting (2, 0, 0, 44) (tW a (FA K S V F idx) B K S V ++ cW c G CN NM MK TP PP CO KN) [zR (c 0), zR (a 2), zI 5] (fun z Y => z = none ∧ ∃ F9 G9 CN9 NM9 MK9 TP9 PP9 CO9 KN9 : Nat → Int, cM K S V F (aSet K V CN NM MK KN x 0 9 5 idx) F9 G9 CN9 NM9 MK9 KN9 ∧ Y = tW a F9 B K S V ++ cW c G9 CN9 NM9 MK9 TP9 PP9 CO9 KN9) := by
  obtain ⟨mok, tok, ow⟩ := pok2.1 _ _ zj_X1_readSetting
  refine met_ofz EWX_ok mok tok ow (Nat.le_of_ble_eq_true rfl) (fun r p0 e0 s0 m0 ar0 be0 me0 c0 A0 Q0 X hR => ?_)
  obtain ⟨hF6, hF1a, hF1b, hTs, hTk⟩ := hT
  have t0 := hTk idx hi
  have hCN := hI.cn
  obtain ⟨hc0, hc1, hc2, hc3, hNM, hU, hx0, hx1⟩ := hI
  have hb : zand (zshr (G 1) 5) 1 = zand (zshr x (((5 : Nat) : Int) - 4)) 1 ∧ zor (G 1) (zshl 1 5) = 16 * zor x (zshl 1 (((5 : Nat) : Int) - 4)) := by
    have h := z_bit16 (x := x) (w := 5) ⟨hx0, hx1⟩ (by omega)
    rw [hG]
    exact ⟨h.1, h.2.1⟩
  refine zg_blk pok2 X 7 [6] (S' := (9, [(0, zR (c 0)), (1, zR (a 2)), (2, zI 5)], [zI 1, zI (zand (zshr (G 1) 5) 1)], ((tW a (FA K S V F idx) B K S V) ++ (cW c G CN NM MK TP PP CO KN)))) rfl ⟨rfl, trivial⟩ ?_
  refine zg_icmp X 18 rfl rfl (by first | (unfold zin; omega) | exact zand_in _ _) (by first | (unfold zin; omega) | exact zand_in _ _) (fun g1 => ?_) (fun g1 => ?_)
  · simp only [x_cnd] at g1
    refine zg_blk pok2 X 9 [6, 6] (S' := (31, [(0, zR (c 0)), (1, zR (a 2)), (2, zI 5)], [zR (a 2)], ((tW a (FA K S V F idx) B K S V) ++ (cW c (zup G 1 (zor (G 1) (zshl 1 5))) CN NM MK TP PP CO KN)))) rfl ⟨rfl, rfl, rfl, rfl, trivial⟩ ?_
    refine zg_callV pok2 EWX_ok X 2 (vas := []) (vr := []) (Y1 := (tW a (FA K S V F idx) B K S V)) (Y2 := (cW c (zup G 1 (zor (G 1) (zshl 1 5))) CN NM MK TP PP CO KN)) rfl rfl (Or.inl rfl) zj_X10_step rfl rfl rfl rfl (Nat.le_of_ble_eq_true rfl) rfl (zm_step (F := (FA K S V F idx)) (show F 1 ≤ 941 by omega) (show -1 ≤ ((idx : Nat) : Int) ∧ ((idx : Nat) : Int) < 941 by omega) (show -2147483648 ≤ F 6 ∧ F 6 < 2147483648 by omega) (show 0 ≤ F 1 by omega)) ⟨by decide, by decide, by decide, by decide⟩ (fun z9 Y9 hz => ?_)
    obtain ⟨rfl, rfl⟩ := hz
    have i1 : (((idx + 1) : Nat) : Int) < F 1 := by
      have h9 := hTs idx hi (by omega) (by omega)
      omega
    have t1 := hTk (idx + 1) i1
    rw [FA_step hF6 (by omega)]
    refine zg_blk pok2 X 4 [6] (S' := (40, [(0, zR (c 0)), (1, zR (a 2)), (2, zI 5)], [zR (a 2), zI 5, zR (c 1)], ((tW a (FA K S V F (idx + 1)) B K S V) ++ (cW c (zup G 1 (zor (G 1) (zshl 1 5))) CN NM MK TP PP CO KN)))) rfl ⟨rfl, trivial⟩ ?_
    refine zg_gst X (j := 21) rfl rfl rfl ?_
    refine zg_blk pok2 X 3 [] (S' := (46, [(0, zR (c 0)), (1, zR (a 2)), (2, zI 5)], [zI 1, zR (ex 21), zR (a 2), zI 5, zR (c 1)], ((tW a (FA K S V F (idx + 1)) B K S V) ++ (cW c (zup G 1 (zor (G 1) (zshl 1 5))) CN NM MK TP PP CO KN)))) rfl trivial ?_
    refine zg_rld X (j := 21) (row := [1, 0, 0, 0]) rfl rfl (by omega) ?_
    refine zg_cv (S2 := (47, [(0, zR (c 0)), (1, zR (a 2)), (2, zI 5)], [zI 0, zR (a 2), zI 5, zR (c 1)], ((tW a (FA K S V F (idx + 1)) B K S V) ++ (cW c (zup G 1 (zor (G 1) (zshl 1 5))) CN NM MK TP PP CO KN)))) rfl ?_
    refine zg_gst X (j := 22) rfl rfl rfl ?_
    refine zg_blk pok2 X 3 [] (S' := (53, [(0, zR (c 0)), (1, zR (a 2)), (2, zI 5)], [zI 1, zR (ex 22), zI 0, zR (a 2), zI 5, zR (c 1)], ((tW a (FA K S V F (idx + 1)) B K S V) ++ (cW c (zup G 1 (zor (G 1) (zshl 1 5))) CN NM MK TP PP CO KN)))) rfl trivial ?_
    refine zg_rld X (j := 22) (row := [20, 9, 9, 6]) rfl rfl (by omega) ?_
    refine zg_cv (S2 := (54, [(0, zR (c 0)), (1, zR (a 2)), (2, zI 5)], [zI 9, zI 0, zR (a 2), zI 5, zR (c 1)], ((tW a (FA K S V F (idx + 1)) B K S V) ++ (cW c (zup G 1 (zor (G 1) (zshl 1 5))) CN NM MK TP PP CO KN)))) rfl ?_
    refine zg_callV pok2 EWX_ok X 2 (vas := [zI 0, zI 9]) (vr := [zI 5, zR (c 1)]) (Y1 := (tW a (FA K S V F (idx + 1)) B K S V)) (Y2 := (cW c (zup G 1 (zor (G 1) (zshl 1 5))) CN NM MK TP PP CO KN)) rfl rfl (Or.inl rfl) zj_X10_takeNumber rfl rfl rfl rfl (Nat.le_of_ble_eq_true rfl) rfl (zm_takeNumberA (z1 := 0) (z2 := 9) (idx := (idx + 1)) (by omega) (by omega) ⟨hF6, hF1a, hF1b, hTs, hTk⟩ i1) ⟨by decide, by decide, by decide, by decide⟩ (fun z9 Y9 hz => ?_)
    rcases hz with ⟨hq1, rfl, rfl⟩ | ⟨hq1, rfl, F9b, hfd, rfl⟩
    · have hm1 := nm_ok hq1
      have i2 : (((idx + 2) : Nat) : Int) < F 1 := by
        have h9 := hTs (idx + 1) i1 (by omega) (by omega)
        omega
      have t2 := hTk (idx + 2) i2
      refine zg_blk pok2 X 1 [7] (S' := (58, [(0, zR (c 0)), (1, zR (a 2)), (2, zI 5)], [], ((tW a (FA K S V F (idx + 2)) B K S V) ++ (cW c (zup G 1 (zor (G 1) (zshl 1 5))) (zup CN 5 (V (idx + 1))) NM MK TP PP CO KN)))) rfl ⟨rfl, rfl, (show zidx 5 8 from by unfold zidx; omega), trivial⟩ ?_
      refine zg_retv X hR rfl rfl (by decide) (by decide) ?_
      refine ⟨rfl, _, _, _, _, _, _, _, _, _, ?_, rfl⟩
      unfold aSet
      rw [if_neg (show ¬ zand (zshr x (((5 : Nat) : Int) - 4)) 1 = 1 by rw [← hb.1]; omega), if_pos hq1]
      exact Or.inl ⟨rfl, rfl, rfl, rfl, rfl, rfl, hb.2⟩
    · refine zg_blk pok2 X 1 [7] (S' := (58, [(0, zR (c 0)), (1, zR (a 2)), (2, zI 5)], [], ((tW a F9b B K S V) ++ (cW c (zup G 1 (zor (G 1) (zshl 1 5))) (zup CN 5 (-1)) NM MK TP PP CO KN)))) rfl ⟨rfl, rfl, (show zidx 5 8 from by unfold zidx; omega), trivial⟩ ?_
      refine zg_retv X hR rfl rfl (by decide) (by decide) ?_
      refine ⟨rfl, _, _, _, _, _, _, _, _, _, ?_, rfl⟩
      unfold aSet
      rw [if_neg (show ¬ zand (zshr x (((5 : Nat) : Int) - 4)) 1 = 1 by rw [← hb.1]; omega), if_neg hq1]
      exact Or.inr ⟨hq1, hfd⟩
  · simp only [x_ncd] at g1
    refine zg_blk pok2 X 2 [] (S' := (14, [(0, zR (c 0)), (1, zR (a 2)), (2, zI 5)], [zI 3, zR (a 2)], ((tW a (FA K S V F idx) B K S V) ++ (cW c G CN NM MK TP PP CO KN)))) rfl trivial ?_
    refine zg_callV pok2 EWX_ok X 2 (vas := [zI 3]) (vr := []) (Y1 := (tW a (FA K S V F idx) B K S V)) (Y2 := (cW c G CN NM MK TP PP CO KN)) rfl rfl (Or.inl rfl) zj_X10_fail rfl rfl rfl rfl (Nat.le_of_ble_eq_true rfl) rfl (zm_fail (F := (FA K S V F idx)) (show -2147483648 ≤ F 6 ∧ F 6 < 2147483648 by omega)) ⟨by decide, by decide, by decide, by decide⟩ (fun z9 Y9 hz => ?_)
    obtain ⟨rfl, rfl⟩ := hz
    have hfd := FA_fail (K := K) (S := S) (V := V) (F := F) (idx := idx) (m := 3) hF6 (by decide) (by decide)
    refine zg_retv X hR rfl rfl (by decide) (by decide) ?_
    refine ⟨rfl, _, _, _, _, _, _, _, _, _, ?_, rfl⟩
    unfold aSet
    rw [if_pos (show zand (zshr x (((5 : Nat) : Int) - 4)) 1 = 1 by rw [← hb.1]; omega)]
    exact Or.inr ⟨bad_ne (by decide), hfd⟩
set_option maxRecDepth 4000 in
theorem zm_readSetting6 (hk0 : K idx = 2) (hT : TT F K S V) (hi : (idx : Int) < F 1) (hI : INV CN NM x) (hG : G 1 = 16 * x) : ZMet (EWX xs) D cy l ex mt2_X1_readSetting (2, 0, 0, 44) (tW a (FA K S V F idx) B K S V ++ cW c G CN NM MK TP PP CO KN) [zR (c 0), zR (a 2), zI 6] (fun z Y => z = none ∧ ∃ F9 G9 CN9 NM9 MK9 TP9 PP9 CO9 KN9 : Nat → Int, cM K S V F (aSet K V CN NM MK KN x 0 9 6 idx) F9 G9 CN9 NM9 MK9 KN9 ∧ Y = tW a F9 B K S V ++ cW c G9 CN9 NM9 MK9 TP9 PP9 CO9 KN9) := by
  obtain ⟨mok, tok, ow⟩ := pok2.1 _ _ zj_X1_readSetting
  refine met_ofz EWX_ok mok tok ow (Nat.le_of_ble_eq_true rfl) (fun r p0 e0 s0 m0 ar0 be0 me0 c0 A0 Q0 X hR => ?_)
  obtain ⟨hF6, hF1a, hF1b, hTs, hTk⟩ := hT
  have t0 := hTk idx hi
  have hCN := hI.cn
  obtain ⟨hc0, hc1, hc2, hc3, hNM, hU, hx0, hx1⟩ := hI
  have hb : zand (zshr (G 1) 6) 1 = zand (zshr x (((6 : Nat) : Int) - 4)) 1 ∧ zor (G 1) (zshl 1 6) = 16 * zor x (zshl 1 (((6 : Nat) : Int) - 4)) := by
    have h := z_bit16 (x := x) (w := 6) ⟨hx0, hx1⟩ (by omega)
    rw [hG]
    exact ⟨h.1, h.2.1⟩
  refine zg_blk pok2 X 7 [6] (S' := (9, [(0, zR (c 0)), (1, zR (a 2)), (2, zI 6)], [zI 1, zI (zand (zshr (G 1) 6) 1)], ((tW a (FA K S V F idx) B K S V) ++ (cW c G CN NM MK TP PP CO KN)))) rfl ⟨rfl, trivial⟩ ?_
  refine zg_icmp X 18 rfl rfl (by first | (unfold zin; omega) | exact zand_in _ _) (by first | (unfold zin; omega) | exact zand_in _ _) (fun g1 => ?_) (fun g1 => ?_)
  · simp only [x_cnd] at g1
    refine zg_blk pok2 X 9 [6, 6] (S' := (31, [(0, zR (c 0)), (1, zR (a 2)), (2, zI 6)], [zR (a 2)], ((tW a (FA K S V F idx) B K S V) ++ (cW c (zup G 1 (zor (G 1) (zshl 1 6))) CN NM MK TP PP CO KN)))) rfl ⟨rfl, rfl, rfl, rfl, trivial⟩ ?_
    refine zg_callV pok2 EWX_ok X 2 (vas := []) (vr := []) (Y1 := (tW a (FA K S V F idx) B K S V)) (Y2 := (cW c (zup G 1 (zor (G 1) (zshl 1 6))) CN NM MK TP PP CO KN)) rfl rfl (Or.inl rfl) zj_X10_step rfl rfl rfl rfl (Nat.le_of_ble_eq_true rfl) rfl (zm_step (F := (FA K S V F idx)) (show F 1 ≤ 941 by omega) (show -1 ≤ ((idx : Nat) : Int) ∧ ((idx : Nat) : Int) < 941 by omega) (show -2147483648 ≤ F 6 ∧ F 6 < 2147483648 by omega) (show 0 ≤ F 1 by omega)) ⟨by decide, by decide, by decide, by decide⟩ (fun z9 Y9 hz => ?_)
    obtain ⟨rfl, rfl⟩ := hz
    have i1 : (((idx + 1) : Nat) : Int) < F 1 := by
      have h9 := hTs idx hi (by omega) (by omega)
      omega
    have t1 := hTk (idx + 1) i1
    rw [FA_step hF6 (by omega)]
    refine zg_blk pok2 X 4 [6] (S' := (40, [(0, zR (c 0)), (1, zR (a 2)), (2, zI 6)], [zR (a 2), zI 6, zR (c 1)], ((tW a (FA K S V F (idx + 1)) B K S V) ++ (cW c (zup G 1 (zor (G 1) (zshl 1 6))) CN NM MK TP PP CO KN)))) rfl ⟨rfl, trivial⟩ ?_
    refine zg_gst X (j := 21) rfl rfl rfl ?_
    refine zg_blk pok2 X 3 [] (S' := (46, [(0, zR (c 0)), (1, zR (a 2)), (2, zI 6)], [zI 2, zR (ex 21), zR (a 2), zI 6, zR (c 1)], ((tW a (FA K S V F (idx + 1)) B K S V) ++ (cW c (zup G 1 (zor (G 1) (zshl 1 6))) CN NM MK TP PP CO KN)))) rfl trivial ?_
    refine zg_rld X (j := 21) (row := [1, 0, 0, 0]) rfl rfl (by omega) ?_
    refine zg_cv (S2 := (47, [(0, zR (c 0)), (1, zR (a 2)), (2, zI 6)], [zI 0, zR (a 2), zI 6, zR (c 1)], ((tW a (FA K S V F (idx + 1)) B K S V) ++ (cW c (zup G 1 (zor (G 1) (zshl 1 6))) CN NM MK TP PP CO KN)))) rfl ?_
    refine zg_gst X (j := 22) rfl rfl rfl ?_
    refine zg_blk pok2 X 3 [] (S' := (53, [(0, zR (c 0)), (1, zR (a 2)), (2, zI 6)], [zI 2, zR (ex 22), zI 0, zR (a 2), zI 6, zR (c 1)], ((tW a (FA K S V F (idx + 1)) B K S V) ++ (cW c (zup G 1 (zor (G 1) (zshl 1 6))) CN NM MK TP PP CO KN)))) rfl trivial ?_
    refine zg_rld X (j := 22) (row := [20, 9, 9, 6]) rfl rfl (by omega) ?_
    refine zg_cv (S2 := (54, [(0, zR (c 0)), (1, zR (a 2)), (2, zI 6)], [zI 9, zI 0, zR (a 2), zI 6, zR (c 1)], ((tW a (FA K S V F (idx + 1)) B K S V) ++ (cW c (zup G 1 (zor (G 1) (zshl 1 6))) CN NM MK TP PP CO KN)))) rfl ?_
    refine zg_callV pok2 EWX_ok X 2 (vas := [zI 0, zI 9]) (vr := [zI 6, zR (c 1)]) (Y1 := (tW a (FA K S V F (idx + 1)) B K S V)) (Y2 := (cW c (zup G 1 (zor (G 1) (zshl 1 6))) CN NM MK TP PP CO KN)) rfl rfl (Or.inl rfl) zj_X10_takeNumber rfl rfl rfl rfl (Nat.le_of_ble_eq_true rfl) rfl (zm_takeNumberA (z1 := 0) (z2 := 9) (idx := (idx + 1)) (by omega) (by omega) ⟨hF6, hF1a, hF1b, hTs, hTk⟩ i1) ⟨by decide, by decide, by decide, by decide⟩ (fun z9 Y9 hz => ?_)
    rcases hz with ⟨hq1, rfl, rfl⟩ | ⟨hq1, rfl, F9b, hfd, rfl⟩
    · have hm1 := nm_ok hq1
      have i2 : (((idx + 2) : Nat) : Int) < F 1 := by
        have h9 := hTs (idx + 1) i1 (by omega) (by omega)
        omega
      have t2 := hTk (idx + 2) i2
      refine zg_blk pok2 X 1 [7] (S' := (58, [(0, zR (c 0)), (1, zR (a 2)), (2, zI 6)], [], ((tW a (FA K S V F (idx + 2)) B K S V) ++ (cW c (zup G 1 (zor (G 1) (zshl 1 6))) (zup CN 6 (V (idx + 1))) NM MK TP PP CO KN)))) rfl ⟨rfl, rfl, (show zidx 6 8 from by unfold zidx; omega), trivial⟩ ?_
      refine zg_retv X hR rfl rfl (by decide) (by decide) ?_
      refine ⟨rfl, _, _, _, _, _, _, _, _, _, ?_, rfl⟩
      unfold aSet
      rw [if_neg (show ¬ zand (zshr x (((6 : Nat) : Int) - 4)) 1 = 1 by rw [← hb.1]; omega), if_pos hq1]
      exact Or.inl ⟨rfl, rfl, rfl, rfl, rfl, rfl, hb.2⟩
    · refine zg_blk pok2 X 1 [7] (S' := (58, [(0, zR (c 0)), (1, zR (a 2)), (2, zI 6)], [], ((tW a F9b B K S V) ++ (cW c (zup G 1 (zor (G 1) (zshl 1 6))) (zup CN 6 (-1)) NM MK TP PP CO KN)))) rfl ⟨rfl, rfl, (show zidx 6 8 from by unfold zidx; omega), trivial⟩ ?_
      refine zg_retv X hR rfl rfl (by decide) (by decide) ?_
      refine ⟨rfl, _, _, _, _, _, _, _, _, _, ?_, rfl⟩
      unfold aSet
      rw [if_neg (show ¬ zand (zshr x (((6 : Nat) : Int) - 4)) 1 = 1 by rw [← hb.1]; omega), if_neg hq1]
      exact Or.inr ⟨hq1, hfd⟩
  · simp only [x_ncd] at g1
    refine zg_blk pok2 X 2 [] (S' := (14, [(0, zR (c 0)), (1, zR (a 2)), (2, zI 6)], [zI 3, zR (a 2)], ((tW a (FA K S V F idx) B K S V) ++ (cW c G CN NM MK TP PP CO KN)))) rfl trivial ?_
    refine zg_callV pok2 EWX_ok X 2 (vas := [zI 3]) (vr := []) (Y1 := (tW a (FA K S V F idx) B K S V)) (Y2 := (cW c G CN NM MK TP PP CO KN)) rfl rfl (Or.inl rfl) zj_X10_fail rfl rfl rfl rfl (Nat.le_of_ble_eq_true rfl) rfl (zm_fail (F := (FA K S V F idx)) (show -2147483648 ≤ F 6 ∧ F 6 < 2147483648 by omega)) ⟨by decide, by decide, by decide, by decide⟩ (fun z9 Y9 hz => ?_)
    obtain ⟨rfl, rfl⟩ := hz
    have hfd := FA_fail (K := K) (S := S) (V := V) (F := F) (idx := idx) (m := 3) hF6 (by decide) (by decide)
    refine zg_retv X hR rfl rfl (by decide) (by decide) ?_
    refine ⟨rfl, _, _, _, _, _, _, _, _, _, ?_, rfl⟩
    unfold aSet
    rw [if_pos (show zand (zshr x (((6 : Nat) : Int) - 4)) 1 = 1 by rw [← hb.1]; omega)]
    exact Or.inr ⟨bad_ne (by decide), hfd⟩
set_option maxRecDepth 4000 in
theorem zm_readSetting7 (hk0 : K idx = 2) (hT : TT F K S V) (hi : (idx : Int) < F 1) (hI : INV CN NM x) (hG : G 1 = 16 * x) : ZMet (EWX xs) D cy l ex mt2_X1_readSetting (2, 0, 0, 44) (tW a (FA K S V F idx) B K S V ++ cW c G CN NM MK TP PP CO KN) [zR (c 0), zR (a 2), zI 7] (fun z Y => z = none ∧ ∃ F9 G9 CN9 NM9 MK9 TP9 PP9 CO9 KN9 : Nat → Int, cM K S V F (aSet K V CN NM MK KN x 0 6 7 idx) F9 G9 CN9 NM9 MK9 KN9 ∧ Y = tW a F9 B K S V ++ cW c G9 CN9 NM9 MK9 TP9 PP9 CO9 KN9) := by
  obtain ⟨mok, tok, ow⟩ := pok2.1 _ _ zj_X1_readSetting
  refine met_ofz EWX_ok mok tok ow (Nat.le_of_ble_eq_true rfl) (fun r p0 e0 s0 m0 ar0 be0 me0 c0 A0 Q0 X hR => ?_)
  obtain ⟨hF6, hF1a, hF1b, hTs, hTk⟩ := hT
  have t0 := hTk idx hi
  have hCN := hI.cn
  obtain ⟨hc0, hc1, hc2, hc3, hNM, hU, hx0, hx1⟩ := hI
  have hb : zand (zshr (G 1) 7) 1 = zand (zshr x (((7 : Nat) : Int) - 4)) 1 ∧ zor (G 1) (zshl 1 7) = 16 * zor x (zshl 1 (((7 : Nat) : Int) - 4)) := by
    have h := z_bit16 (x := x) (w := 7) ⟨hx0, hx1⟩ (by omega)
    rw [hG]
    exact ⟨h.1, h.2.1⟩
  refine zg_blk pok2 X 7 [6] (S' := (9, [(0, zR (c 0)), (1, zR (a 2)), (2, zI 7)], [zI 1, zI (zand (zshr (G 1) 7) 1)], ((tW a (FA K S V F idx) B K S V) ++ (cW c G CN NM MK TP PP CO KN)))) rfl ⟨rfl, trivial⟩ ?_
  refine zg_icmp X 18 rfl rfl (by first | (unfold zin; omega) | exact zand_in _ _) (by first | (unfold zin; omega) | exact zand_in _ _) (fun g1 => ?_) (fun g1 => ?_)
  · simp only [x_cnd] at g1
    refine zg_blk pok2 X 9 [6, 6] (S' := (31, [(0, zR (c 0)), (1, zR (a 2)), (2, zI 7)], [zR (a 2)], ((tW a (FA K S V F idx) B K S V) ++ (cW c (zup G 1 (zor (G 1) (zshl 1 7))) CN NM MK TP PP CO KN)))) rfl ⟨rfl, rfl, rfl, rfl, trivial⟩ ?_
    refine zg_callV pok2 EWX_ok X 2 (vas := []) (vr := []) (Y1 := (tW a (FA K S V F idx) B K S V)) (Y2 := (cW c (zup G 1 (zor (G 1) (zshl 1 7))) CN NM MK TP PP CO KN)) rfl rfl (Or.inl rfl) zj_X10_step rfl rfl rfl rfl (Nat.le_of_ble_eq_true rfl) rfl (zm_step (F := (FA K S V F idx)) (show F 1 ≤ 941 by omega) (show -1 ≤ ((idx : Nat) : Int) ∧ ((idx : Nat) : Int) < 941 by omega) (show -2147483648 ≤ F 6 ∧ F 6 < 2147483648 by omega) (show 0 ≤ F 1 by omega)) ⟨by decide, by decide, by decide, by decide⟩ (fun z9 Y9 hz => ?_)
    obtain ⟨rfl, rfl⟩ := hz
    have i1 : (((idx + 1) : Nat) : Int) < F 1 := by
      have h9 := hTs idx hi (by omega) (by omega)
      omega
    have t1 := hTk (idx + 1) i1
    rw [FA_step hF6 (by omega)]
    refine zg_blk pok2 X 4 [6] (S' := (40, [(0, zR (c 0)), (1, zR (a 2)), (2, zI 7)], [zR (a 2), zI 7, zR (c 1)], ((tW a (FA K S V F (idx + 1)) B K S V) ++ (cW c (zup G 1 (zor (G 1) (zshl 1 7))) CN NM MK TP PP CO KN)))) rfl ⟨rfl, trivial⟩ ?_
    refine zg_gst X (j := 21) rfl rfl rfl ?_
    refine zg_blk pok2 X 3 [] (S' := (46, [(0, zR (c 0)), (1, zR (a 2)), (2, zI 7)], [zI 3, zR (ex 21), zR (a 2), zI 7, zR (c 1)], ((tW a (FA K S V F (idx + 1)) B K S V) ++ (cW c (zup G 1 (zor (G 1) (zshl 1 7))) CN NM MK TP PP CO KN)))) rfl trivial ?_
    refine zg_rld X (j := 21) (row := [1, 0, 0, 0]) rfl rfl (by omega) ?_
    refine zg_cv (S2 := (47, [(0, zR (c 0)), (1, zR (a 2)), (2, zI 7)], [zI 0, zR (a 2), zI 7, zR (c 1)], ((tW a (FA K S V F (idx + 1)) B K S V) ++ (cW c (zup G 1 (zor (G 1) (zshl 1 7))) CN NM MK TP PP CO KN)))) rfl ?_
    refine zg_gst X (j := 22) rfl rfl rfl ?_
    refine zg_blk pok2 X 3 [] (S' := (53, [(0, zR (c 0)), (1, zR (a 2)), (2, zI 7)], [zI 3, zR (ex 22), zI 0, zR (a 2), zI 7, zR (c 1)], ((tW a (FA K S V F (idx + 1)) B K S V) ++ (cW c (zup G 1 (zor (G 1) (zshl 1 7))) CN NM MK TP PP CO KN)))) rfl trivial ?_
    refine zg_rld X (j := 22) (row := [20, 9, 9, 6]) rfl rfl (by omega) ?_
    refine zg_cv (S2 := (54, [(0, zR (c 0)), (1, zR (a 2)), (2, zI 7)], [zI 6, zI 0, zR (a 2), zI 7, zR (c 1)], ((tW a (FA K S V F (idx + 1)) B K S V) ++ (cW c (zup G 1 (zor (G 1) (zshl 1 7))) CN NM MK TP PP CO KN)))) rfl ?_
    refine zg_callV pok2 EWX_ok X 2 (vas := [zI 0, zI 6]) (vr := [zI 7, zR (c 1)]) (Y1 := (tW a (FA K S V F (idx + 1)) B K S V)) (Y2 := (cW c (zup G 1 (zor (G 1) (zshl 1 7))) CN NM MK TP PP CO KN)) rfl rfl (Or.inl rfl) zj_X10_takeNumber rfl rfl rfl rfl (Nat.le_of_ble_eq_true rfl) rfl (zm_takeNumberA (z1 := 0) (z2 := 6) (idx := (idx + 1)) (by omega) (by omega) ⟨hF6, hF1a, hF1b, hTs, hTk⟩ i1) ⟨by decide, by decide, by decide, by decide⟩ (fun z9 Y9 hz => ?_)
    rcases hz with ⟨hq1, rfl, rfl⟩ | ⟨hq1, rfl, F9b, hfd, rfl⟩
    · have hm1 := nm_ok hq1
      have i2 : (((idx + 2) : Nat) : Int) < F 1 := by
        have h9 := hTs (idx + 1) i1 (by omega) (by omega)
        omega
      have t2 := hTk (idx + 2) i2
      refine zg_blk pok2 X 1 [7] (S' := (58, [(0, zR (c 0)), (1, zR (a 2)), (2, zI 7)], [], ((tW a (FA K S V F (idx + 2)) B K S V) ++ (cW c (zup G 1 (zor (G 1) (zshl 1 7))) (zup CN 7 (V (idx + 1))) NM MK TP PP CO KN)))) rfl ⟨rfl, rfl, (show zidx 7 8 from by unfold zidx; omega), trivial⟩ ?_
      refine zg_retv X hR rfl rfl (by decide) (by decide) ?_
      refine ⟨rfl, _, _, _, _, _, _, _, _, _, ?_, rfl⟩
      unfold aSet
      rw [if_neg (show ¬ zand (zshr x (((7 : Nat) : Int) - 4)) 1 = 1 by rw [← hb.1]; omega), if_pos hq1]
      exact Or.inl ⟨rfl, rfl, rfl, rfl, rfl, rfl, hb.2⟩
    · refine zg_blk pok2 X 1 [7] (S' := (58, [(0, zR (c 0)), (1, zR (a 2)), (2, zI 7)], [], ((tW a F9b B K S V) ++ (cW c (zup G 1 (zor (G 1) (zshl 1 7))) (zup CN 7 (-1)) NM MK TP PP CO KN)))) rfl ⟨rfl, rfl, (show zidx 7 8 from by unfold zidx; omega), trivial⟩ ?_
      refine zg_retv X hR rfl rfl (by decide) (by decide) ?_
      refine ⟨rfl, _, _, _, _, _, _, _, _, _, ?_, rfl⟩
      unfold aSet
      rw [if_neg (show ¬ zand (zshr x (((7 : Nat) : Int) - 4)) 1 = 1 by rw [← hb.1]; omega), if_neg hq1]
      exact Or.inr ⟨hq1, hfd⟩
  · simp only [x_ncd] at g1
    refine zg_blk pok2 X 2 [] (S' := (14, [(0, zR (c 0)), (1, zR (a 2)), (2, zI 7)], [zI 3, zR (a 2)], ((tW a (FA K S V F idx) B K S V) ++ (cW c G CN NM MK TP PP CO KN)))) rfl trivial ?_
    refine zg_callV pok2 EWX_ok X 2 (vas := [zI 3]) (vr := []) (Y1 := (tW a (FA K S V F idx) B K S V)) (Y2 := (cW c G CN NM MK TP PP CO KN)) rfl rfl (Or.inl rfl) zj_X10_fail rfl rfl rfl rfl (Nat.le_of_ble_eq_true rfl) rfl (zm_fail (F := (FA K S V F idx)) (show -2147483648 ≤ F 6 ∧ F 6 < 2147483648 by omega)) ⟨by decide, by decide, by decide, by decide⟩ (fun z9 Y9 hz => ?_)
    obtain ⟨rfl, rfl⟩ := hz
    have hfd := FA_fail (K := K) (S := S) (V := V) (F := F) (idx := idx) (m := 3) hF6 (by decide) (by decide)
    refine zg_retv X hR rfl rfl (by decide) (by decide) ?_
    refine ⟨rfl, _, _, _, _, _, _, _, _, _, ?_, rfl⟩
    unfold aSet
    rw [if_pos (show zand (zshr x (((7 : Nat) : Int) - 4)) 1 = 1 by rw [← hb.1]; omega)]
    exact Or.inr ⟨bad_ne (by decide), hfd⟩
set_option maxRecDepth 4000 in
theorem zj_X1_readPerson : PR2[220]? = some mt2_X1_readPerson := rfl
set_option maxRecDepth 4000 in
theorem zm_readPerson {pn : Int} (hpn : 0 ≤ pn ∧ pn < 6) (hT : TT F K S V) (hi : (idx : Int) < F 1) (hCN : ∀ s, s < 4 → 0 ≤ CN s ∧ CN s ≤ 10) (hNM : ∀ k, zin64 (NM k)) (hU : Uq CN NM) (hG : G 1 = 16 * x) : ZMet (EWX xs) D cy l ex mt2_X1_readPerson (2, 0, 0, 47) (tW a (FA K S V F idx) B K S V ++ cW c G CN NM MK TP PP CO KN) [zR (c 0), zR (a 2), zI pn] (fun z Y => z = none ∧ ∃ F9 G9 CN9 NM9 MK9 TP9 PP9 CO9 KN9 : Nat → Int, cM K S V F (aPers K V CN NM MK KN x idx) F9 G9 CN9 NM9 MK9 KN9 ∧ Y = tW a F9 B K S V ++ cW c G9 CN9 NM9 MK9 TP9 PP9 CO9 KN9) := by
  obtain ⟨mok, tok, ow⟩ := pok2.1 _ _ zj_X1_readPerson
  refine met_ofz EWX_ok mok tok ow (Nat.le_of_ble_eq_true rfl) (fun r p0 e0 s0 m0 ar0 be0 me0 c0 A0 Q0 X hR => ?_)
  obtain ⟨hF6, hF1a, hF1b, hTs, hTk⟩ := hT
  have t0 := hTk idx hi
  refine zg_blk pok2 X 6 [6] (S' := (8, [(0, zR (c 0)), (1, zR (a 2)), (2, zI pn)], [zI 0, zR (a 2), zR (c 0), zI pn, zR (c 5)], ((tW a (FA K S V F idx) B K S V) ++ (cW c G CN NM MK TP PP CO KN)))) rfl ⟨rfl, trivial⟩ ?_
  refine zg_callV pok2 EWX_ok X 6 (vas := [zR (a 2), zI 0]) (vr := [zI pn, zR (c 5)]) (Y1 := ((tW a (FA K S V F idx) B K S V) ++ (cW c G CN NM MK TP PP CO KN))) (Y2 := []) rfl rfl (Or.inl rfl) zj_X1_toldHere rfl rfl rfl rfl (Nat.le_of_ble_eq_true rfl) rfl (zm_toldHereA (sN := 0) (idx := idx) (by omega) hCN hNM hU ⟨hF6, hF1a, hF1b, hTs, hTk⟩ hi) ⟨by decide, by decide, by decide, by decide⟩ (fun z9 Y9 hz => ?_)
  rcases hz with ⟨ht1, rfl, rfl⟩ | ⟨ht1, rfl, F9b, hfd, rfl⟩
  · have hk1 := (td_ne ht1).1
    have hl1 := (td_ne ht1).2
    have hr1 := lkS_rng (NM := NM) (key := V idx) (hCN 0 (by omega))
    refine zg_blk pok2 X 2 [11] (S' := (13, [(0, zR (c 0)), (1, zR (a 2)), (2, zI pn)], [zR (a 2)], ((tW a (FA K S V F idx) B K S V) ++ (cW c G CN NM MK TP (zup PP pn.toNat (lkS CN NM 0 (V idx))) CO KN)))) rfl ⟨rfl, rfl, (show zidx pn 6 from by unfold zidx; omega), trivial⟩ ?_
    refine zg_callV pok2 EWX_ok X 2 (vas := []) (vr := []) (Y1 := (tW a (FA K S V F idx) B K S V)) (Y2 := (cW c G CN NM MK TP (zup PP pn.toNat (lkS CN NM 0 (V idx))) CO KN)) rfl rfl (Or.inl rfl) zj_X10_step rfl rfl rfl rfl (Nat.le_of_ble_eq_true rfl) rfl (zm_step (F := (FA K S V F idx)) (show F 1 ≤ 941 by omega) (show -1 ≤ ((idx : Nat) : Int) ∧ ((idx : Nat) : Int) < 941 by omega) (show -2147483648 ≤ F 6 ∧ F 6 < 2147483648 by omega) (show 0 ≤ F 1 by omega)) ⟨by decide, by decide, by decide, by decide⟩ (fun z9 Y9 hz => ?_)
    obtain ⟨rfl, rfl⟩ := hz
    have i1 : (((idx + 1) : Nat) : Int) < F 1 := by
      have h9 := hTs idx hi (by omega) (by omega)
      omega
    have t1 := hTk (idx + 1) i1
    rw [FA_step hF6 (by omega)]
    refine zg_blk pok2 X 6 [6] (S' := (25, [(0, zR (c 0)), (1, zR (a 2)), (2, zI pn)], [zI 99, zI 0, zR (a 2), zI pn, zR (c 6)], ((tW a (FA K S V F (idx + 1)) B K S V) ++ (cW c G CN NM MK TP (zup PP pn.toNat (lkS CN NM 0 (V idx))) CO KN)))) rfl ⟨rfl, trivial⟩ ?_
    refine zg_callV pok2 EWX_ok X 2 (vas := [zI 0, zI 99]) (vr := [zI pn, zR (c 6)]) (Y1 := (tW a (FA K S V F (idx + 1)) B K S V)) (Y2 := (cW c G CN NM MK TP (zup PP pn.toNat (lkS CN NM 0 (V idx))) CO KN)) rfl rfl (Or.inl rfl) zj_X10_takeNumber rfl rfl rfl rfl (Nat.le_of_ble_eq_true rfl) rfl (zm_takeNumberA (z1 := 0) (z2 := 99) (idx := (idx + 1)) (by omega) (by omega) ⟨hF6, hF1a, hF1b, hTs, hTk⟩ i1) ⟨by decide, by decide, by decide, by decide⟩ (fun z9 Y9 hz => ?_)
    rcases hz with ⟨hq2, rfl, rfl⟩ | ⟨hq2, rfl, F9c, hfd, rfl⟩
    · have hm2 := nm_ok hq2
      have i2 : (((idx + 2) : Nat) : Int) < F 1 := by
        have h9 := hTs (idx + 1) i1 (by omega) (by omega)
        omega
      have t2 := hTk (idx + 2) i2
      refine zg_blk pok2 X 3 [12] (S' := (32, [(0, zR (c 0)), (1, zR (a 2)), (2, zI pn)], [zI 10, zR (a 2)], ((tW a (FA K S V F (idx + 2)) B K S V) ++ (cW c G CN NM MK TP (zup PP pn.toNat (lkS CN NM 0 (V idx))) (zup CO pn.toNat (V (idx + 1))) KN)))) rfl ⟨rfl, rfl, (show zidx pn 6 from by unfold zidx; omega), trivial⟩ ?_
      refine zg_callV pok2 EWX_ok X 2 (vas := [zI 10]) (vr := []) (Y1 := (tW a (FA K S V F (idx + 2)) B K S V)) (Y2 := (cW c G CN NM MK TP (zup PP pn.toNat (lkS CN NM 0 (V idx))) (zup CO pn.toNat (V (idx + 1))) KN)) rfl rfl (Or.inl rfl) zj_X10_isWord rfl rfl rfl rfl (Nat.le_of_ble_eq_true rfl) rfl (zm_isWordA (idx := (idx + 2)) (by omega) ⟨hF6, hF1a, hF1b, hTs, hTk⟩ i2) ⟨by decide, by decide, by decide, by decide⟩ (fun z9 Y9 hz => ?_)
      rcases hz with ⟨hw9, rfl, rfl⟩ | ⟨hw9, rfl, rfl⟩
      · have hw9 : K (idx + 2) = 2 ∧ V (idx + 2) = 10 := hw9
        refine zg_if X 54 rfl rfl (by first | (unfold zin; omega) | exact zand_in _ _) (fun g1 => ?_) (fun g1 => ?_)
        · exact absurd (show (1 : Int) = (0 : Int) from g1) (by decide)
        · simp only [x_ncd] at g1
          refine zg_blk pok2 X 9 [6, 6] (S' := (51, [(0, zR (c 0)), (1, zR (a 2)), (2, zI pn)], [zR (a 2)], ((tW a (FA K S V F (idx + 2)) B K S V) ++ (cW c (zup G 0 (zor (G 0) (zshl 1 pn))) CN NM MK TP (zup PP pn.toNat (lkS CN NM 0 (V idx))) (zup CO pn.toNat (V (idx + 1))) KN)))) rfl ⟨rfl, rfl, rfl, rfl, trivial⟩ ?_
          refine zg_callV pok2 EWX_ok X 2 (vas := []) (vr := []) (Y1 := (tW a (FA K S V F (idx + 2)) B K S V)) (Y2 := (cW c (zup G 0 (zor (G 0) (zshl 1 pn))) CN NM MK TP (zup PP pn.toNat (lkS CN NM 0 (V idx))) (zup CO pn.toNat (V (idx + 1))) KN)) rfl rfl (Or.inl rfl) zj_X10_step rfl rfl rfl rfl (Nat.le_of_ble_eq_true rfl) rfl (zm_step (F := (FA K S V F (idx + 2))) (show F 1 ≤ 941 by omega) (show -1 ≤ (((idx + 2) : Nat) : Int) ∧ (((idx + 2) : Nat) : Int) < 941 by omega) (show -2147483648 ≤ F 6 ∧ F 6 < 2147483648 by omega) (show 0 ≤ F 1 by omega)) ⟨by decide, by decide, by decide, by decide⟩ (fun z9 Y9 hz => ?_)
          obtain ⟨rfl, rfl⟩ := hz
          have i3 : (((idx + 3) : Nat) : Int) < F 1 := by
            have h9 := hTs (idx + 2) i2 (by omega) (by omega)
            omega
          have t3 := hTk (idx + 3) i3
          rw [FA_step hF6 (by omega)]
          refine zg_retv X hR rfl rfl (by decide) (by decide) ?_
          refine ⟨rfl, _, _, _, _, _, _, _, _, _, ?_, rfl⟩
          unfold aPers
          rw [if_pos ht1, if_pos hq2, if_pos hw9]
          exact Or.inl ⟨rfl, rfl, rfl, rfl, rfl, rfl, hG⟩
      · have hw9 : ¬ (K (idx + 2) = 2 ∧ V (idx + 2) = 10) := hw9
        refine zg_if X 54 rfl rfl (by first | (unfold zin; omega) | exact zand_in _ _) (fun g2 => ?_) (fun g2 => ?_)
        · simp only [x_cnd] at g2
          refine zg_retv X hR rfl rfl (by decide) (by decide) ?_
          refine ⟨rfl, _, _, _, _, _, _, _, _, _, ?_, rfl⟩
          unfold aPers
          rw [if_pos ht1, if_pos hq2, if_neg hw9]
          exact Or.inl ⟨rfl, rfl, rfl, rfl, rfl, rfl, hG⟩
        · exact absurd (show ¬ (0 : Int) = (0 : Int) from g2) (by decide)
    · refine zg_blk pok2 X 3 [12] (S' := (32, [(0, zR (c 0)), (1, zR (a 2)), (2, zI pn)], [zI 10, zR (a 2)], ((tW a F9c B K S V) ++ (cW c G CN NM MK TP (zup PP pn.toNat (lkS CN NM 0 (V idx))) (zup CO pn.toNat (-1)) KN)))) rfl ⟨rfl, rfl, (show zidx pn 6 from by unfold zidx; omega), trivial⟩ ?_
      refine zg_callV pok2 EWX_ok X 2 (vas := [zI 10]) (vr := []) (Y1 := (tW a F9c B K S V)) (Y2 := (cW c G CN NM MK TP (zup PP pn.toNat (lkS CN NM 0 (V idx))) (zup CO pn.toNat (-1)) KN)) rfl rfl (Or.inl rfl) zj_X10_isWord rfl rfl rfl rfl (Nat.le_of_ble_eq_true rfl) rfl (zm_isWordX hfd) ⟨by decide, by decide, by decide, by decide⟩ (fun z9 Y9 hz => ?_)
      obtain ⟨rfl, rfl⟩ := hz
      refine zg_if X 54 rfl rfl (by first | (unfold zin; omega) | exact zand_in _ _) (fun g3 => ?_) (fun g3 => ?_)
      · simp only [x_cnd] at g3
        refine zg_retv X hR rfl rfl (by decide) (by decide) ?_
        refine ⟨rfl, _, _, _, _, _, _, _, _, _, ?_, rfl⟩
        unfold aPers
        rw [if_pos ht1, if_neg hq2]
        exact Or.inr ⟨hq2, hfd⟩
      · exact absurd (show ¬ (0 : Int) = (0 : Int) from g3) (by decide)
  · refine zg_blk pok2 X 2 [11] (S' := (13, [(0, zR (c 0)), (1, zR (a 2)), (2, zI pn)], [zR (a 2)], ((tW a F9b B K S V) ++ (cW c G CN NM MK TP (zup PP pn.toNat (-1)) CO KN)))) rfl ⟨rfl, rfl, (show zidx pn 6 from by unfold zidx; omega), trivial⟩ ?_
    refine zg_callV pok2 EWX_ok X 2 (vas := []) (vr := []) (Y1 := (tW a F9b B K S V)) (Y2 := (cW c G CN NM MK TP (zup PP pn.toNat (-1)) CO KN)) rfl rfl (Or.inl rfl) zj_X10_step rfl rfl rfl rfl (Nat.le_of_ble_eq_true rfl) rfl (zm_stepX hfd) ⟨by decide, by decide, by decide, by decide⟩ (fun z9 Y9 hz => ?_)
    obtain ⟨rfl, rfl⟩ := hz
    refine zg_blk pok2 X 6 [6] (S' := (25, [(0, zR (c 0)), (1, zR (a 2)), (2, zI pn)], [zI 99, zI 0, zR (a 2), zI pn, zR (c 6)], ((tW a F9b B K S V) ++ (cW c G CN NM MK TP (zup PP pn.toNat (-1)) CO KN)))) rfl ⟨rfl, trivial⟩ ?_
    refine zg_callV pok2 EWX_ok X 2 (vas := [zI 0, zI 99]) (vr := [zI pn, zR (c 6)]) (Y1 := (tW a F9b B K S V)) (Y2 := (cW c G CN NM MK TP (zup PP pn.toNat (-1)) CO KN)) rfl rfl (Or.inl rfl) zj_X10_takeNumber rfl rfl rfl rfl (Nat.le_of_ble_eq_true rfl) rfl (zm_takeNumberX hfd) ⟨by decide, by decide, by decide, by decide⟩ (fun z9 Y9 hz => ?_)
    obtain ⟨rfl, F9c, hfd, rfl⟩ := hz
    refine zg_blk pok2 X 3 [12] (S' := (32, [(0, zR (c 0)), (1, zR (a 2)), (2, zI pn)], [zI 10, zR (a 2)], ((tW a F9c B K S V) ++ (cW c G CN NM MK TP (zup PP pn.toNat (-1)) (zup CO pn.toNat (-1)) KN)))) rfl ⟨rfl, rfl, (show zidx pn 6 from by unfold zidx; omega), trivial⟩ ?_
    refine zg_callV pok2 EWX_ok X 2 (vas := [zI 10]) (vr := []) (Y1 := (tW a F9c B K S V)) (Y2 := (cW c G CN NM MK TP (zup PP pn.toNat (-1)) (zup CO pn.toNat (-1)) KN)) rfl rfl (Or.inl rfl) zj_X10_isWord rfl rfl rfl rfl (Nat.le_of_ble_eq_true rfl) rfl (zm_isWordX hfd) ⟨by decide, by decide, by decide, by decide⟩ (fun z9 Y9 hz => ?_)
    obtain ⟨rfl, rfl⟩ := hz
    refine zg_if X 54 rfl rfl (by first | (unfold zin; omega) | exact zand_in _ _) (fun g4 => ?_) (fun g4 => ?_)
    · simp only [x_cnd] at g4
      refine zg_retv X hR rfl rfl (by decide) (by decide) ?_
      refine ⟨rfl, _, _, _, _, _, _, _, _, _, ?_, rfl⟩
      unfold aPers
      rw [if_neg ht1]
      exact Or.inr ⟨ht1, hfd⟩
    · exact absurd (show ¬ (0 : Int) = (0 : Int) from g4) (by decide)
end ZE9
