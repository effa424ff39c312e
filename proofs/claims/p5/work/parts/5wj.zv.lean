/-! the reference: persons, pairs, what is told once, lines (written by wip/p4/g14.py) -/
section ZV8
variable {xs : Nat → Int32} {D : va_G} {cy : Nat → ClassId} {l : Launch} {ex : Nat → Nat} {m : Nat → Nat} {F B SS HH NR RV P K S V CN NM MK KN : Nat → Int} {Y0 : ZW} {j k : Nat} {x : Int}
set_option maxRecDepth 4000 in
theorem zj_X12_readPerson : PR2[178]? = some mt2_X12_readPerson := rfl
set_option maxRecDepth 4000 in
theorem zr_readPerson (hk0 : K j = 2) (hH : RH B P K S V RV k F) (hA : rAt P K S V F j) (hj : j ≤ k) (hRR : RR HH NR CN NM MK KN) (hI : INV CN NM x) (hRZ : ∀ q, zin64 (RV q)) (hx : F 20 = x) : ZMet (EWX xs) D cy l ex mt2_X12_readPerson (4, 0, 0, 88) (rW m F B SS HH NR RV) [zR (m 0)] (fun z Y => ∃ F9 HH9 NR9, Y = (rW m F9 B SS HH9 NR9 RV) ∧ rM2 P K S V F k (aPerson K V CN NM MK KN x j) z F9 HH9 NR9 ∧ ∀ q : Nat, q < 28 → NR9 q = NR q) := by
  have hc0 := hI.1.1
  have hc1 := hI.2.1.1
  have hc2 := hI.2.2.1.1
  have hc3 := hI.2.2.2.1.1
  have hr0 := hRR.1 0 (by omega)
  have hr1 := hRR.1 1 (by omega)
  have hr2 := hRR.1 2 (by omega)
  have hr3 := hRR.1 3 (by omega)
  obtain ⟨mok, tok, ow⟩ := pok2.1 _ _ zj_X12_readPerson
  refine met_ofz EWX_ok mok tok ow (Nat.le_of_ble_eq_true rfl) (fun r p0 e0 s0 m0 ar0 be0 me0 c0 A0 Q0 X hR => ?_)
  have hA0 := hA
  have hH0 := hH
  have hj0 := hj
  have hf0 : fr4 F F := ⟨rfl, rfl, rfl, rfl⟩
  obtain ⟨hc0, hc1, hc2, hc3, hc4⟩ := hI
  have hI : INV CN NM x := ⟨hc0, hc1, hc2, hc3, hc4⟩
  have hh : HH 3 = CN 3 := hRR.1 3 (by omega)
  refine zg_blk pok2 X 5 [0, 3] (S' := (7, [(1, zI (HH 3)), (0, zR (m 0))], [], (rW m F B SS HH NR RV))) rfl ⟨rfl, rfl, rfl, (show zidx 3 43 from by first | (unfold zidx; omega) | (have h9 := hRR.1 0 (by omega); have h8 := hRR.1 1 (by omega); have h7 := hRR.1 2 (by omega); have h6 := hRR.1 3 (by omega); unfold zidx; omega)), trivial⟩ ?_
  rw [hh]
  refine zg_blk pok2 X 2 [] (S' := (10, [(1, zI (CN 3)), (0, zR (m 0))], [zI 6, zI (CN 3)], (rW m F B SS HH NR RV))) rfl trivial ?_
  refine zg_icmp X 19 rfl rfl (by first | (unfold zin; omega) | (have h9 := hRR.1 0 (by omega); have h8 := hRR.1 1 (by omega); have h7 := hRR.1 2 (by omega); have h6 := hRR.1 3 (by omega); unfold zin; omega)) (by first | (unfold zin; omega) | (have h9 := hRR.1 0 (by omega); have h8 := hRR.1 1 (by omega); have h7 := hRR.1 2 (by omega); have h6 := hRR.1 3 (by omega); unfold zin; omega)) (fun g1 => ?_) (fun g1 => ?_)
  · simp only [x_cnd] at g1
    refine zg_blk pok2 X 1 [] (S' := (20, [(1, zI (CN 3)), (0, zR (m 0))], [zR (m 0)], (rW m F B SS HH NR RV))) rfl trivial ?_
    have hj1 : j + 1 ≤ k := hH0.len hj0 (by omega) (by omega)
    refine zg_callV pok2 EWX_ok X 0 (vas := []) (vr := []) (Y1 := (rW m F B SS HH NR RV)) (Y2 := []) rfl rfl (Or.inl rfl) zj_X12_next rfl rfl rfl rfl (Nat.le_of_ble_eq_true rfl) rfl (zr_next (F := F) hH0.1 hH0.2.1 (by have e4 := hA0.2.2 (by omega) (by omega); have hp := hH0.2.2.2.1.2.2.2.2.2 (j + 1) hj1; show 0 ≤ F 4 ∧ F 4 ≤ F 3; omega) (by have h9 := hH0.2.2.1; show 0 ≤ F 5 ∧ F 5 ≤ 1000; omega)) ⟨by decide, by decide, by decide, by decide⟩ (fun z9 Y9 hz => ?_)
    obtain ⟨rfl, Fa, rfl, hrt, hfrt⟩ := hz
    have hA1 : rAt P K S V Fa (j + 1) := rnext_ok (F := F) (j := j) hH0 hA0 hj1 (by omega) (by omega) hrt
    have hH1 : RH B P K S V RV k Fa := RH.fr2 hH0 (show Fa 3 = F 3 from hfrt.fr4.1) (show Fa 5 = F 5 from hfrt.fr4.2.1)
    have hg1 : Fa 18 = F 18 := hfrt 18 (by decide) (by decide) (by decide) (by decide) (by decide) (by decide)
    have hf1 : fr4 F Fa := fr4.tr (G := F) hf0 (show fr4 F Fa from hfrt.fr4)
    refine zg_blk pok2 X 4 [] (S' := (28, [(1, zI (CN 3)), (0, zR (m 0))], [zI (50 + (CN 3)), zR (m 0)], (rW m Fa B SS HH NR RV))) rfl trivial ?_
    refine zg_callV pok2 EWX_ok X 0 (vas := [zI (50 + (CN 3))]) (vr := []) (Y1 := (rW m Fa B SS HH NR RV)) (Y2 := []) rfl rfl (Or.inl rfl) zj_X12_fresh rfl rfl rfl rfl (Nat.le_of_ble_eq_true rfl) rfl (zr_fresh (F := Fa) (j := (j + 1)) (by omega) hH1 hA1 hj1 hRR hI hRZ) ⟨by decide, by decide, by decide, by decide⟩ (fun z9 Y9 hz => ?_)
    rcases hz with ⟨hfre, rfl, Fb, rfl, hax, hjx, hfx⟩ | ⟨hfre, rfl, Fc, rfl, hb1, hb2⟩
    · have hj2 : j + 2 ≤ k := hjx
      have hA2 : rAt P K S V Fb (j + 2) := hax
      have hH2 : RH B P K S V RV k Fb := RH.fr2 hH1 hfx.1 hfx.2.1
      have hf2 : fr4 F Fb := fr4.tr (G := Fa) hf1 hfx
      have hkv := (hA1.2.1.key hfre.1).2.1
      have hRR1 : RR HH (zup NR ((50 + (CN 3)).toNat) (wd (V (j + 1)))) CN NM MK KN := RR_nr hRR hI (by omega)
      refine zg_if X 49 rfl rfl (by first | (unfold zin; omega) | (have h9 := hRR.1 0 (by omega); have h8 := hRR.1 1 (by omega); have h7 := hRR.1 2 (by omega); have h6 := hRR.1 3 (by omega); unfold zin; omega)) (fun g2 => ?_) (fun g2 => ?_)
      · exact absurd (show (1 : Int) = (0 : Int) from g2) (by decide)
      · simp only [x_ncd] at g2
        refine zg_blk pok2 X 6 [0, 3] (S' := (43, [(1, zI (CN 3)), (0, zR (m 0))], [zI (HH 0), zI 28, zR (m 0)], (rW m Fb B SS HH (zup NR ((50 + (CN 3)).toNat) (wd (V (j + 1)))) RV))) rfl ⟨rfl, rfl, rfl, (show zidx 0 43 from by first | (unfold zidx; omega) | (have h9 := hRR.1 0 (by omega); have h8 := hRR.1 1 (by omega); have h7 := hRR.1 2 (by omega); have h6 := hRR.1 3 (by omega); unfold zidx; omega)), trivial⟩ ?_
        rw [show HH 0 = (((CN 0).toNat : Nat) : Int) by have h9 := hRR.1 0 (by omega); have h8 := hI.cn 0 (by omega); omega]
        refine zg_callV pok2 EWX_ok X 0 (vas := [zI 28, zI (((CN 0).toNat : Nat) : Int)]) (vr := []) (Y1 := (rW m Fb B SS HH (zup NR ((50 + (CN 3)).toNat) (wd (V (j + 1)))) RV)) (Y2 := []) rfl rfl (Or.inl rfl) zj_X12_takesName rfl rfl rfl rfl (Nat.le_of_ble_eq_true rfl) rfl (zr_takesName (sN := 0) (F := Fb) (j := (j + 2)) (by omega) hH2 hA2 hj2 hRR1 hI hRZ) ⟨by decide, by decide, by decide, by decide⟩ (fun z9 Y9 hz => ?_)
        rcases hz with ⟨ht2, rfl, Fd, rfl, hax, hjx, hfx, hgx⟩ | ⟨ht2, rfl, Fe, rfl, hb1, hb2⟩
        · have hj3 : j + 3 ≤ k := hjx
          have hA3 : rAt P K S V Fd (j + 3) := hax
          have hH3 : RH B P K S V RV k Fd := RH.fr2 hH2 hfx.1 hfx.2.1
          have hf3 : fr4 F Fd := fr4.tr (G := Fb) hf2 hfx
          have hg3 : Fd 18 = lkS CN NM 0 (V (j + 2)) := hgx
          have hk2 := (td_ne ht2).1
          have hl2 := (td_ne ht2).2
          have hlr2 := lkS_rng (NM := NM) (key := V (j + 2)) (hI.cn 0 (by omega))
          refine zg_if X 51 rfl rfl (by first | (unfold zin; omega) | (have h9 := hRR.1 0 (by omega); have h8 := hRR.1 1 (by omega); have h7 := hRR.1 2 (by omega); have h6 := hRR.1 3 (by omega); unfold zin; omega)) (fun g3 => ?_) (fun g3 => ?_)
          · simp only [x_cnd] at g3
            refine zg_blk pok2 X 14 [0, 0, 3] (S' := (72, [(1, zI (CN 3)), (0, zR (m 0))], [zI 99, zI 0, zI (30 + (CN 3)), zR (m 0)], (rW m Fd B SS (zup HH ((24 + (CN 3)).toNat) (Fd 18)) (zup NR ((50 + (CN 3)).toNat) (wd (V (j + 1)))) RV))) rfl ⟨rfl, rfl, rfl, rfl, (show zidx (24 + (CN 3)) 43 from by first | (unfold zidx; omega) | (have h9 := hRR.1 0 (by omega); have h8 := hRR.1 1 (by omega); have h7 := hRR.1 2 (by omega); have h6 := hRR.1 3 (by omega); unfold zidx; omega)), trivial⟩ ?_
            refine zg_callV pok2 EWX_ok X 0 (vas := [zI (30 + (CN 3)), zI 0, zI 99]) (vr := []) (Y1 := (rW m Fd B SS (zup HH ((24 + (CN 3)).toNat) (Fd 18)) (zup NR ((50 + (CN 3)).toNat) (wd (V (j + 1)))) RV)) (Y2 := []) rfl rfl (Or.inl rfl) zj_X12_puts rfl rfl rfl rfl (Nat.le_of_ble_eq_true rfl) rfl (zr_puts (F := Fd) (j := (j + 3)) (HH := (zup HH ((24 + (CN 3)).toNat) (Fd 18))) (NR := (zup NR ((50 + (CN 3)).toNat) (wd (V (j + 1))))) (by omega) (by omega) (by omega) hH3 hA3 hj3) ⟨by decide, by decide, by decide, by decide⟩ (fun z9 Y9 hz => ?_)
            rcases hz with ⟨hq3, rfl, Ff, rfl, hax, hjx, hfx, -⟩ | ⟨hq3, rfl, Fg, rfl, hb1, hb2⟩
            · have hj4 : j + 4 ≤ k := hjx
              have hA4 : rAt P K S V Ff (j + 4) := hax
              have hH4 : RH B P K S V RV k Ff := RH.fr2 hH3 hfx.1 hfx.2.1
              have hf4 : fr4 F Ff := fr4.tr (G := Fd) hf3 hfx
              have hm3 := nm_ok hq3
              refine zg_if X 80 rfl rfl (by first | (unfold zin; omega) | (have h9 := hRR.1 0 (by omega); have h8 := hRR.1 1 (by omega); have h7 := hRR.1 2 (by omega); have h6 := hRR.1 3 (by omega); unfold zin; omega)) (fun g4 => ?_) (fun g4 => ?_)
              · simp only [x_cnd] at g4
                refine zg_blk pok2 X 2 [0] (S' := (84, [(1, zI (CN 3)), (0, zR (m 0))], [zL 28832984742848366, zR (m 0)], (rW m Ff B SS (zup (zup HH ((24 + (CN 3)).toNat) (Fd 18)) ((30 + (CN 3)).toNat) (V (j + 3))) (zup NR ((50 + (CN 3)).toNat) (wd (V (j + 1)))) RV))) rfl trivial ?_
                refine zg_callV pok2 EWX_ok X 0 (vas := [zL 28832984742848366]) (vr := []) (Y1 := (rW m Ff B SS (zup (zup HH ((24 + (CN 3)).toNat) (Fd 18)) ((30 + (CN 3)).toNat) (V (j + 3))) (zup NR ((50 + (CN 3)).toNat) (wd (V (j + 1)))) RV)) (Y2 := []) rfl rfl (Or.inl rfl) zj_X12_isWord rfl rfl rfl rfl (Nat.le_of_ble_eq_true rfl) rfl (zr_isWord (w := 10) (F := Ff) (j := (j + 4)) (by omega) hA4) ⟨by decide, by decide, by decide, by decide⟩ (fun z9 Y9 hz => ?_)
                rcases hz with ⟨hw10, rfl, rfl⟩ | ⟨hw10, rfl, rfl⟩
                · have hw10 : K (j + 4) = 2 ∧ V (j + 4) = 10 := hw10
                  refine zg_if X 107 rfl rfl (by first | (unfold zin; omega) | (have h9 := hRR.1 0 (by omega); have h8 := hRR.1 1 (by omega); have h7 := hRR.1 2 (by omega); have h6 := hRR.1 3 (by omega); unfold zin; omega)) (fun g5 => ?_) (fun g5 => ?_)
                  · exact absurd (show (1 : Int) = (0 : Int) from g5) (by decide)
                  · simp only [x_ncd] at g5
                    refine zg_blk pok2 X 11 [0, 3, 3] (S' := (104, [(1, zI (CN 3)), (0, zR (m 0))], [zR (m 0)], (rW m Ff B SS (zup (zup (zup HH ((24 + (CN 3)).toNat) (Fd 18)) ((30 + (CN 3)).toNat) (V (j + 3))) 36 (zor ((zup (zup HH ((24 + (CN 3)).toNat) (Fd 18)) ((30 + (CN 3)).toNat) (V (j + 3))) 36) (zshl 1 (CN 3)))) (zup NR ((50 + (CN 3)).toNat) (wd (V (j + 1)))) RV))) rfl ⟨rfl, rfl, rfl, (show zidx 36 43 from by first | (unfold zidx; omega) | (have h9 := hRR.1 0 (by omega); have h8 := hRR.1 1 (by omega); have h7 := hRR.1 2 (by omega); have h6 := hRR.1 3 (by omega); unfold zidx; omega)), rfl, rfl, (show zidx 36 43 from by first | (unfold zidx; omega) | (have h9 := hRR.1 0 (by omega); have h8 := hRR.1 1 (by omega); have h7 := hRR.1 2 (by omega); have h6 := hRR.1 3 (by omega); unfold zidx; omega)), trivial⟩ ?_
                    have hj5 : j + 5 ≤ k := hH4.len hj4 (by omega) (by omega)
                    refine zg_callV pok2 EWX_ok X 0 (vas := []) (vr := []) (Y1 := (rW m Ff B SS (zup (zup (zup HH ((24 + (CN 3)).toNat) (Fd 18)) ((30 + (CN 3)).toNat) (V (j + 3))) 36 (zor ((zup (zup HH ((24 + (CN 3)).toNat) (Fd 18)) ((30 + (CN 3)).toNat) (V (j + 3))) 36) (zshl 1 (CN 3)))) (zup NR ((50 + (CN 3)).toNat) (wd (V (j + 1)))) RV)) (Y2 := []) rfl rfl (Or.inl rfl) zj_X12_next rfl rfl rfl rfl (Nat.le_of_ble_eq_true rfl) rfl (zr_next (F := Ff) hH4.1 hH4.2.1 (by have e4 := hA4.2.2 (by omega) (by omega); have hp := hH4.2.2.2.1.2.2.2.2.2 ((j + 4) + 1) hj5; show 0 ≤ Ff 4 ∧ Ff 4 ≤ Ff 3; omega) (by have h9 := hH4.2.2.1; show 0 ≤ Ff 5 ∧ Ff 5 ≤ 1000; omega)) ⟨by decide, by decide, by decide, by decide⟩ (fun z9 Y9 hz => ?_)
                    obtain ⟨rfl, Fh, rfl, hrt, hfrt⟩ := hz
                    have hA5 : rAt P K S V Fh (j + 5) := rnext_ok (F := Ff) (j := (j + 4)) hH4 hA4 hj5 (by omega) (by omega) hrt
                    have hH5 : RH B P K S V RV k Fh := RH.fr2 hH4 (show Fh 3 = Ff 3 from hfrt.fr4.1) (show Fh 5 = Ff 5 from hfrt.fr4.2.1)
                    have hg5 : Fh 18 = Ff 18 := hfrt 18 (by decide) (by decide) (by decide) (by decide) (by decide) (by decide)
                    have hf5 : fr4 F Fh := fr4.tr (G := Ff) hf4 (show fr4 Ff Fh from hfrt.fr4)
                    refine zg_blk pok2 X 9 [0, 3, 3] (S' := (118, [(1, zI (CN 3)), (0, zR (m 0))], [zI 1], (rW m Fh B SS (zup (zup (zup (zup HH ((24 + (CN 3)).toNat) (Fd 18)) ((30 + (CN 3)).toNat) (V (j + 3))) 36 (zor ((zup (zup HH ((24 + (CN 3)).toNat) (Fd 18)) ((30 + (CN 3)).toNat) (V (j + 3))) 36) (zshl 1 (CN 3)))) 3 (((zup (zup (zup HH ((24 + (CN 3)).toNat) (Fd 18)) ((30 + (CN 3)).toNat) (V (j + 3))) 36 (zor ((zup (zup HH ((24 + (CN 3)).toNat) (Fd 18)) ((30 + (CN 3)).toNat) (V (j + 3))) 36) (zshl 1 (CN 3)))) 3) + 1)) (zup NR ((50 + (CN 3)).toNat) (wd (V (j + 1)))) RV))) rfl ⟨rfl, rfl, rfl, (show zidx 3 43 from by first | (unfold zidx; omega) | (have h9 := hRR.1 0 (by omega); have h8 := hRR.1 1 (by omega); have h7 := hRR.1 2 (by omega); have h6 := hRR.1 3 (by omega); unfold zidx; omega)), rfl, rfl, (show zidx 3 43 from by first | (unfold zidx; omega) | (have h9 := hRR.1 0 (by omega); have h8 := hRR.1 1 (by omega); have h7 := hRR.1 2 (by omega); have h6 := hRR.1 3 (by omega); unfold zidx; omega)), trivial⟩ ?_
                    refine zg_retb X hR rfl rfl (by decide) (by decide) (by first | exact Or.inl rfl | exact Or.inr rfl) ?_
                    refine ⟨_, _, _, rfl, ?_, (by intro q hq; first | rfl | exact hn9 q hq | (rw [zup_ne (by omega)]; rfl) | (rw [zup_ne (by omega)]) | (rw [zup_ne (by omega), zup_ne (by omega)]))⟩
                    unfold aPerson aReg
                    rw [if_neg (by omega), if_pos hfre.1, if_pos hfre.2]
                    dsimp only
                    unfold aPers
                    simp only [Nat.add_assoc, Nat.reduceAdd]
                    rw [td_reg3 hI (by omega)]
                    rw [if_pos ht2, if_pos hq3, if_pos hw10]
                    have hfz := hf5
                    exact Or.inl ⟨rfl, rfl, hA5, hj5, RR_reg (s := 3) (RR_oth (RR_oth (RR_oth hRR (by omega)) (by omega)) (by omega)) hI (by omega) hkv, hfz.2.2.2.trans hx, hfz.1, hfz.2.1, hfz.2.2.1⟩
                · have hw10 : ¬ (K (j + 4) = 2 ∧ V (j + 4) = 10) := hw10
                  refine zg_if X 107 rfl rfl (by first | (unfold zin; omega) | (have h9 := hRR.1 0 (by omega); have h8 := hRR.1 1 (by omega); have h7 := hRR.1 2 (by omega); have h6 := hRR.1 3 (by omega); unfold zin; omega)) (fun g6 => ?_) (fun g6 => ?_)
                  · simp only [x_cnd] at g6
                    refine zg_blk pok2 X 9 [0, 3, 3] (S' := (118, [(1, zI (CN 3)), (0, zR (m 0))], [zI 1], (rW m Ff B SS (zup (zup (zup HH ((24 + (CN 3)).toNat) (Fd 18)) ((30 + (CN 3)).toNat) (V (j + 3))) 3 (((zup (zup HH ((24 + (CN 3)).toNat) (Fd 18)) ((30 + (CN 3)).toNat) (V (j + 3))) 3) + 1)) (zup NR ((50 + (CN 3)).toNat) (wd (V (j + 1)))) RV))) rfl ⟨rfl, rfl, rfl, (show zidx 3 43 from by first | (unfold zidx; omega) | (have h9 := hRR.1 0 (by omega); have h8 := hRR.1 1 (by omega); have h7 := hRR.1 2 (by omega); have h6 := hRR.1 3 (by omega); unfold zidx; omega)), rfl, rfl, (show zidx 3 43 from by first | (unfold zidx; omega) | (have h9 := hRR.1 0 (by omega); have h8 := hRR.1 1 (by omega); have h7 := hRR.1 2 (by omega); have h6 := hRR.1 3 (by omega); unfold zidx; omega)), trivial⟩ ?_
                    refine zg_retb X hR rfl rfl (by decide) (by decide) (by first | exact Or.inl rfl | exact Or.inr rfl) ?_
                    refine ⟨_, _, _, rfl, ?_, (by intro q hq; first | rfl | exact hn9 q hq | (rw [zup_ne (by omega)]; rfl) | (rw [zup_ne (by omega)]) | (rw [zup_ne (by omega), zup_ne (by omega)]))⟩
                    unfold aPerson aReg
                    rw [if_neg (by omega), if_pos hfre.1, if_pos hfre.2]
                    dsimp only
                    unfold aPers
                    simp only [Nat.add_assoc, Nat.reduceAdd]
                    rw [td_reg3 hI (by omega)]
                    rw [if_pos ht2, if_pos hq3, if_neg hw10]
                    have hfz := hf4
                    exact Or.inl ⟨rfl, rfl, hA4, hj4, RR_reg (s := 3) (RR_oth (RR_oth hRR (by omega)) (by omega)) hI (by omega) hkv, hfz.2.2.2.trans hx, hfz.1, hfz.2.1, hfz.2.2.1⟩
                  · exact absurd (show ¬ (0 : Int) = (0 : Int) from g6) (by decide)
              · exact absurd (show (1 : Int) = (0 : Int) from g4) (by decide)
            · refine zg_if X 80 rfl rfl (by first | (unfold zin; omega) | (have h9 := hRR.1 0 (by omega); have h8 := hRR.1 1 (by omega); have h7 := hRR.1 2 (by omega); have h6 := hRR.1 3 (by omega); unfold zin; omega)) (fun g7 => ?_) (fun g7 => ?_)
              · exact absurd (show ¬ (0 : Int) = (0 : Int) from g7) (by decide)
              · simp only [x_ncd] at g7
                refine zg_blk pok2 X 1 [] (S' := (79, [(1, zI (CN 3)), (0, zR (m 0))], [zI 0], (rW m Fg B SS (zup HH ((24 + (CN 3)).toNat) (Fd 18)) (zup NR ((50 + (CN 3)).toNat) (wd (V (j + 1)))) RV))) rfl trivial ?_
                refine zg_retb X hR rfl rfl (by decide) (by decide) (by first | exact Or.inl rfl | exact Or.inr rfl) ?_
                refine ⟨_, _, _, rfl, ?_, (by intro q hq; first | rfl | exact hn9 q hq | (rw [zup_ne (by omega)]; rfl) | (rw [zup_ne (by omega)]) | (rw [zup_ne (by omega), zup_ne (by omega)]))⟩
                unfold aPerson aReg
                rw [if_neg (by omega), if_pos hfre.1, if_pos hfre.2]
                dsimp only
                unfold aPers
                simp only [Nat.add_assoc, Nat.reduceAdd]
                rw [td_reg3 hI (by omega)]
                rw [if_pos ht2, if_neg hq3]
                exact Or.inr ⟨hq3, rfl, hb1, hb2⟩
          · exact absurd (show (1 : Int) = (0 : Int) from g3) (by decide)
        · refine zg_if X 51 rfl rfl (by first | (unfold zin; omega) | (have h9 := hRR.1 0 (by omega); have h8 := hRR.1 1 (by omega); have h7 := hRR.1 2 (by omega); have h6 := hRR.1 3 (by omega); unfold zin; omega)) (fun g8 => ?_) (fun g8 => ?_)
          · exact absurd (show ¬ (0 : Int) = (0 : Int) from g8) (by decide)
          · simp only [x_ncd] at g8
            refine zg_blk pok2 X 1 [] (S' := (50, [(1, zI (CN 3)), (0, zR (m 0))], [zI 0], (rW m Fe B SS HH (zup NR ((50 + (CN 3)).toNat) (wd (V (j + 1)))) RV))) rfl trivial ?_
            refine zg_retb X hR rfl rfl (by decide) (by decide) (by first | exact Or.inl rfl | exact Or.inr rfl) ?_
            refine ⟨_, _, _, rfl, ?_, (by intro q hq; first | rfl | exact hn9 q hq | (rw [zup_ne (by omega)]; rfl) | (rw [zup_ne (by omega)]) | (rw [zup_ne (by omega), zup_ne (by omega)]))⟩
            unfold aPerson aReg
            rw [if_neg (by omega), if_pos hfre.1, if_pos hfre.2]
            dsimp only
            unfold aPers
            simp only [Nat.add_assoc, Nat.reduceAdd]
            rw [td_reg3 hI (by omega)]
            rw [if_neg ht2]
            exact Or.inr ⟨ht2, rfl, hb1, hb2⟩
    · refine zg_if X 49 rfl rfl (by first | (unfold zin; omega) | (have h9 := hRR.1 0 (by omega); have h8 := hRR.1 1 (by omega); have h7 := hRR.1 2 (by omega); have h6 := hRR.1 3 (by omega); unfold zin; omega)) (fun g9 => ?_) (fun g9 => ?_)
      · simp only [x_cnd] at g9
        refine zg_blk pok2 X 1 [] (S' := (50, [(1, zI (CN 3)), (0, zR (m 0))], [zI 0], (rW m Fc B SS HH NR RV))) rfl trivial ?_
        refine zg_retb X hR rfl rfl (by decide) (by decide) (by first | exact Or.inl rfl | exact Or.inr rfl) ?_
        by_cases hkk : K (j + 1) = 1
        · rw [if_pos hkk] at hb1
          refine ⟨_, _, _, rfl, ?_, (by intro q hq; first | rfl | exact hn9 q hq | (rw [zup_ne (by omega)]; rfl) | (rw [zup_ne (by omega)]) | (rw [zup_ne (by omega), zup_ne (by omega)]))⟩
          unfold aPerson aReg
          rw [if_neg (by omega), if_pos hkk, if_neg (fun h => hfre ⟨hkk, h⟩)]
          exact Or.inr ⟨bad_ne (by decide), rfl, hb1, hb2⟩
        · rw [if_neg hkk] at hb1
          refine ⟨_, _, _, rfl, ?_, (by intro q hq; first | rfl | exact hn9 q hq | (rw [zup_ne (by omega)]; rfl) | (rw [zup_ne (by omega)]) | (rw [zup_ne (by omega), zup_ne (by omega)]))⟩
          unfold aPerson aReg
          rw [if_neg (by omega), if_neg hkk]
          exact Or.inr ⟨bad_ne (by decide), rfl, hb1, hb2⟩
      · exact absurd (show ¬ (0 : Int) = (0 : Int) from g9) (by decide)
  · simp only [x_ncd] at g1
    refine zg_blk pok2 X 2 [] (S' := (15, [(1, zI (CN 3)), (0, zR (m 0))], [zI 4, zR (m 0)], (rW m F B SS HH NR RV))) rfl trivial ?_
    refine zg_callV pok2 EWX_ok X 0 (vas := [zI 4]) (vr := []) (Y1 := (rW m F B SS HH NR RV)) (Y2 := []) rfl rfl (Or.inl rfl) zj_X12_bad rfl rfl rfl rfl (Nat.le_of_ble_eq_true rfl) rfl (zr_bad (F := F)) ⟨by decide, by decide, by decide, by decide⟩ (fun z9 Y9 hz => ?_)
    obtain ⟨rfl, rfl⟩ := hz
    refine zg_retb X hR rfl rfl (by decide) (by decide) (by first | exact Or.inl rfl | exact Or.inr rfl) ?_
    refine ⟨_, _, _, rfl, ?_, (by intro q hq; first | rfl | exact hn9 q hq | (rw [zup_ne (by omega)]; rfl) | (rw [zup_ne (by omega)]) | (rw [zup_ne (by omega), zup_ne (by omega)]))⟩
    unfold aPerson aReg
    rw [if_pos (by omega)]
    exact Or.inr ⟨bad_ne (by decide), rfl, rfl, hA0.1⟩
set_option maxRecDepth 4000 in
theorem zj_X12_readTie : PR2[180]? = some mt2_X12_readTie := rfl
set_option maxRecDepth 4000 in
theorem zr_readTieM (hk0 : K j = 2) (hH : RH B P K S V RV k F) (hA : rAt P K S V F j) (hj : j ≤ k) (hRR : RR HH NR CN NM MK KN) (hI : INV CN NM x) (hRZ : ∀ q, zin64 (RV q)) (hx : F 20 = x) : ZMet (EWX xs) D cy l ex mt2_X12_readTie (3, 0, 0, 67) (rW m F B SS HH NR RV) [zR (m 0), zI 42, zI 2, zI 16] (fun z Y => ∃ F9 HH9 NR9, Y = (rW m F9 B SS HH9 NR9 RV) ∧ rM2 P K S V F k (aIs K V CN NM MK KN x (j + 1)) z F9 HH9 NR9 ∧ ∀ q : Nat, q < 28 → NR9 q = NR q) := by
  have hc0 := hI.1.1
  have hc1 := hI.2.1.1
  have hc2 := hI.2.2.1.1
  have hc3 := hI.2.2.2.1.1
  have hr0 := hRR.1 0 (by omega)
  have hr1 := hRR.1 1 (by omega)
  have hr2 := hRR.1 2 (by omega)
  have hr3 := hRR.1 3 (by omega)
  obtain ⟨mok, tok, ow⟩ := pok2.1 _ _ zj_X12_readTie
  refine met_ofz EWX_ok mok tok ow (Nat.le_of_ble_eq_true rfl) (fun r p0 e0 s0 m0 ar0 be0 me0 c0 A0 Q0 X hR => ?_)
  have hA0 := hA
  have hH0 := hH
  have hj0 := hj
  have hf0 : fr4 F F := ⟨rfl, rfl, rfl, rfl⟩
  obtain ⟨hc0, hc1, hc2, hc3, hc4⟩ := hI
  have hI : INV CN NM x := ⟨hc0, hc1, hc2, hc3, hc4⟩
  refine zg_blk pok2 X 1 [] (S' := (1, [(0, zR (m 0)), (1, zI 42), (2, zI 2), (3, zI 16)], [zR (m 0)], (rW m F B SS HH NR RV))) rfl trivial ?_
  have hj1 : j + 1 ≤ k := hH0.len hj0 (by omega) (by omega)
  refine zg_callV pok2 EWX_ok X 0 (vas := []) (vr := []) (Y1 := (rW m F B SS HH NR RV)) (Y2 := []) rfl rfl (Or.inl rfl) zj_X12_next rfl rfl rfl rfl (Nat.le_of_ble_eq_true rfl) rfl (zr_next (F := F) hH0.1 hH0.2.1 (by have e4 := hA0.2.2 (by omega) (by omega); have hp := hH0.2.2.2.1.2.2.2.2.2 (j + 1) hj1; show 0 ≤ F 4 ∧ F 4 ≤ F 3; omega) (by have h9 := hH0.2.2.1; show 0 ≤ F 5 ∧ F 5 ≤ 1000; omega)) ⟨by decide, by decide, by decide, by decide⟩ (fun z9 Y9 hz => ?_)
  obtain ⟨rfl, Fa, rfl, hrt, hfrt⟩ := hz
  have hA1 : rAt P K S V Fa (j + 1) := rnext_ok (F := F) (j := j) hH0 hA0 hj1 (by omega) (by omega) hrt
  have hH1 : RH B P K S V RV k Fa := RH.fr2 hH0 (show Fa 3 = F 3 from hfrt.fr4.1) (show Fa 5 = F 5 from hfrt.fr4.2.1)
  have hg1 : Fa 18 = F 18 := hfrt 18 (by decide) (by decide) (by decide) (by decide) (by decide) (by decide)
  have hf1 : fr4 F Fa := fr4.tr (G := F) hf0 (show fr4 F Fa from hfrt.fr4)
  refine zg_blk pok2 X 6 [0, 3] (S' := (12, [(0, zR (m 0)), (1, zI 42), (2, zI 2), (3, zI 16)], [zI (HH 2), zI 42, zR (m 0)], (rW m Fa B SS HH NR RV))) rfl ⟨rfl, rfl, rfl, (show zidx 2 43 from by first | (unfold zidx; omega) | (have h9 := hRR.1 0 (by omega); have h8 := hRR.1 1 (by omega); have h7 := hRR.1 2 (by omega); have h6 := hRR.1 3 (by omega); unfold zidx; omega)), trivial⟩ ?_
  rw [show HH 2 = (((CN 2).toNat : Nat) : Int) by have h9 := hRR.1 2 (by omega); have h8 := hI.cn 2 (by omega); omega]
  refine zg_callV pok2 EWX_ok X 0 (vas := [zI 42, zI (((CN 2).toNat : Nat) : Int)]) (vr := []) (Y1 := (rW m Fa B SS HH NR RV)) (Y2 := []) rfl rfl (Or.inl rfl) zj_X12_takesName rfl rfl rfl rfl (Nat.le_of_ble_eq_true rfl) rfl (zr_takesName (sN := 2) (F := Fa) (j := (j + 1)) (by omega) hH1 hA1 hj1 hRR hI hRZ) ⟨by decide, by decide, by decide, by decide⟩ (fun z9 Y9 hz => ?_)
  rcases hz with ⟨ht1, rfl, Fb, rfl, hax, hjx, hfx, hgx⟩ | ⟨ht1, rfl, Fc, rfl, hb1, hb2⟩
  · have hj2 : j + 2 ≤ k := hjx
    have hA2 : rAt P K S V Fb (j + 2) := hax
    have hH2 : RH B P K S V RV k Fb := RH.fr2 hH1 hfx.1 hfx.2.1
    have hf2 : fr4 F Fb := fr4.tr (G := Fa) hf1 hfx
    have hg2 : Fb 18 = lkS CN NM 2 (V (j + 1)) := hgx
    have hk1 := (td_ne ht1).1
    have hl1 := (td_ne ht1).2
    have hlr1 := lkS_rng (NM := NM) (key := V (j + 1)) (hI.cn 2 (by omega))
    refine zg_if X 20 rfl rfl (by first | (unfold zin; omega) | (have h9 := hRR.1 0 (by omega); have h8 := hRR.1 1 (by omega); have h7 := hRR.1 2 (by omega); have h6 := hRR.1 3 (by omega); unfold zin; omega)) (fun g1 => ?_) (fun g1 => ?_)
    · simp only [x_cnd] at g1
      refine zg_blk pok2 X 3 [0] (S' := (26, [(4, zI (Fb 18)), (0, zR (m 0)), (1, zI 42), (2, zI 2), (3, zI 16)], [], (rW m Fb B SS HH NR RV))) rfl ⟨rfl, trivial⟩ ?_
      rw [hg2]
      refine zg_blk pok2 X 6 [0, 3] (S' := (35, [(4, zI (lkS CN NM 2 (V (j + 1)))), (0, zR (m 0)), (1, zI 42), (2, zI 2), (3, zI 16)], [zI (HH 1), zI 32, zR (m 0)], (rW m Fb B SS HH NR RV))) rfl ⟨rfl, rfl, rfl, (show zidx 1 43 from by first | (unfold zidx; omega) | (have h9 := hRR.1 0 (by omega); have h8 := hRR.1 1 (by omega); have h7 := hRR.1 2 (by omega); have h6 := hRR.1 3 (by omega); unfold zidx; omega)), trivial⟩ ?_
      rw [show HH 1 = (((CN 1).toNat : Nat) : Int) by have h9 := hRR.1 1 (by omega); have h8 := hI.cn 1 (by omega); omega]
      refine zg_callV pok2 EWX_ok X 0 (vas := [zI 32, zI (((CN 1).toNat : Nat) : Int)]) (vr := []) (Y1 := (rW m Fb B SS HH NR RV)) (Y2 := []) rfl rfl (Or.inl rfl) zj_X12_looksAt rfl rfl rfl rfl (Nat.le_of_ble_eq_true rfl) rfl (zr_looksAt (sN := 1) (F := Fb) (j := (j + 2)) (by omega) hH2 hA2 hj2 hRR hI hRZ) ⟨by decide, by decide, by decide, by decide⟩ (fun z9 Y9 hz => ?_)
      rcases hz with ⟨ht2, rfl, rfl⟩ | ⟨ht2, rfl, Fd, rfl, hb1, hb2⟩
      · have hk2 := (td_ne ht2).1
        have hl2 := (td_ne ht2).2
        have hlr2 := lkS_rng (NM := NM) (key := V (j + 2)) (hI.cn 1 (by omega))
        refine zg_if X 43 rfl rfl (by first | (unfold zin; omega) | (have h9 := hRR.1 0 (by omega); have h8 := hRR.1 1 (by omega); have h7 := hRR.1 2 (by omega); have h6 := hRR.1 3 (by omega); unfold zin; omega)) (fun g2 => ?_) (fun g2 => ?_)
        · simp only [x_cnd] at g2
          refine zg_blk pok2 X 6 [0, 3] (S' := (52, [(4, zI (lkS CN NM 2 (V (j + 1)))), (0, zR (m 0)), (1, zI 42), (2, zI 2), (3, zI 16)], [zI (HH ((16 + (lkS CN NM 2 (V (j + 1)))).toNat))], (rW m (zup Fb 18 (lkS CN NM 1 (V (j + 2)))) B SS HH NR RV))) rfl ⟨rfl, rfl, rfl, (show zidx (16 + (lkS CN NM 2 (V (j + 1)))) 43 from by first | (unfold zidx; omega) | (have h9 := hRR.1 0 (by omega); have h8 := hRR.1 1 (by omega); have h7 := hRR.1 2 (by omega); have h6 := hRR.1 3 (by omega); unfold zidx; omega)), trivial⟩ ?_
          have hmk : HH (16 + lkS CN NM 2 (V (j + 1))).toNat = MK (lkS CN NM 2 (V (j + 1))).toNat := by
            rw [show (16 + lkS CN NM 2 (V (j + 1))).toNat = 16 + (lkS CN NM 2 (V (j + 1))).toNat by omega]
            exact hRR.2.1 _ (by omega)
          rw [hmk]
          refine zg_blk pok2 X 2 [0] (S' := (56, [(4, zI (lkS CN NM 2 (V (j + 1)))), (0, zR (m 0)), (1, zI 42), (2, zI 2), (3, zI 16)], [zI (lkS CN NM 1 (V (j + 2))), zI (MK (lkS CN NM 2 (V (j + 1))).toNat)], (rW m (zup Fb 18 (lkS CN NM 1 (V (j + 2)))) B SS HH NR RV))) rfl ⟨rfl, trivial⟩ ?_
          refine zg_callS pok2 EWX_ok X (vas := [zI (MK (lkS CN NM 2 (V (j + 1))).toNat), zI (lkS CN NM 1 (V (j + 2)))]) (vr := []) (Y1 := (rW m (zup Fb 18 (lkS CN NM 1 (V (j + 2)))) B SS HH NR RV)) (Y2 := []) rfl rfl (Or.inl rfl) zj_X12_bitOf rfl rfl rfl (Nat.le_of_ble_eq_true rfl) rfl (zr_bitOf) ⟨by decide, by decide, by decide, by decide⟩ (fun z9 Y9 hz => ?_)
          rcases hz with ⟨hb9, rfl, rfl⟩ | ⟨hb9, rfl, rfl⟩
          · refine zg_if X 68 rfl rfl (by first | (unfold zin; omega) | (have h9 := hRR.1 0 (by omega); have h8 := hRR.1 1 (by omega); have h7 := hRR.1 2 (by omega); have h6 := hRR.1 3 (by omega); unfold zin; omega)) (fun g3 => ?_) (fun g3 => ?_)
            · exact absurd (show (1 : Int) = (0 : Int) from g3) (by decide)
            · simp only [x_ncd] at g3
              refine zg_blk pok2 X 2 [] (S' := (64, [(4, zI (lkS CN NM 2 (V (j + 1)))), (0, zR (m 0)), (1, zI 42), (2, zI 2), (3, zI 16)], [zI 3, zR (m 0)], (rW m (zup Fb 18 (lkS CN NM 1 (V (j + 2)))) B SS HH NR RV))) rfl trivial ?_
              refine zg_callV pok2 EWX_ok X 0 (vas := [zI 3]) (vr := []) (Y1 := (rW m (zup Fb 18 (lkS CN NM 1 (V (j + 2)))) B SS HH NR RV)) (Y2 := []) rfl rfl (Or.inl rfl) zj_X12_bad rfl rfl rfl rfl (Nat.le_of_ble_eq_true rfl) rfl (zr_bad (F := (zup Fb 18 (lkS CN NM 1 (V (j + 2)))))) ⟨by decide, by decide, by decide, by decide⟩ (fun z9 Y9 hz => ?_)
              obtain ⟨rfl, rfl⟩ := hz
              refine zg_retb X hR rfl rfl (by decide) (by decide) (by first | exact Or.inl rfl | exact Or.inr rfl) ?_
              refine ⟨_, _, _, rfl, ?_, (by intro q hq; first | rfl | exact hn9 q hq | (rw [zup_ne (by omega)]; rfl) | (rw [zup_ne (by omega)]) | (rw [zup_ne (by omega), zup_ne (by omega)]))⟩
              unfold aIs aPair
              simp only [Nat.add_assoc, Nat.reduceAdd]
              rw [if_pos ht1, if_pos ht2, if_pos hb9]
              exact Or.inr ⟨bad_ne (by decide), rfl, rfl, hA2.1⟩
          · refine zg_if X 68 rfl rfl (by first | (unfold zin; omega) | (have h9 := hRR.1 0 (by omega); have h8 := hRR.1 1 (by omega); have h7 := hRR.1 2 (by omega); have h6 := hRR.1 3 (by omega); unfold zin; omega)) (fun g4 => ?_) (fun g4 => ?_)
            · simp only [x_cnd] at g4
              refine zg_blk pok2 X 7 [0, 3] (S' := (78, [(4, zI (lkS CN NM 2 (V (j + 1)))), (0, zR (m 0)), (1, zI 42), (2, zI 2), (3, zI 16)], [zI (HH ((16 + (lkS CN NM 2 (V (j + 1)))).toNat)), zI (16 + (lkS CN NM 2 (V (j + 1)))), zR (m 7)], (rW m (zup Fb 18 (lkS CN NM 1 (V (j + 2)))) B SS HH NR RV))) rfl ⟨rfl, rfl, rfl, (show zidx (16 + (lkS CN NM 2 (V (j + 1)))) 43 from by first | (unfold zidx; omega) | (have h9 := hRR.1 0 (by omega); have h8 := hRR.1 1 (by omega); have h7 := hRR.1 2 (by omega); have h6 := hRR.1 3 (by omega); unfold zidx; omega)), trivial⟩ ?_
              have hmk : HH (16 + lkS CN NM 2 (V (j + 1))).toNat = MK (lkS CN NM 2 (V (j + 1))).toNat := by
                rw [show (16 + lkS CN NM 2 (V (j + 1))).toNat = 16 + (lkS CN NM 2 (V (j + 1))).toNat by omega]
                exact hRR.2.1 _ (by omega)
              rw [hmk]
              refine zg_blk pok2 X 7 [0, 3] (S' := (87, [(4, zI (lkS CN NM 2 (V (j + 1)))), (0, zR (m 0)), (1, zI 42), (2, zI 2), (3, zI 16)], [zR (m 0)], (rW m (zup Fb 18 (lkS CN NM 1 (V (j + 2)))) B SS (zup HH ((16 + (lkS CN NM 2 (V (j + 1)))).toNat) (zor (MK (lkS CN NM 2 (V (j + 1))).toNat) (zshl 1 (lkS CN NM 1 (V (j + 2)))))) NR RV))) rfl ⟨rfl, rfl, rfl, (show zidx (16 + (lkS CN NM 2 (V (j + 1)))) 43 from by first | (unfold zidx; omega) | (have h9 := hRR.1 0 (by omega); have h8 := hRR.1 1 (by omega); have h7 := hRR.1 2 (by omega); have h6 := hRR.1 3 (by omega); unfold zidx; omega)), trivial⟩ ?_
              have hj3 : j + 3 ≤ k := hH2.len hj2 (by omega) (by omega)
              refine zg_callV pok2 EWX_ok X 0 (vas := []) (vr := []) (Y1 := (rW m (zup Fb 18 (lkS CN NM 1 (V (j + 2)))) B SS (zup HH ((16 + (lkS CN NM 2 (V (j + 1)))).toNat) (zor (MK (lkS CN NM 2 (V (j + 1))).toNat) (zshl 1 (lkS CN NM 1 (V (j + 2)))))) NR RV)) (Y2 := []) rfl rfl (Or.inl rfl) zj_X12_next rfl rfl rfl rfl (Nat.le_of_ble_eq_true rfl) rfl (zr_next (F := (zup Fb 18 (lkS CN NM 1 (V (j + 2))))) hH2.1 hH2.2.1 (by have e4 := hA2.2.2 (by omega) (by omega); have hp := hH2.2.2.2.1.2.2.2.2.2 ((j + 2) + 1) hj3; show 0 ≤ Fb 4 ∧ Fb 4 ≤ Fb 3; omega) (by have h9 := hH2.2.2.1; show 0 ≤ Fb 5 ∧ Fb 5 ≤ 1000; omega)) ⟨by decide, by decide, by decide, by decide⟩ (fun z9 Y9 hz => ?_)
              obtain ⟨rfl, Fe, rfl, hrt, hfrt⟩ := hz
              have hA3 : rAt P K S V Fe (j + 3) := rnext_ok (F := (zup Fb 18 (lkS CN NM 1 (V (j + 2))))) (j := (j + 2)) hH2 hA2 hj3 (by omega) (by omega) hrt
              have hH3 : RH B P K S V RV k Fe := RH.fr2 hH2 (show Fe 3 = Fb 3 from hfrt.fr4.1) (show Fe 5 = Fb 5 from hfrt.fr4.2.1)
              have hg3 : Fe 18 = lkS CN NM 1 (V (j + 2)) := hfrt 18 (by decide) (by decide) (by decide) (by decide) (by decide) (by decide)
              have hf3 : fr4 F Fe := fr4.tr (G := Fb) hf2 (show fr4 Fb Fe from hfrt.fr4)
              refine zg_blk pok2 X 1 [] (S' := (91, [(4, zI (lkS CN NM 2 (V (j + 1)))), (0, zR (m 0)), (1, zI 42), (2, zI 2), (3, zI 16)], [zI 1], (rW m Fe B SS (zup HH ((16 + (lkS CN NM 2 (V (j + 1)))).toNat) (zor (MK (lkS CN NM 2 (V (j + 1))).toNat) (zshl 1 (lkS CN NM 1 (V (j + 2)))))) NR RV))) rfl trivial ?_
              refine zg_retb X hR rfl rfl (by decide) (by decide) (by first | exact Or.inl rfl | exact Or.inr rfl) ?_
              refine ⟨_, _, _, rfl, ?_, (by intro q hq; first | rfl | exact hn9 q hq | (rw [zup_ne (by omega)]; rfl) | (rw [zup_ne (by omega)]) | (rw [zup_ne (by omega), zup_ne (by omega)]))⟩
              unfold aIs aPair
              simp only [Nat.add_assoc, Nat.reduceAdd]
              rw [if_pos ht1, if_pos ht2, if_neg hb9]
              have hfz := hf3
              exact Or.inl ⟨rfl, rfl, hA3, hj3, RR_mk hRR (by omega), hfz.2.2.2.trans hx, hfz.1, hfz.2.1, hfz.2.2.1⟩
            · exact absurd (show ¬ (0 : Int) = (0 : Int) from g4) (by decide)
        · exact absurd (show (1 : Int) = (0 : Int) from g2) (by decide)
      · refine zg_if X 43 rfl rfl (by first | (unfold zin; omega) | (have h9 := hRR.1 0 (by omega); have h8 := hRR.1 1 (by omega); have h7 := hRR.1 2 (by omega); have h6 := hRR.1 3 (by omega); unfold zin; omega)) (fun g5 => ?_) (fun g5 => ?_)
        · exact absurd (show ¬ (0 : Int) = (0 : Int) from g5) (by decide)
        · simp only [x_ncd] at g5
          refine zg_blk pok2 X 1 [] (S' := (42, [(4, zI (lkS CN NM 2 (V (j + 1)))), (0, zR (m 0)), (1, zI 42), (2, zI 2), (3, zI 16)], [zI 0], (rW m Fd B SS HH NR RV))) rfl trivial ?_
          refine zg_retb X hR rfl rfl (by decide) (by decide) (by first | exact Or.inl rfl | exact Or.inr rfl) ?_
          refine ⟨_, _, _, rfl, ?_, (by intro q hq; first | rfl | exact hn9 q hq | (rw [zup_ne (by omega)]; rfl) | (rw [zup_ne (by omega)]) | (rw [zup_ne (by omega), zup_ne (by omega)]))⟩
          unfold aIs aPair
          simp only [Nat.add_assoc, Nat.reduceAdd]
          rw [if_pos ht1, if_neg ht2]
          exact Or.inr ⟨ht2, rfl, hb1, hb2⟩
    · exact absurd (show (1 : Int) = (0 : Int) from g1) (by decide)
  · refine zg_if X 20 rfl rfl (by first | (unfold zin; omega) | (have h9 := hRR.1 0 (by omega); have h8 := hRR.1 1 (by omega); have h7 := hRR.1 2 (by omega); have h6 := hRR.1 3 (by omega); unfold zin; omega)) (fun g6 => ?_) (fun g6 => ?_)
    · exact absurd (show ¬ (0 : Int) = (0 : Int) from g6) (by decide)
    · simp only [x_ncd] at g6
      refine zg_blk pok2 X 1 [] (S' := (19, [(0, zR (m 0)), (1, zI 42), (2, zI 2), (3, zI 16)], [zI 0], (rW m Fc B SS HH NR RV))) rfl trivial ?_
      refine zg_retb X hR rfl rfl (by decide) (by decide) (by first | exact Or.inl rfl | exact Or.inr rfl) ?_
      refine ⟨_, _, _, rfl, ?_, (by intro q hq; first | rfl | exact hn9 q hq | (rw [zup_ne (by omega)]; rfl) | (rw [zup_ne (by omega)]) | (rw [zup_ne (by omega), zup_ne (by omega)]))⟩
      unfold aIs aPair
      simp only [Nat.add_assoc, Nat.reduceAdd]
      rw [if_neg ht1]
      exact Or.inr ⟨ht1, rfl, hb1, hb2⟩
set_option maxRecDepth 4000 in
theorem zr_readTieK (hk0 : K j = 2) (hH : RH B P K S V RV k F) (hA : rAt P K S V F j) (hj : j ≤ k) (hRR : RR HH NR CN NM MK KN) (hI : INV CN NM x) (hRZ : ∀ q, zin64 (RV q)) (hx : F 20 = x) : ZMet (EWX xs) D cy l ex mt2_X12_readTie (3, 0, 0, 67) (rW m F B SS HH NR RV) [zR (m 0), zI 50, zI 3, zI 37] (fun z Y => ∃ F9 HH9 NR9, Y = (rW m F9 B SS HH9 NR9 RV) ∧ rM2 P K S V F k (aKnows K V CN NM MK KN x (j + 1)) z F9 HH9 NR9 ∧ ∀ q : Nat, q < 28 → NR9 q = NR q) := by
  have hc0 := hI.1.1
  have hc1 := hI.2.1.1
  have hc2 := hI.2.2.1.1
  have hc3 := hI.2.2.2.1.1
  have hr0 := hRR.1 0 (by omega)
  have hr1 := hRR.1 1 (by omega)
  have hr2 := hRR.1 2 (by omega)
  have hr3 := hRR.1 3 (by omega)
  obtain ⟨mok, tok, ow⟩ := pok2.1 _ _ zj_X12_readTie
  refine met_ofz EWX_ok mok tok ow (Nat.le_of_ble_eq_true rfl) (fun r p0 e0 s0 m0 ar0 be0 me0 c0 A0 Q0 X hR => ?_)
  have hA0 := hA
  have hH0 := hH
  have hj0 := hj
  have hf0 : fr4 F F := ⟨rfl, rfl, rfl, rfl⟩
  obtain ⟨hc0, hc1, hc2, hc3, hc4⟩ := hI
  have hI : INV CN NM x := ⟨hc0, hc1, hc2, hc3, hc4⟩
  refine zg_blk pok2 X 1 [] (S' := (1, [(0, zR (m 0)), (1, zI 50), (2, zI 3), (3, zI 37)], [zR (m 0)], (rW m F B SS HH NR RV))) rfl trivial ?_
  have hj1 : j + 1 ≤ k := hH0.len hj0 (by omega) (by omega)
  refine zg_callV pok2 EWX_ok X 0 (vas := []) (vr := []) (Y1 := (rW m F B SS HH NR RV)) (Y2 := []) rfl rfl (Or.inl rfl) zj_X12_next rfl rfl rfl rfl (Nat.le_of_ble_eq_true rfl) rfl (zr_next (F := F) hH0.1 hH0.2.1 (by have e4 := hA0.2.2 (by omega) (by omega); have hp := hH0.2.2.2.1.2.2.2.2.2 (j + 1) hj1; show 0 ≤ F 4 ∧ F 4 ≤ F 3; omega) (by have h9 := hH0.2.2.1; show 0 ≤ F 5 ∧ F 5 ≤ 1000; omega)) ⟨by decide, by decide, by decide, by decide⟩ (fun z9 Y9 hz => ?_)
  obtain ⟨rfl, Fa, rfl, hrt, hfrt⟩ := hz
  have hA1 : rAt P K S V Fa (j + 1) := rnext_ok (F := F) (j := j) hH0 hA0 hj1 (by omega) (by omega) hrt
  have hH1 : RH B P K S V RV k Fa := RH.fr2 hH0 (show Fa 3 = F 3 from hfrt.fr4.1) (show Fa 5 = F 5 from hfrt.fr4.2.1)
  have hg1 : Fa 18 = F 18 := hfrt 18 (by decide) (by decide) (by decide) (by decide) (by decide) (by decide)
  have hf1 : fr4 F Fa := fr4.tr (G := F) hf0 (show fr4 F Fa from hfrt.fr4)
  refine zg_blk pok2 X 6 [0, 3] (S' := (12, [(0, zR (m 0)), (1, zI 50), (2, zI 3), (3, zI 37)], [zI (HH 3), zI 50, zR (m 0)], (rW m Fa B SS HH NR RV))) rfl ⟨rfl, rfl, rfl, (show zidx 3 43 from by first | (unfold zidx; omega) | (have h9 := hRR.1 0 (by omega); have h8 := hRR.1 1 (by omega); have h7 := hRR.1 2 (by omega); have h6 := hRR.1 3 (by omega); unfold zidx; omega)), trivial⟩ ?_
  rw [show HH 3 = (((CN 3).toNat : Nat) : Int) by have h9 := hRR.1 3 (by omega); have h8 := hI.cn 3 (by omega); omega]
  refine zg_callV pok2 EWX_ok X 0 (vas := [zI 50, zI (((CN 3).toNat : Nat) : Int)]) (vr := []) (Y1 := (rW m Fa B SS HH NR RV)) (Y2 := []) rfl rfl (Or.inl rfl) zj_X12_takesName rfl rfl rfl rfl (Nat.le_of_ble_eq_true rfl) rfl (zr_takesName (sN := 3) (F := Fa) (j := (j + 1)) (by omega) hH1 hA1 hj1 hRR hI hRZ) ⟨by decide, by decide, by decide, by decide⟩ (fun z9 Y9 hz => ?_)
  rcases hz with ⟨ht1, rfl, Fb, rfl, hax, hjx, hfx, hgx⟩ | ⟨ht1, rfl, Fc, rfl, hb1, hb2⟩
  · have hj2 : j + 2 ≤ k := hjx
    have hA2 : rAt P K S V Fb (j + 2) := hax
    have hH2 : RH B P K S V RV k Fb := RH.fr2 hH1 hfx.1 hfx.2.1
    have hf2 : fr4 F Fb := fr4.tr (G := Fa) hf1 hfx
    have hg2 : Fb 18 = lkS CN NM 3 (V (j + 1)) := hgx
    have hk1 := (td_ne ht1).1
    have hl1 := (td_ne ht1).2
    have hlr1 := lkS_rng (NM := NM) (key := V (j + 1)) (hI.cn 3 (by omega))
    refine zg_if X 20 rfl rfl (by first | (unfold zin; omega) | (have h9 := hRR.1 0 (by omega); have h8 := hRR.1 1 (by omega); have h7 := hRR.1 2 (by omega); have h6 := hRR.1 3 (by omega); unfold zin; omega)) (fun g1 => ?_) (fun g1 => ?_)
    · simp only [x_cnd] at g1
      refine zg_blk pok2 X 3 [0] (S' := (26, [(4, zI (Fb 18)), (0, zR (m 0)), (1, zI 50), (2, zI 3), (3, zI 37)], [], (rW m Fb B SS HH NR RV))) rfl ⟨rfl, trivial⟩ ?_
      rw [hg2]
      refine zg_blk pok2 X 6 [0, 3] (S' := (35, [(4, zI (lkS CN NM 3 (V (j + 1)))), (0, zR (m 0)), (1, zI 50), (2, zI 3), (3, zI 37)], [zI (HH 1), zI 32, zR (m 0)], (rW m Fb B SS HH NR RV))) rfl ⟨rfl, rfl, rfl, (show zidx 1 43 from by first | (unfold zidx; omega) | (have h9 := hRR.1 0 (by omega); have h8 := hRR.1 1 (by omega); have h7 := hRR.1 2 (by omega); have h6 := hRR.1 3 (by omega); unfold zidx; omega)), trivial⟩ ?_
      rw [show HH 1 = (((CN 1).toNat : Nat) : Int) by have h9 := hRR.1 1 (by omega); have h8 := hI.cn 1 (by omega); omega]
      refine zg_callV pok2 EWX_ok X 0 (vas := [zI 32, zI (((CN 1).toNat : Nat) : Int)]) (vr := []) (Y1 := (rW m Fb B SS HH NR RV)) (Y2 := []) rfl rfl (Or.inl rfl) zj_X12_looksAt rfl rfl rfl rfl (Nat.le_of_ble_eq_true rfl) rfl (zr_looksAt (sN := 1) (F := Fb) (j := (j + 2)) (by omega) hH2 hA2 hj2 hRR hI hRZ) ⟨by decide, by decide, by decide, by decide⟩ (fun z9 Y9 hz => ?_)
      rcases hz with ⟨ht2, rfl, rfl⟩ | ⟨ht2, rfl, Fd, rfl, hb1, hb2⟩
      · have hk2 := (td_ne ht2).1
        have hl2 := (td_ne ht2).2
        have hlr2 := lkS_rng (NM := NM) (key := V (j + 2)) (hI.cn 1 (by omega))
        refine zg_if X 43 rfl rfl (by first | (unfold zin; omega) | (have h9 := hRR.1 0 (by omega); have h8 := hRR.1 1 (by omega); have h7 := hRR.1 2 (by omega); have h6 := hRR.1 3 (by omega); unfold zin; omega)) (fun g2 => ?_) (fun g2 => ?_)
        · simp only [x_cnd] at g2
          refine zg_blk pok2 X 6 [0, 3] (S' := (52, [(4, zI (lkS CN NM 3 (V (j + 1)))), (0, zR (m 0)), (1, zI 50), (2, zI 3), (3, zI 37)], [zI (HH ((37 + (lkS CN NM 3 (V (j + 1)))).toNat))], (rW m (zup Fb 18 (lkS CN NM 1 (V (j + 2)))) B SS HH NR RV))) rfl ⟨rfl, rfl, rfl, (show zidx (37 + (lkS CN NM 3 (V (j + 1)))) 43 from by first | (unfold zidx; omega) | (have h9 := hRR.1 0 (by omega); have h8 := hRR.1 1 (by omega); have h7 := hRR.1 2 (by omega); have h6 := hRR.1 3 (by omega); unfold zidx; omega)), trivial⟩ ?_
          have hmk : HH (37 + lkS CN NM 3 (V (j + 1))).toNat = KN (lkS CN NM 3 (V (j + 1))).toNat := by
            rw [show (37 + lkS CN NM 3 (V (j + 1))).toNat = 37 + (lkS CN NM 3 (V (j + 1))).toNat by omega]
            exact hRR.2.2.1 _ (by omega)
          rw [hmk]
          refine zg_blk pok2 X 2 [0] (S' := (56, [(4, zI (lkS CN NM 3 (V (j + 1)))), (0, zR (m 0)), (1, zI 50), (2, zI 3), (3, zI 37)], [zI (lkS CN NM 1 (V (j + 2))), zI (KN (lkS CN NM 3 (V (j + 1))).toNat)], (rW m (zup Fb 18 (lkS CN NM 1 (V (j + 2)))) B SS HH NR RV))) rfl ⟨rfl, trivial⟩ ?_
          refine zg_callS pok2 EWX_ok X (vas := [zI (KN (lkS CN NM 3 (V (j + 1))).toNat), zI (lkS CN NM 1 (V (j + 2)))]) (vr := []) (Y1 := (rW m (zup Fb 18 (lkS CN NM 1 (V (j + 2)))) B SS HH NR RV)) (Y2 := []) rfl rfl (Or.inl rfl) zj_X12_bitOf rfl rfl rfl (Nat.le_of_ble_eq_true rfl) rfl (zr_bitOf) ⟨by decide, by decide, by decide, by decide⟩ (fun z9 Y9 hz => ?_)
          rcases hz with ⟨hb9, rfl, rfl⟩ | ⟨hb9, rfl, rfl⟩
          · refine zg_if X 68 rfl rfl (by first | (unfold zin; omega) | (have h9 := hRR.1 0 (by omega); have h8 := hRR.1 1 (by omega); have h7 := hRR.1 2 (by omega); have h6 := hRR.1 3 (by omega); unfold zin; omega)) (fun g3 => ?_) (fun g3 => ?_)
            · exact absurd (show (1 : Int) = (0 : Int) from g3) (by decide)
            · simp only [x_ncd] at g3
              refine zg_blk pok2 X 2 [] (S' := (64, [(4, zI (lkS CN NM 3 (V (j + 1)))), (0, zR (m 0)), (1, zI 50), (2, zI 3), (3, zI 37)], [zI 3, zR (m 0)], (rW m (zup Fb 18 (lkS CN NM 1 (V (j + 2)))) B SS HH NR RV))) rfl trivial ?_
              refine zg_callV pok2 EWX_ok X 0 (vas := [zI 3]) (vr := []) (Y1 := (rW m (zup Fb 18 (lkS CN NM 1 (V (j + 2)))) B SS HH NR RV)) (Y2 := []) rfl rfl (Or.inl rfl) zj_X12_bad rfl rfl rfl rfl (Nat.le_of_ble_eq_true rfl) rfl (zr_bad (F := (zup Fb 18 (lkS CN NM 1 (V (j + 2)))))) ⟨by decide, by decide, by decide, by decide⟩ (fun z9 Y9 hz => ?_)
              obtain ⟨rfl, rfl⟩ := hz
              refine zg_retb X hR rfl rfl (by decide) (by decide) (by first | exact Or.inl rfl | exact Or.inr rfl) ?_
              refine ⟨_, _, _, rfl, ?_, (by intro q hq; first | rfl | exact hn9 q hq | (rw [zup_ne (by omega)]; rfl) | (rw [zup_ne (by omega)]) | (rw [zup_ne (by omega), zup_ne (by omega)]))⟩
              unfold aKnows aPair
              simp only [Nat.add_assoc, Nat.reduceAdd]
              rw [if_pos ht1, if_pos ht2, if_pos hb9]
              exact Or.inr ⟨bad_ne (by decide), rfl, rfl, hA2.1⟩
          · refine zg_if X 68 rfl rfl (by first | (unfold zin; omega) | (have h9 := hRR.1 0 (by omega); have h8 := hRR.1 1 (by omega); have h7 := hRR.1 2 (by omega); have h6 := hRR.1 3 (by omega); unfold zin; omega)) (fun g4 => ?_) (fun g4 => ?_)
            · simp only [x_cnd] at g4
              refine zg_blk pok2 X 7 [0, 3] (S' := (78, [(4, zI (lkS CN NM 3 (V (j + 1)))), (0, zR (m 0)), (1, zI 50), (2, zI 3), (3, zI 37)], [zI (HH ((37 + (lkS CN NM 3 (V (j + 1)))).toNat)), zI (37 + (lkS CN NM 3 (V (j + 1)))), zR (m 7)], (rW m (zup Fb 18 (lkS CN NM 1 (V (j + 2)))) B SS HH NR RV))) rfl ⟨rfl, rfl, rfl, (show zidx (37 + (lkS CN NM 3 (V (j + 1)))) 43 from by first | (unfold zidx; omega) | (have h9 := hRR.1 0 (by omega); have h8 := hRR.1 1 (by omega); have h7 := hRR.1 2 (by omega); have h6 := hRR.1 3 (by omega); unfold zidx; omega)), trivial⟩ ?_
              have hmk : HH (37 + lkS CN NM 3 (V (j + 1))).toNat = KN (lkS CN NM 3 (V (j + 1))).toNat := by
                rw [show (37 + lkS CN NM 3 (V (j + 1))).toNat = 37 + (lkS CN NM 3 (V (j + 1))).toNat by omega]
                exact hRR.2.2.1 _ (by omega)
              rw [hmk]
              refine zg_blk pok2 X 7 [0, 3] (S' := (87, [(4, zI (lkS CN NM 3 (V (j + 1)))), (0, zR (m 0)), (1, zI 50), (2, zI 3), (3, zI 37)], [zR (m 0)], (rW m (zup Fb 18 (lkS CN NM 1 (V (j + 2)))) B SS (zup HH ((37 + (lkS CN NM 3 (V (j + 1)))).toNat) (zor (KN (lkS CN NM 3 (V (j + 1))).toNat) (zshl 1 (lkS CN NM 1 (V (j + 2)))))) NR RV))) rfl ⟨rfl, rfl, rfl, (show zidx (37 + (lkS CN NM 3 (V (j + 1)))) 43 from by first | (unfold zidx; omega) | (have h9 := hRR.1 0 (by omega); have h8 := hRR.1 1 (by omega); have h7 := hRR.1 2 (by omega); have h6 := hRR.1 3 (by omega); unfold zidx; omega)), trivial⟩ ?_
              have hj3 : j + 3 ≤ k := hH2.len hj2 (by omega) (by omega)
              refine zg_callV pok2 EWX_ok X 0 (vas := []) (vr := []) (Y1 := (rW m (zup Fb 18 (lkS CN NM 1 (V (j + 2)))) B SS (zup HH ((37 + (lkS CN NM 3 (V (j + 1)))).toNat) (zor (KN (lkS CN NM 3 (V (j + 1))).toNat) (zshl 1 (lkS CN NM 1 (V (j + 2)))))) NR RV)) (Y2 := []) rfl rfl (Or.inl rfl) zj_X12_next rfl rfl rfl rfl (Nat.le_of_ble_eq_true rfl) rfl (zr_next (F := (zup Fb 18 (lkS CN NM 1 (V (j + 2))))) hH2.1 hH2.2.1 (by have e4 := hA2.2.2 (by omega) (by omega); have hp := hH2.2.2.2.1.2.2.2.2.2 ((j + 2) + 1) hj3; show 0 ≤ Fb 4 ∧ Fb 4 ≤ Fb 3; omega) (by have h9 := hH2.2.2.1; show 0 ≤ Fb 5 ∧ Fb 5 ≤ 1000; omega)) ⟨by decide, by decide, by decide, by decide⟩ (fun z9 Y9 hz => ?_)
              obtain ⟨rfl, Fe, rfl, hrt, hfrt⟩ := hz
              have hA3 : rAt P K S V Fe (j + 3) := rnext_ok (F := (zup Fb 18 (lkS CN NM 1 (V (j + 2))))) (j := (j + 2)) hH2 hA2 hj3 (by omega) (by omega) hrt
              have hH3 : RH B P K S V RV k Fe := RH.fr2 hH2 (show Fe 3 = Fb 3 from hfrt.fr4.1) (show Fe 5 = Fb 5 from hfrt.fr4.2.1)
              have hg3 : Fe 18 = lkS CN NM 1 (V (j + 2)) := hfrt 18 (by decide) (by decide) (by decide) (by decide) (by decide) (by decide)
              have hf3 : fr4 F Fe := fr4.tr (G := Fb) hf2 (show fr4 Fb Fe from hfrt.fr4)
              refine zg_blk pok2 X 1 [] (S' := (91, [(4, zI (lkS CN NM 3 (V (j + 1)))), (0, zR (m 0)), (1, zI 50), (2, zI 3), (3, zI 37)], [zI 1], (rW m Fe B SS (zup HH ((37 + (lkS CN NM 3 (V (j + 1)))).toNat) (zor (KN (lkS CN NM 3 (V (j + 1))).toNat) (zshl 1 (lkS CN NM 1 (V (j + 2)))))) NR RV))) rfl trivial ?_
              refine zg_retb X hR rfl rfl (by decide) (by decide) (by first | exact Or.inl rfl | exact Or.inr rfl) ?_
              refine ⟨_, _, _, rfl, ?_, (by intro q hq; first | rfl | exact hn9 q hq | (rw [zup_ne (by omega)]; rfl) | (rw [zup_ne (by omega)]) | (rw [zup_ne (by omega), zup_ne (by omega)]))⟩
              unfold aKnows aPair
              simp only [Nat.add_assoc, Nat.reduceAdd]
              rw [if_pos ht1, if_pos ht2, if_neg hb9]
              have hfz := hf3
              exact Or.inl ⟨rfl, rfl, hA3, hj3, RR_kn hRR (by omega), hfz.2.2.2.trans hx, hfz.1, hfz.2.1, hfz.2.2.1⟩
            · exact absurd (show ¬ (0 : Int) = (0 : Int) from g4) (by decide)
        · exact absurd (show (1 : Int) = (0 : Int) from g2) (by decide)
      · refine zg_if X 43 rfl rfl (by first | (unfold zin; omega) | (have h9 := hRR.1 0 (by omega); have h8 := hRR.1 1 (by omega); have h7 := hRR.1 2 (by omega); have h6 := hRR.1 3 (by omega); unfold zin; omega)) (fun g5 => ?_) (fun g5 => ?_)
        · exact absurd (show ¬ (0 : Int) = (0 : Int) from g5) (by decide)
        · simp only [x_ncd] at g5
          refine zg_blk pok2 X 1 [] (S' := (42, [(4, zI (lkS CN NM 3 (V (j + 1)))), (0, zR (m 0)), (1, zI 50), (2, zI 3), (3, zI 37)], [zI 0], (rW m Fd B SS HH NR RV))) rfl trivial ?_
          refine zg_retb X hR rfl rfl (by decide) (by decide) (by first | exact Or.inl rfl | exact Or.inr rfl) ?_
          refine ⟨_, _, _, rfl, ?_, (by intro q hq; first | rfl | exact hn9 q hq | (rw [zup_ne (by omega)]; rfl) | (rw [zup_ne (by omega)]) | (rw [zup_ne (by omega), zup_ne (by omega)]))⟩
          unfold aKnows aPair
          simp only [Nat.add_assoc, Nat.reduceAdd]
          rw [if_pos ht1, if_neg ht2]
          exact Or.inr ⟨ht2, rfl, hb1, hb2⟩
    · exact absurd (show (1 : Int) = (0 : Int) from g1) (by decide)
  · refine zg_if X 20 rfl rfl (by first | (unfold zin; omega) | (have h9 := hRR.1 0 (by omega); have h8 := hRR.1 1 (by omega); have h7 := hRR.1 2 (by omega); have h6 := hRR.1 3 (by omega); unfold zin; omega)) (fun g6 => ?_) (fun g6 => ?_)
    · exact absurd (show ¬ (0 : Int) = (0 : Int) from g6) (by decide)
    · simp only [x_ncd] at g6
      refine zg_blk pok2 X 1 [] (S' := (19, [(0, zR (m 0)), (1, zI 50), (2, zI 3), (3, zI 37)], [zI 0], (rW m Fc B SS HH NR RV))) rfl trivial ?_
      refine zg_retb X hR rfl rfl (by decide) (by decide) (by first | exact Or.inl rfl | exact Or.inr rfl) ?_
      refine ⟨_, _, _, rfl, ?_, (by intro q hq; first | rfl | exact hn9 q hq | (rw [zup_ne (by omega)]; rfl) | (rw [zup_ne (by omega)]) | (rw [zup_ne (by omega), zup_ne (by omega)]))⟩
      unfold aKnows aPair
      simp only [Nat.add_assoc, Nat.reduceAdd]
      rw [if_neg ht1]
      exact Or.inr ⟨ht1, rfl, hb1, hb2⟩
set_option maxRecDepth 4000 in
theorem zj_X12_once : PR2[166]? = some mt2_X12_once := rfl
set_option maxRecDepth 4000 in
theorem zr_once4 (hk0 : K j = 2) (hH : RH B P K S V RV k F) (hA : rAt P K S V F j) (hj : j ≤ k) (hRR : RR HH NR CN NM MK KN) (hI : INV CN NM x) (hRZ : ∀ q, zin64 (RV q)) (hx : F 20 = x) : ZMet (EWX xs) D cy l ex mt2_X12_once (4, 0, 0, 88) (rW m F B SS HH NR RV) [zR (m 0), zI 0, zI 4, zI 1, zI 20] (fun z Y => ∃ F9 HH9 NR9, Y = (rW m F9 B SS HH9 NR9 RV) ∧ rM2 P K S V F k (aSet K V CN NM MK KN x 1 20 4 j) z F9 HH9 NR9 ∧ ∀ q : Nat, q < 28 → NR9 q = NR q) := by
  have hc0 := hI.1.1
  have hc1 := hI.2.1.1
  have hc2 := hI.2.2.1.1
  have hc3 := hI.2.2.2.1.1
  have hr0 := hRR.1 0 (by omega)
  have hr1 := hRR.1 1 (by omega)
  have hr2 := hRR.1 2 (by omega)
  have hr3 := hRR.1 3 (by omega)
  obtain ⟨mok, tok, ow⟩ := pok2.1 _ _ zj_X12_once
  refine met_ofz EWX_ok mok tok ow (Nat.le_of_ble_eq_true rfl) (fun r p0 e0 s0 m0 ar0 be0 me0 c0 A0 Q0 X hR => ?_)
  have hA0 := hA
  have hH0 := hH
  have hj0 := hj
  have hf0 : fr4 F F := ⟨rfl, rfl, rfl, rfl⟩
  obtain ⟨hc0, hc1, hc2, hc3, hc4⟩ := hI
  have hI : INV CN NM x := ⟨hc0, hc1, hc2, hc3, hc4⟩
  subst hx
  refine zg_blk pok2 X 3 [0] (S' := (5, [(0, zR (m 0)), (1, zI 0), (2, zI 4), (3, zI 1), (4, zI 20)], [zI 0, zI (F 20)], (rW m F B SS HH NR RV))) rfl ⟨rfl, trivial⟩ ?_
  refine zg_callS pok2 EWX_ok X (vas := [zI (F 20), zI 0]) (vr := []) (Y1 := (rW m F B SS HH NR RV)) (Y2 := []) rfl rfl (Or.inl rfl) zj_X12_bitOf rfl rfl rfl (Nat.le_of_ble_eq_true rfl) rfl (zr_bitOf) ⟨by decide, by decide, by decide, by decide⟩ (fun z9 Y9 hz => ?_)
  rcases hz with ⟨hb9, rfl, rfl⟩ | ⟨hb9, rfl, rfl⟩
  · refine zg_if X 17 rfl rfl (by first | (unfold zin; omega) | (have h9 := hRR.1 0 (by omega); have h8 := hRR.1 1 (by omega); have h7 := hRR.1 2 (by omega); have h6 := hRR.1 3 (by omega); unfold zin; omega)) (fun g1 => ?_) (fun g1 => ?_)
    · exact absurd (show (1 : Int) = (0 : Int) from g1) (by decide)
    · simp only [x_ncd] at g1
      refine zg_blk pok2 X 2 [] (S' := (13, [(0, zR (m 0)), (1, zI 0), (2, zI 4), (3, zI 1), (4, zI 20)], [zI 3, zR (m 0)], (rW m F B SS HH NR RV))) rfl trivial ?_
      refine zg_callV pok2 EWX_ok X 0 (vas := [zI 3]) (vr := []) (Y1 := (rW m F B SS HH NR RV)) (Y2 := []) rfl rfl (Or.inl rfl) zj_X12_bad rfl rfl rfl rfl (Nat.le_of_ble_eq_true rfl) rfl (zr_bad (F := F)) ⟨by decide, by decide, by decide, by decide⟩ (fun z9 Y9 hz => ?_)
      obtain ⟨rfl, rfl⟩ := hz
      refine zg_retb X hR rfl rfl (by decide) (by decide) (by first | exact Or.inl rfl | exact Or.inr rfl) ?_
      refine ⟨_, _, _, rfl, ?_, (by intro q hq; first | rfl | exact hn9 q hq | (rw [zup_ne (by omega)]; rfl) | (rw [zup_ne (by omega)]) | (rw [zup_ne (by omega), zup_ne (by omega)]))⟩
      unfold aSet
      rw [if_pos (show zand (zshr (F 20) (((4 : Nat) : Int) - 4)) 1 = 1 from hb9)]
      exact Or.inr ⟨bad_ne (by decide), rfl, rfl, hA0.1⟩
  · refine zg_if X 17 rfl rfl (by first | (unfold zin; omega) | (have h9 := hRR.1 0 (by omega); have h8 := hRR.1 1 (by omega); have h7 := hRR.1 2 (by omega); have h6 := hRR.1 3 (by omega); unfold zin; omega)) (fun g2 => ?_) (fun g2 => ?_)
    · simp only [x_cnd] at g2
      refine zg_blk pok2 X 9 [0, 0] (S' := (30, [(0, zR (m 0)), (1, zI 0), (2, zI 4), (3, zI 1), (4, zI 20)], [zR (m 0)], (rW m (zup F 20 (zor (F 20) (zshl 1 0))) B SS HH NR RV))) rfl ⟨rfl, rfl, rfl, rfl, trivial⟩ ?_
      have hj1 : j + 1 ≤ k := hH0.len hj0 (by omega) (by omega)
      refine zg_callV pok2 EWX_ok X 0 (vas := []) (vr := []) (Y1 := (rW m (zup F 20 (zor (F 20) (zshl 1 0))) B SS HH NR RV)) (Y2 := []) rfl rfl (Or.inl rfl) zj_X12_next rfl rfl rfl rfl (Nat.le_of_ble_eq_true rfl) rfl (zr_next (F := (zup F 20 (zor (F 20) (zshl 1 0)))) hH0.1 hH0.2.1 (by have e4 := hA0.2.2 (by omega) (by omega); have hp := hH0.2.2.2.1.2.2.2.2.2 (j + 1) hj1; show 0 ≤ F 4 ∧ F 4 ≤ F 3; omega) (by have h9 := hH0.2.2.1; show 0 ≤ F 5 ∧ F 5 ≤ 1000; omega)) ⟨by decide, by decide, by decide, by decide⟩ (fun z9 Y9 hz => ?_)
      obtain ⟨rfl, Fa, rfl, hrt, hfrt⟩ := hz
      have hA1 : rAt P K S V Fa (j + 1) := rnext_ok (F := (zup F 20 (zor (F 20) (zshl 1 0)))) (j := j) hH0 hA0 hj1 (by omega) (by omega) hrt
      have hH1 : RH B P K S V RV k Fa := RH.fr2 hH0 (show Fa 3 = F 3 from hfrt.fr4.1) (show Fa 5 = F 5 from hfrt.fr4.2.1)
      have hg1 : Fa 18 = F 18 := hfrt 18 (by decide) (by decide) (by decide) (by decide) (by decide) (by decide)
      have hf1 : fr4 (zup F 20 (zor (F 20) (zshl 1 0))) Fa := hfrt.fr4
      refine zg_blk pok2 X 4 [] (S' := (38, [(0, zR (m 0)), (1, zI 0), (2, zI 4), (3, zI 1), (4, zI 20)], [zI 20, zI 1, zI 4, zR (m 0)], (rW m Fa B SS HH NR RV))) rfl trivial ?_
      refine zg_callV pok2 EWX_ok X 0 (vas := [zI 4, zI 1, zI 20]) (vr := []) (Y1 := (rW m Fa B SS HH NR RV)) (Y2 := []) rfl rfl (Or.inl rfl) zj_X12_puts rfl rfl rfl rfl (Nat.le_of_ble_eq_true rfl) rfl (zr_puts (F := Fa) (j := (j + 1)) (HH := HH) (NR := NR) (by omega) (by omega) (by omega) hH1 hA1 hj1) ⟨by decide, by decide, by decide, by decide⟩ (fun z9 Y9 hz => ?_)
      rcases hz with ⟨hq1, rfl, Fb, rfl, hax, hjx, hfx, -⟩ | ⟨hq1, rfl, Fc, rfl, hb1, hb2⟩
      · have hj2 : j + 2 ≤ k := hjx
        have hA2 : rAt P K S V Fb (j + 2) := hax
        have hH2 : RH B P K S V RV k Fb := RH.fr2 hH1 hfx.1 hfx.2.1
        have hf2 : fr4 (zup F 20 (zor (F 20) (zshl 1 0))) Fb := fr4.tr (G := Fa) hf1 hfx
        have hm1 := nm_ok hq1
        refine zg_retb X hR rfl rfl (by decide) (by decide) (by first | exact Or.inl rfl | exact Or.inr rfl) ?_
        refine ⟨_, _, _, rfl, ?_, (by intro q hq; first | rfl | exact hn9 q hq | (rw [zup_ne (by omega)]; rfl) | (rw [zup_ne (by omega)]) | (rw [zup_ne (by omega), zup_ne (by omega)]))⟩
        unfold aSet
        rw [if_neg (show ¬ zand (zshr (F 20) (((4 : Nat) : Int) - 4)) 1 = 1 from hb9), if_pos hq1]
        have hfz := hf2
        exact Or.inl ⟨rfl, rfl, hA2, hj2, RR_set hRR (by omega), hfz.2.2.2, hfz.1, hfz.2.1, hfz.2.2.1⟩
      · refine zg_retb X hR rfl rfl (by decide) (by decide) (by first | exact Or.inl rfl | exact Or.inr rfl) ?_
        refine ⟨_, _, _, rfl, ?_, (by intro q hq; first | rfl | exact hn9 q hq | (rw [zup_ne (by omega)]; rfl) | (rw [zup_ne (by omega)]) | (rw [zup_ne (by omega), zup_ne (by omega)]))⟩
        unfold aSet
        rw [if_neg (show ¬ zand (zshr (F 20) (((4 : Nat) : Int) - 4)) 1 = 1 from hb9), if_neg hq1]
        exact Or.inr ⟨hq1, rfl, hb1, hb2⟩
    · exact absurd (show ¬ (0 : Int) = (0 : Int) from g2) (by decide)
set_option maxRecDepth 4000 in
theorem zr_once5 (hk0 : K j = 2) (hH : RH B P K S V RV k F) (hA : rAt P K S V F j) (hj : j ≤ k) (hRR : RR HH NR CN NM MK KN) (hI : INV CN NM x) (hRZ : ∀ q, zin64 (RV q)) (hx : F 20 = x) : ZMet (EWX xs) D cy l ex mt2_X12_once (4, 0, 0, 88) (rW m F B SS HH NR RV) [zR (m 0), zI 1, zI 5, zI 0, zI 9] (fun z Y => ∃ F9 HH9 NR9, Y = (rW m F9 B SS HH9 NR9 RV) ∧ rM2 P K S V F k (aSet K V CN NM MK KN x 0 9 5 j) z F9 HH9 NR9 ∧ ∀ q : Nat, q < 28 → NR9 q = NR q) := by
  have hc0 := hI.1.1
  have hc1 := hI.2.1.1
  have hc2 := hI.2.2.1.1
  have hc3 := hI.2.2.2.1.1
  have hr0 := hRR.1 0 (by omega)
  have hr1 := hRR.1 1 (by omega)
  have hr2 := hRR.1 2 (by omega)
  have hr3 := hRR.1 3 (by omega)
  obtain ⟨mok, tok, ow⟩ := pok2.1 _ _ zj_X12_once
  refine met_ofz EWX_ok mok tok ow (Nat.le_of_ble_eq_true rfl) (fun r p0 e0 s0 m0 ar0 be0 me0 c0 A0 Q0 X hR => ?_)
  have hA0 := hA
  have hH0 := hH
  have hj0 := hj
  have hf0 : fr4 F F := ⟨rfl, rfl, rfl, rfl⟩
  obtain ⟨hc0, hc1, hc2, hc3, hc4⟩ := hI
  have hI : INV CN NM x := ⟨hc0, hc1, hc2, hc3, hc4⟩
  subst hx
  refine zg_blk pok2 X 3 [0] (S' := (5, [(0, zR (m 0)), (1, zI 1), (2, zI 5), (3, zI 0), (4, zI 9)], [zI 1, zI (F 20)], (rW m F B SS HH NR RV))) rfl ⟨rfl, trivial⟩ ?_
  refine zg_callS pok2 EWX_ok X (vas := [zI (F 20), zI 1]) (vr := []) (Y1 := (rW m F B SS HH NR RV)) (Y2 := []) rfl rfl (Or.inl rfl) zj_X12_bitOf rfl rfl rfl (Nat.le_of_ble_eq_true rfl) rfl (zr_bitOf) ⟨by decide, by decide, by decide, by decide⟩ (fun z9 Y9 hz => ?_)
  rcases hz with ⟨hb9, rfl, rfl⟩ | ⟨hb9, rfl, rfl⟩
  · refine zg_if X 17 rfl rfl (by first | (unfold zin; omega) | (have h9 := hRR.1 0 (by omega); have h8 := hRR.1 1 (by omega); have h7 := hRR.1 2 (by omega); have h6 := hRR.1 3 (by omega); unfold zin; omega)) (fun g1 => ?_) (fun g1 => ?_)
    · exact absurd (show (1 : Int) = (0 : Int) from g1) (by decide)
    · simp only [x_ncd] at g1
      refine zg_blk pok2 X 2 [] (S' := (13, [(0, zR (m 0)), (1, zI 1), (2, zI 5), (3, zI 0), (4, zI 9)], [zI 3, zR (m 0)], (rW m F B SS HH NR RV))) rfl trivial ?_
      refine zg_callV pok2 EWX_ok X 0 (vas := [zI 3]) (vr := []) (Y1 := (rW m F B SS HH NR RV)) (Y2 := []) rfl rfl (Or.inl rfl) zj_X12_bad rfl rfl rfl rfl (Nat.le_of_ble_eq_true rfl) rfl (zr_bad (F := F)) ⟨by decide, by decide, by decide, by decide⟩ (fun z9 Y9 hz => ?_)
      obtain ⟨rfl, rfl⟩ := hz
      refine zg_retb X hR rfl rfl (by decide) (by decide) (by first | exact Or.inl rfl | exact Or.inr rfl) ?_
      refine ⟨_, _, _, rfl, ?_, (by intro q hq; first | rfl | exact hn9 q hq | (rw [zup_ne (by omega)]; rfl) | (rw [zup_ne (by omega)]) | (rw [zup_ne (by omega), zup_ne (by omega)]))⟩
      unfold aSet
      rw [if_pos (show zand (zshr (F 20) (((5 : Nat) : Int) - 4)) 1 = 1 from hb9)]
      exact Or.inr ⟨bad_ne (by decide), rfl, rfl, hA0.1⟩
  · refine zg_if X 17 rfl rfl (by first | (unfold zin; omega) | (have h9 := hRR.1 0 (by omega); have h8 := hRR.1 1 (by omega); have h7 := hRR.1 2 (by omega); have h6 := hRR.1 3 (by omega); unfold zin; omega)) (fun g2 => ?_) (fun g2 => ?_)
    · simp only [x_cnd] at g2
      refine zg_blk pok2 X 9 [0, 0] (S' := (30, [(0, zR (m 0)), (1, zI 1), (2, zI 5), (3, zI 0), (4, zI 9)], [zR (m 0)], (rW m (zup F 20 (zor (F 20) (zshl 1 1))) B SS HH NR RV))) rfl ⟨rfl, rfl, rfl, rfl, trivial⟩ ?_
      have hj1 : j + 1 ≤ k := hH0.len hj0 (by omega) (by omega)
      refine zg_callV pok2 EWX_ok X 0 (vas := []) (vr := []) (Y1 := (rW m (zup F 20 (zor (F 20) (zshl 1 1))) B SS HH NR RV)) (Y2 := []) rfl rfl (Or.inl rfl) zj_X12_next rfl rfl rfl rfl (Nat.le_of_ble_eq_true rfl) rfl (zr_next (F := (zup F 20 (zor (F 20) (zshl 1 1)))) hH0.1 hH0.2.1 (by have e4 := hA0.2.2 (by omega) (by omega); have hp := hH0.2.2.2.1.2.2.2.2.2 (j + 1) hj1; show 0 ≤ F 4 ∧ F 4 ≤ F 3; omega) (by have h9 := hH0.2.2.1; show 0 ≤ F 5 ∧ F 5 ≤ 1000; omega)) ⟨by decide, by decide, by decide, by decide⟩ (fun z9 Y9 hz => ?_)
      obtain ⟨rfl, Fa, rfl, hrt, hfrt⟩ := hz
      have hA1 : rAt P K S V Fa (j + 1) := rnext_ok (F := (zup F 20 (zor (F 20) (zshl 1 1)))) (j := j) hH0 hA0 hj1 (by omega) (by omega) hrt
      have hH1 : RH B P K S V RV k Fa := RH.fr2 hH0 (show Fa 3 = F 3 from hfrt.fr4.1) (show Fa 5 = F 5 from hfrt.fr4.2.1)
      have hg1 : Fa 18 = F 18 := hfrt 18 (by decide) (by decide) (by decide) (by decide) (by decide) (by decide)
      have hf1 : fr4 (zup F 20 (zor (F 20) (zshl 1 1))) Fa := hfrt.fr4
      refine zg_blk pok2 X 4 [] (S' := (38, [(0, zR (m 0)), (1, zI 1), (2, zI 5), (3, zI 0), (4, zI 9)], [zI 9, zI 0, zI 5, zR (m 0)], (rW m Fa B SS HH NR RV))) rfl trivial ?_
      refine zg_callV pok2 EWX_ok X 0 (vas := [zI 5, zI 0, zI 9]) (vr := []) (Y1 := (rW m Fa B SS HH NR RV)) (Y2 := []) rfl rfl (Or.inl rfl) zj_X12_puts rfl rfl rfl rfl (Nat.le_of_ble_eq_true rfl) rfl (zr_puts (F := Fa) (j := (j + 1)) (HH := HH) (NR := NR) (by omega) (by omega) (by omega) hH1 hA1 hj1) ⟨by decide, by decide, by decide, by decide⟩ (fun z9 Y9 hz => ?_)
      rcases hz with ⟨hq1, rfl, Fb, rfl, hax, hjx, hfx, -⟩ | ⟨hq1, rfl, Fc, rfl, hb1, hb2⟩
      · have hj2 : j + 2 ≤ k := hjx
        have hA2 : rAt P K S V Fb (j + 2) := hax
        have hH2 : RH B P K S V RV k Fb := RH.fr2 hH1 hfx.1 hfx.2.1
        have hf2 : fr4 (zup F 20 (zor (F 20) (zshl 1 1))) Fb := fr4.tr (G := Fa) hf1 hfx
        have hm1 := nm_ok hq1
        refine zg_retb X hR rfl rfl (by decide) (by decide) (by first | exact Or.inl rfl | exact Or.inr rfl) ?_
        refine ⟨_, _, _, rfl, ?_, (by intro q hq; first | rfl | exact hn9 q hq | (rw [zup_ne (by omega)]; rfl) | (rw [zup_ne (by omega)]) | (rw [zup_ne (by omega), zup_ne (by omega)]))⟩
        unfold aSet
        rw [if_neg (show ¬ zand (zshr (F 20) (((5 : Nat) : Int) - 4)) 1 = 1 from hb9), if_pos hq1]
        have hfz := hf2
        exact Or.inl ⟨rfl, rfl, hA2, hj2, RR_set hRR (by omega), hfz.2.2.2, hfz.1, hfz.2.1, hfz.2.2.1⟩
      · refine zg_retb X hR rfl rfl (by decide) (by decide) (by first | exact Or.inl rfl | exact Or.inr rfl) ?_
        refine ⟨_, _, _, rfl, ?_, (by intro q hq; first | rfl | exact hn9 q hq | (rw [zup_ne (by omega)]; rfl) | (rw [zup_ne (by omega)]) | (rw [zup_ne (by omega), zup_ne (by omega)]))⟩
        unfold aSet
        rw [if_neg (show ¬ zand (zshr (F 20) (((5 : Nat) : Int) - 4)) 1 = 1 from hb9), if_neg hq1]
        exact Or.inr ⟨hq1, rfl, hb1, hb2⟩
    · exact absurd (show ¬ (0 : Int) = (0 : Int) from g2) (by decide)
set_option maxRecDepth 4000 in
theorem zr_once6 (hk0 : K j = 2) (hH : RH B P K S V RV k F) (hA : rAt P K S V F j) (hj : j ≤ k) (hRR : RR HH NR CN NM MK KN) (hI : INV CN NM x) (hRZ : ∀ q, zin64 (RV q)) (hx : F 20 = x) : ZMet (EWX xs) D cy l ex mt2_X12_once (4, 0, 0, 88) (rW m F B SS HH NR RV) [zR (m 0), zI 2, zI 6, zI 0, zI 9] (fun z Y => ∃ F9 HH9 NR9, Y = (rW m F9 B SS HH9 NR9 RV) ∧ rM2 P K S V F k (aSet K V CN NM MK KN x 0 9 6 j) z F9 HH9 NR9 ∧ ∀ q : Nat, q < 28 → NR9 q = NR q) := by
  have hc0 := hI.1.1
  have hc1 := hI.2.1.1
  have hc2 := hI.2.2.1.1
  have hc3 := hI.2.2.2.1.1
  have hr0 := hRR.1 0 (by omega)
  have hr1 := hRR.1 1 (by omega)
  have hr2 := hRR.1 2 (by omega)
  have hr3 := hRR.1 3 (by omega)
  obtain ⟨mok, tok, ow⟩ := pok2.1 _ _ zj_X12_once
  refine met_ofz EWX_ok mok tok ow (Nat.le_of_ble_eq_true rfl) (fun r p0 e0 s0 m0 ar0 be0 me0 c0 A0 Q0 X hR => ?_)
  have hA0 := hA
  have hH0 := hH
  have hj0 := hj
  have hf0 : fr4 F F := ⟨rfl, rfl, rfl, rfl⟩
  obtain ⟨hc0, hc1, hc2, hc3, hc4⟩ := hI
  have hI : INV CN NM x := ⟨hc0, hc1, hc2, hc3, hc4⟩
  subst hx
  refine zg_blk pok2 X 3 [0] (S' := (5, [(0, zR (m 0)), (1, zI 2), (2, zI 6), (3, zI 0), (4, zI 9)], [zI 2, zI (F 20)], (rW m F B SS HH NR RV))) rfl ⟨rfl, trivial⟩ ?_
  refine zg_callS pok2 EWX_ok X (vas := [zI (F 20), zI 2]) (vr := []) (Y1 := (rW m F B SS HH NR RV)) (Y2 := []) rfl rfl (Or.inl rfl) zj_X12_bitOf rfl rfl rfl (Nat.le_of_ble_eq_true rfl) rfl (zr_bitOf) ⟨by decide, by decide, by decide, by decide⟩ (fun z9 Y9 hz => ?_)
  rcases hz with ⟨hb9, rfl, rfl⟩ | ⟨hb9, rfl, rfl⟩
  · refine zg_if X 17 rfl rfl (by first | (unfold zin; omega) | (have h9 := hRR.1 0 (by omega); have h8 := hRR.1 1 (by omega); have h7 := hRR.1 2 (by omega); have h6 := hRR.1 3 (by omega); unfold zin; omega)) (fun g1 => ?_) (fun g1 => ?_)
    · exact absurd (show (1 : Int) = (0 : Int) from g1) (by decide)
    · simp only [x_ncd] at g1
      refine zg_blk pok2 X 2 [] (S' := (13, [(0, zR (m 0)), (1, zI 2), (2, zI 6), (3, zI 0), (4, zI 9)], [zI 3, zR (m 0)], (rW m F B SS HH NR RV))) rfl trivial ?_
      refine zg_callV pok2 EWX_ok X 0 (vas := [zI 3]) (vr := []) (Y1 := (rW m F B SS HH NR RV)) (Y2 := []) rfl rfl (Or.inl rfl) zj_X12_bad rfl rfl rfl rfl (Nat.le_of_ble_eq_true rfl) rfl (zr_bad (F := F)) ⟨by decide, by decide, by decide, by decide⟩ (fun z9 Y9 hz => ?_)
      obtain ⟨rfl, rfl⟩ := hz
      refine zg_retb X hR rfl rfl (by decide) (by decide) (by first | exact Or.inl rfl | exact Or.inr rfl) ?_
      refine ⟨_, _, _, rfl, ?_, (by intro q hq; first | rfl | exact hn9 q hq | (rw [zup_ne (by omega)]; rfl) | (rw [zup_ne (by omega)]) | (rw [zup_ne (by omega), zup_ne (by omega)]))⟩
      unfold aSet
      rw [if_pos (show zand (zshr (F 20) (((6 : Nat) : Int) - 4)) 1 = 1 from hb9)]
      exact Or.inr ⟨bad_ne (by decide), rfl, rfl, hA0.1⟩
  · refine zg_if X 17 rfl rfl (by first | (unfold zin; omega) | (have h9 := hRR.1 0 (by omega); have h8 := hRR.1 1 (by omega); have h7 := hRR.1 2 (by omega); have h6 := hRR.1 3 (by omega); unfold zin; omega)) (fun g2 => ?_) (fun g2 => ?_)
    · simp only [x_cnd] at g2
      refine zg_blk pok2 X 9 [0, 0] (S' := (30, [(0, zR (m 0)), (1, zI 2), (2, zI 6), (3, zI 0), (4, zI 9)], [zR (m 0)], (rW m (zup F 20 (zor (F 20) (zshl 1 2))) B SS HH NR RV))) rfl ⟨rfl, rfl, rfl, rfl, trivial⟩ ?_
      have hj1 : j + 1 ≤ k := hH0.len hj0 (by omega) (by omega)
      refine zg_callV pok2 EWX_ok X 0 (vas := []) (vr := []) (Y1 := (rW m (zup F 20 (zor (F 20) (zshl 1 2))) B SS HH NR RV)) (Y2 := []) rfl rfl (Or.inl rfl) zj_X12_next rfl rfl rfl rfl (Nat.le_of_ble_eq_true rfl) rfl (zr_next (F := (zup F 20 (zor (F 20) (zshl 1 2)))) hH0.1 hH0.2.1 (by have e4 := hA0.2.2 (by omega) (by omega); have hp := hH0.2.2.2.1.2.2.2.2.2 (j + 1) hj1; show 0 ≤ F 4 ∧ F 4 ≤ F 3; omega) (by have h9 := hH0.2.2.1; show 0 ≤ F 5 ∧ F 5 ≤ 1000; omega)) ⟨by decide, by decide, by decide, by decide⟩ (fun z9 Y9 hz => ?_)
      obtain ⟨rfl, Fa, rfl, hrt, hfrt⟩ := hz
      have hA1 : rAt P K S V Fa (j + 1) := rnext_ok (F := (zup F 20 (zor (F 20) (zshl 1 2)))) (j := j) hH0 hA0 hj1 (by omega) (by omega) hrt
      have hH1 : RH B P K S V RV k Fa := RH.fr2 hH0 (show Fa 3 = F 3 from hfrt.fr4.1) (show Fa 5 = F 5 from hfrt.fr4.2.1)
      have hg1 : Fa 18 = F 18 := hfrt 18 (by decide) (by decide) (by decide) (by decide) (by decide) (by decide)
      have hf1 : fr4 (zup F 20 (zor (F 20) (zshl 1 2))) Fa := hfrt.fr4
      refine zg_blk pok2 X 4 [] (S' := (38, [(0, zR (m 0)), (1, zI 2), (2, zI 6), (3, zI 0), (4, zI 9)], [zI 9, zI 0, zI 6, zR (m 0)], (rW m Fa B SS HH NR RV))) rfl trivial ?_
      refine zg_callV pok2 EWX_ok X 0 (vas := [zI 6, zI 0, zI 9]) (vr := []) (Y1 := (rW m Fa B SS HH NR RV)) (Y2 := []) rfl rfl (Or.inl rfl) zj_X12_puts rfl rfl rfl rfl (Nat.le_of_ble_eq_true rfl) rfl (zr_puts (F := Fa) (j := (j + 1)) (HH := HH) (NR := NR) (by omega) (by omega) (by omega) hH1 hA1 hj1) ⟨by decide, by decide, by decide, by decide⟩ (fun z9 Y9 hz => ?_)
      rcases hz with ⟨hq1, rfl, Fb, rfl, hax, hjx, hfx, -⟩ | ⟨hq1, rfl, Fc, rfl, hb1, hb2⟩
      · have hj2 : j + 2 ≤ k := hjx
        have hA2 : rAt P K S V Fb (j + 2) := hax
        have hH2 : RH B P K S V RV k Fb := RH.fr2 hH1 hfx.1 hfx.2.1
        have hf2 : fr4 (zup F 20 (zor (F 20) (zshl 1 2))) Fb := fr4.tr (G := Fa) hf1 hfx
        have hm1 := nm_ok hq1
        refine zg_retb X hR rfl rfl (by decide) (by decide) (by first | exact Or.inl rfl | exact Or.inr rfl) ?_
        refine ⟨_, _, _, rfl, ?_, (by intro q hq; first | rfl | exact hn9 q hq | (rw [zup_ne (by omega)]; rfl) | (rw [zup_ne (by omega)]) | (rw [zup_ne (by omega), zup_ne (by omega)]))⟩
        unfold aSet
        rw [if_neg (show ¬ zand (zshr (F 20) (((6 : Nat) : Int) - 4)) 1 = 1 from hb9), if_pos hq1]
        have hfz := hf2
        exact Or.inl ⟨rfl, rfl, hA2, hj2, RR_set hRR (by omega), hfz.2.2.2, hfz.1, hfz.2.1, hfz.2.2.1⟩
      · refine zg_retb X hR rfl rfl (by decide) (by decide) (by first | exact Or.inl rfl | exact Or.inr rfl) ?_
        refine ⟨_, _, _, rfl, ?_, (by intro q hq; first | rfl | exact hn9 q hq | (rw [zup_ne (by omega)]; rfl) | (rw [zup_ne (by omega)]) | (rw [zup_ne (by omega), zup_ne (by omega)]))⟩
        unfold aSet
        rw [if_neg (show ¬ zand (zshr (F 20) (((6 : Nat) : Int) - 4)) 1 = 1 from hb9), if_neg hq1]
        exact Or.inr ⟨hq1, rfl, hb1, hb2⟩
    · exact absurd (show ¬ (0 : Int) = (0 : Int) from g2) (by decide)
set_option maxRecDepth 4000 in
theorem zr_once7 (hk0 : K j = 2) (hH : RH B P K S V RV k F) (hA : rAt P K S V F j) (hj : j ≤ k) (hRR : RR HH NR CN NM MK KN) (hI : INV CN NM x) (hRZ : ∀ q, zin64 (RV q)) (hx : F 20 = x) : ZMet (EWX xs) D cy l ex mt2_X12_once (4, 0, 0, 88) (rW m F B SS HH NR RV) [zR (m 0), zI 3, zI 7, zI 0, zI 6] (fun z Y => ∃ F9 HH9 NR9, Y = (rW m F9 B SS HH9 NR9 RV) ∧ rM2 P K S V F k (aSet K V CN NM MK KN x 0 6 7 j) z F9 HH9 NR9 ∧ ∀ q : Nat, q < 28 → NR9 q = NR q) := by
  have hc0 := hI.1.1
  have hc1 := hI.2.1.1
  have hc2 := hI.2.2.1.1
  have hc3 := hI.2.2.2.1.1
  have hr0 := hRR.1 0 (by omega)
  have hr1 := hRR.1 1 (by omega)
  have hr2 := hRR.1 2 (by omega)
  have hr3 := hRR.1 3 (by omega)
  obtain ⟨mok, tok, ow⟩ := pok2.1 _ _ zj_X12_once
  refine met_ofz EWX_ok mok tok ow (Nat.le_of_ble_eq_true rfl) (fun r p0 e0 s0 m0 ar0 be0 me0 c0 A0 Q0 X hR => ?_)
  have hA0 := hA
  have hH0 := hH
  have hj0 := hj
  have hf0 : fr4 F F := ⟨rfl, rfl, rfl, rfl⟩
  obtain ⟨hc0, hc1, hc2, hc3, hc4⟩ := hI
  have hI : INV CN NM x := ⟨hc0, hc1, hc2, hc3, hc4⟩
  subst hx
  refine zg_blk pok2 X 3 [0] (S' := (5, [(0, zR (m 0)), (1, zI 3), (2, zI 7), (3, zI 0), (4, zI 6)], [zI 3, zI (F 20)], (rW m F B SS HH NR RV))) rfl ⟨rfl, trivial⟩ ?_
  refine zg_callS pok2 EWX_ok X (vas := [zI (F 20), zI 3]) (vr := []) (Y1 := (rW m F B SS HH NR RV)) (Y2 := []) rfl rfl (Or.inl rfl) zj_X12_bitOf rfl rfl rfl (Nat.le_of_ble_eq_true rfl) rfl (zr_bitOf) ⟨by decide, by decide, by decide, by decide⟩ (fun z9 Y9 hz => ?_)
  rcases hz with ⟨hb9, rfl, rfl⟩ | ⟨hb9, rfl, rfl⟩
  · refine zg_if X 17 rfl rfl (by first | (unfold zin; omega) | (have h9 := hRR.1 0 (by omega); have h8 := hRR.1 1 (by omega); have h7 := hRR.1 2 (by omega); have h6 := hRR.1 3 (by omega); unfold zin; omega)) (fun g1 => ?_) (fun g1 => ?_)
    · exact absurd (show (1 : Int) = (0 : Int) from g1) (by decide)
    · simp only [x_ncd] at g1
      refine zg_blk pok2 X 2 [] (S' := (13, [(0, zR (m 0)), (1, zI 3), (2, zI 7), (3, zI 0), (4, zI 6)], [zI 3, zR (m 0)], (rW m F B SS HH NR RV))) rfl trivial ?_
      refine zg_callV pok2 EWX_ok X 0 (vas := [zI 3]) (vr := []) (Y1 := (rW m F B SS HH NR RV)) (Y2 := []) rfl rfl (Or.inl rfl) zj_X12_bad rfl rfl rfl rfl (Nat.le_of_ble_eq_true rfl) rfl (zr_bad (F := F)) ⟨by decide, by decide, by decide, by decide⟩ (fun z9 Y9 hz => ?_)
      obtain ⟨rfl, rfl⟩ := hz
      refine zg_retb X hR rfl rfl (by decide) (by decide) (by first | exact Or.inl rfl | exact Or.inr rfl) ?_
      refine ⟨_, _, _, rfl, ?_, (by intro q hq; first | rfl | exact hn9 q hq | (rw [zup_ne (by omega)]; rfl) | (rw [zup_ne (by omega)]) | (rw [zup_ne (by omega), zup_ne (by omega)]))⟩
      unfold aSet
      rw [if_pos (show zand (zshr (F 20) (((7 : Nat) : Int) - 4)) 1 = 1 from hb9)]
      exact Or.inr ⟨bad_ne (by decide), rfl, rfl, hA0.1⟩
  · refine zg_if X 17 rfl rfl (by first | (unfold zin; omega) | (have h9 := hRR.1 0 (by omega); have h8 := hRR.1 1 (by omega); have h7 := hRR.1 2 (by omega); have h6 := hRR.1 3 (by omega); unfold zin; omega)) (fun g2 => ?_) (fun g2 => ?_)
    · simp only [x_cnd] at g2
      refine zg_blk pok2 X 9 [0, 0] (S' := (30, [(0, zR (m 0)), (1, zI 3), (2, zI 7), (3, zI 0), (4, zI 6)], [zR (m 0)], (rW m (zup F 20 (zor (F 20) (zshl 1 3))) B SS HH NR RV))) rfl ⟨rfl, rfl, rfl, rfl, trivial⟩ ?_
      have hj1 : j + 1 ≤ k := hH0.len hj0 (by omega) (by omega)
      refine zg_callV pok2 EWX_ok X 0 (vas := []) (vr := []) (Y1 := (rW m (zup F 20 (zor (F 20) (zshl 1 3))) B SS HH NR RV)) (Y2 := []) rfl rfl (Or.inl rfl) zj_X12_next rfl rfl rfl rfl (Nat.le_of_ble_eq_true rfl) rfl (zr_next (F := (zup F 20 (zor (F 20) (zshl 1 3)))) hH0.1 hH0.2.1 (by have e4 := hA0.2.2 (by omega) (by omega); have hp := hH0.2.2.2.1.2.2.2.2.2 (j + 1) hj1; show 0 ≤ F 4 ∧ F 4 ≤ F 3; omega) (by have h9 := hH0.2.2.1; show 0 ≤ F 5 ∧ F 5 ≤ 1000; omega)) ⟨by decide, by decide, by decide, by decide⟩ (fun z9 Y9 hz => ?_)
      obtain ⟨rfl, Fa, rfl, hrt, hfrt⟩ := hz
      have hA1 : rAt P K S V Fa (j + 1) := rnext_ok (F := (zup F 20 (zor (F 20) (zshl 1 3)))) (j := j) hH0 hA0 hj1 (by omega) (by omega) hrt
      have hH1 : RH B P K S V RV k Fa := RH.fr2 hH0 (show Fa 3 = F 3 from hfrt.fr4.1) (show Fa 5 = F 5 from hfrt.fr4.2.1)
      have hg1 : Fa 18 = F 18 := hfrt 18 (by decide) (by decide) (by decide) (by decide) (by decide) (by decide)
      have hf1 : fr4 (zup F 20 (zor (F 20) (zshl 1 3))) Fa := hfrt.fr4
      refine zg_blk pok2 X 4 [] (S' := (38, [(0, zR (m 0)), (1, zI 3), (2, zI 7), (3, zI 0), (4, zI 6)], [zI 6, zI 0, zI 7, zR (m 0)], (rW m Fa B SS HH NR RV))) rfl trivial ?_
      refine zg_callV pok2 EWX_ok X 0 (vas := [zI 7, zI 0, zI 6]) (vr := []) (Y1 := (rW m Fa B SS HH NR RV)) (Y2 := []) rfl rfl (Or.inl rfl) zj_X12_puts rfl rfl rfl rfl (Nat.le_of_ble_eq_true rfl) rfl (zr_puts (F := Fa) (j := (j + 1)) (HH := HH) (NR := NR) (by omega) (by omega) (by omega) hH1 hA1 hj1) ⟨by decide, by decide, by decide, by decide⟩ (fun z9 Y9 hz => ?_)
      rcases hz with ⟨hq1, rfl, Fb, rfl, hax, hjx, hfx, -⟩ | ⟨hq1, rfl, Fc, rfl, hb1, hb2⟩
      · have hj2 : j + 2 ≤ k := hjx
        have hA2 : rAt P K S V Fb (j + 2) := hax
        have hH2 : RH B P K S V RV k Fb := RH.fr2 hH1 hfx.1 hfx.2.1
        have hf2 : fr4 (zup F 20 (zor (F 20) (zshl 1 3))) Fb := fr4.tr (G := Fa) hf1 hfx
        have hm1 := nm_ok hq1
        refine zg_retb X hR rfl rfl (by decide) (by decide) (by first | exact Or.inl rfl | exact Or.inr rfl) ?_
        refine ⟨_, _, _, rfl, ?_, (by intro q hq; first | rfl | exact hn9 q hq | (rw [zup_ne (by omega)]; rfl) | (rw [zup_ne (by omega)]) | (rw [zup_ne (by omega), zup_ne (by omega)]))⟩
        unfold aSet
        rw [if_neg (show ¬ zand (zshr (F 20) (((7 : Nat) : Int) - 4)) 1 = 1 from hb9), if_pos hq1]
        have hfz := hf2
        exact Or.inl ⟨rfl, rfl, hA2, hj2, RR_set hRR (by omega), hfz.2.2.2, hfz.1, hfz.2.1, hfz.2.2.1⟩
      · refine zg_retb X hR rfl rfl (by decide) (by decide) (by first | exact Or.inl rfl | exact Or.inr rfl) ?_
        refine ⟨_, _, _, rfl, ?_, (by intro q hq; first | rfl | exact hn9 q hq | (rw [zup_ne (by omega)]; rfl) | (rw [zup_ne (by omega)]) | (rw [zup_ne (by omega), zup_ne (by omega)]))⟩
        unfold aSet
        rw [if_neg (show ¬ zand (zshr (F 20) (((7 : Nat) : Int) - 4)) 1 = 1 from hb9), if_neg hq1]
        exact Or.inr ⟨hq1, rfl, hb1, hb2⟩
    · exact absurd (show ¬ (0 : Int) = (0 : Int) from g2) (by decide)
set_option maxRecDepth 4000 in
theorem zj_X12_line : PR2[153]? = some mt2_X12_line := rfl
set_option maxRecDepth 4000 in
theorem zr_line (hH : RH B P K S V RV k F) (hA : rAt P K S V F j) (hj : j ≤ k) (hRR : RR HH NR CN NM MK KN) (hI : INV CN NM x) (hRZ : ∀ q, zin64 (RV q)) (hx : F 20 = x) : ZMet (EWX xs) D cy l ex mt2_X12_line (5, 0, 0, 112) (rW m F B SS HH NR RV) [zR (m 0)] (fun z Y => ∃ F9 HH9 NR9, Y = (rW m F9 B SS HH9 NR9 RV) ∧ rM2 P K S V F k (aLine K V CN NM MK KN x j) z F9 HH9 NR9 ∧ ∀ q : Nat, q < 28 → NR9 q = NR q) := by
  have hc0 := hI.1.1
  have hc1 := hI.2.1.1
  have hc2 := hI.2.2.1.1
  have hc3 := hI.2.2.2.1.1
  have hr0 := hRR.1 0 (by omega)
  have hr1 := hRR.1 1 (by omega)
  have hr2 := hRR.1 2 (by omega)
  have hr3 := hRR.1 3 (by omega)
  obtain ⟨mok, tok, ow⟩ := pok2.1 _ _ zj_X12_line
  refine met_ofz EWX_ok mok tok ow (Nat.le_of_ble_eq_true rfl) (fun r p0 e0 s0 m0 ar0 be0 me0 c0 A0 Q0 X hR => ?_)
  have hA0 := hA
  have hH0 := hH
  have hj0 := hj
  have hf0 : fr4 F F := ⟨rfl, rfl, rfl, rfl⟩
  obtain ⟨hc0, hc1, hc2, hc3, hc4⟩ := hI
  have hI : INV CN NM x := ⟨hc0, hc1, hc2, hc3, hc4⟩
  have hv2 : K j = 2 → 0 ≤ V j ∧ V j < 29 := fun h => by
    rcases hA.2.1 with ⟨h0, q⟩ | ⟨h0, q⟩ | ⟨h0, q, e, w1, w2, w3⟩ | ⟨h0, q, e, w1, w2⟩ | ⟨h0, q, -⟩ | ⟨h0, h1, q, -⟩ <;> omega
  refine zg_blk pok2 X 2 [0] (S' := (4, [(0, zR (m 0))], [zL 482854658917, zR (m 0)], (rW m F B SS HH NR RV))) rfl trivial ?_
  refine zg_callV pok2 EWX_ok X 0 (vas := [zL 482854658917]) (vr := []) (Y1 := (rW m F B SS HH NR RV)) (Y2 := []) rfl rfl (Or.inl rfl) zj_X12_isWord rfl rfl rfl rfl (Nat.le_of_ble_eq_true rfl) rfl (zr_isWord (w := 0) (F := F) (j := j) (by omega) hA0) ⟨by decide, by decide, by decide, by decide⟩ (fun z9 Y9 hz => ?_)
  rcases hz with ⟨hw0, rfl, rfl⟩ | ⟨hw0, rfl, rfl⟩
  · have hw0 : K j = 2 ∧ V j = 0 := hw0
    refine zg_if X 19 rfl rfl (by first | (unfold zin; omega) | (have h9 := hRR.1 0 (by omega); have h8 := hRR.1 1 (by omega); have h7 := hRR.1 2 (by omega); have h6 := hRR.1 3 (by omega); unfold zin; omega)) (fun g1 => ?_) (fun g1 => ?_)
    · exact absurd (show (1 : Int) = (0 : Int) from g1) (by decide)
    · simp only [x_ncd] at g1
      refine zg_blk pok2 X 4 [] (S' := (15, [(0, zR (m 0))], [zI 28, zI 4, zI 0, zR (m 0)], (rW m F B SS HH NR RV))) rfl trivial ?_
      refine zg_callV pok2 EWX_ok X 0 (vas := [zI 0, zI 4, zI 28]) (vr := []) (Y1 := (rW m F B SS HH NR RV)) (Y2 := []) rfl rfl (Or.inl rfl) zj_X12_readNew rfl rfl rfl rfl (Nat.le_of_ble_eq_true rfl) rfl (zr_readNew0 hw0.1 hH hA hj hRR hI hRZ hx) ⟨by decide, by decide, by decide, by decide⟩ (fun z9 Y9 hz => ?_)
      rcases hz with ⟨F9, HH9, NR9, rfl, ⟨e1, rfl, hok⟩ | ⟨e1, rfl, hb⟩, hn9⟩
      · refine zg_retb X hR rfl rfl (by decide) (by decide) (by first | exact Or.inl rfl | exact Or.inr rfl) ?_
        refine ⟨_, _, _, rfl, ?_, (by intro q hq; first | rfl | exact hn9 q hq | (rw [zup_ne (by omega)]; rfl) | (rw [zup_ne (by omega)]) | (rw [zup_ne (by omega), zup_ne (by omega)]))⟩
        rw [show aLine K V CN NM MK KN x j = aPlain K V CN NM MK KN x 4 0 0 j by unfold aLine; rw [if_pos hw0.1, hw0.2]; rfl]
        exact Or.inl ⟨e1, rfl, hok⟩
      · refine zg_retb X hR rfl rfl (by decide) (by decide) (by first | exact Or.inl rfl | exact Or.inr rfl) ?_
        refine ⟨_, _, _, rfl, ?_, (by intro q hq; first | rfl | exact hn9 q hq | (rw [zup_ne (by omega)]; rfl) | (rw [zup_ne (by omega)]) | (rw [zup_ne (by omega), zup_ne (by omega)]))⟩
        rw [show aLine K V CN NM MK KN x j = aPlain K V CN NM MK KN x 4 0 0 j by unfold aLine; rw [if_pos hw0.1, hw0.2]; rfl]
        exact Or.inr ⟨e1, rfl, hb⟩
  · have hw0 : ¬ (K j = 2 ∧ V j = 0) := hw0
    refine zg_if X 19 rfl rfl (by first | (unfold zin; omega) | (have h9 := hRR.1 0 (by omega); have h8 := hRR.1 1 (by omega); have h7 := hRR.1 2 (by omega); have h6 := hRR.1 3 (by omega); unfold zin; omega)) (fun g2 => ?_) (fun g2 => ?_)
    · simp only [x_cnd] at g2
      refine zg_blk pok2 X 2 [0] (S' := (23, [(0, zR (m 0))], [zL 1835102827, zR (m 0)], (rW m F B SS HH NR RV))) rfl trivial ?_
      refine zg_callV pok2 EWX_ok X 0 (vas := [zL 1835102827]) (vr := []) (Y1 := (rW m F B SS HH NR RV)) (Y2 := []) rfl rfl (Or.inl rfl) zj_X12_isWord rfl rfl rfl rfl (Nat.le_of_ble_eq_true rfl) rfl (zr_isWord (w := 1) (F := F) (j := j) (by omega) hA0) ⟨by decide, by decide, by decide, by decide⟩ (fun z9 Y9 hz => ?_)
      rcases hz with ⟨hw1, rfl, rfl⟩ | ⟨hw1, rfl, rfl⟩
      · have hw1 : K j = 2 ∧ V j = 1 := hw1
        refine zg_if X 39 rfl rfl (by first | (unfold zin; omega) | (have h9 := hRR.1 0 (by omega); have h8 := hRR.1 1 (by omega); have h7 := hRR.1 2 (by omega); have h6 := hRR.1 3 (by omega); unfold zin; omega)) (fun g3 => ?_) (fun g3 => ?_)
        · exact absurd (show (1 : Int) = (0 : Int) from g3) (by decide)
        · simp only [x_ncd] at g3
          refine zg_blk pok2 X 4 [] (S' := (35, [(0, zR (m 0))], [zI 32, zI 10, zI 1, zR (m 0)], (rW m F B SS HH NR RV))) rfl trivial ?_
          refine zg_callV pok2 EWX_ok X 0 (vas := [zI 1, zI 10, zI 32]) (vr := []) (Y1 := (rW m F B SS HH NR RV)) (Y2 := []) rfl rfl (Or.inl rfl) zj_X12_readNew rfl rfl rfl rfl (Nat.le_of_ble_eq_true rfl) rfl (zr_readNew1 hw1.1 hH hA hj hRR hI hRZ hx) ⟨by decide, by decide, by decide, by decide⟩ (fun z9 Y9 hz => ?_)
          rcases hz with ⟨F9, HH9, NR9, rfl, ⟨e1, rfl, hok⟩ | ⟨e1, rfl, hb⟩, hn9⟩
          · refine zg_retb X hR rfl rfl (by decide) (by decide) (by first | exact Or.inl rfl | exact Or.inr rfl) ?_
            refine ⟨_, _, _, rfl, ?_, (by intro q hq; first | rfl | exact hn9 q hq | (rw [zup_ne (by omega)]; rfl) | (rw [zup_ne (by omega)]) | (rw [zup_ne (by omega), zup_ne (by omega)]))⟩
            rw [show aLine K V CN NM MK KN x j = aPlain K V CN NM MK KN x 10 10 1 j by unfold aLine; rw [if_pos hw1.1, hw1.2]; rfl]
            exact Or.inl ⟨e1, rfl, hok⟩
          · refine zg_retb X hR rfl rfl (by decide) (by decide) (by first | exact Or.inl rfl | exact Or.inr rfl) ?_
            refine ⟨_, _, _, rfl, ?_, (by intro q hq; first | rfl | exact hn9 q hq | (rw [zup_ne (by omega)]; rfl) | (rw [zup_ne (by omega)]) | (rw [zup_ne (by omega), zup_ne (by omega)]))⟩
            rw [show aLine K V CN NM MK KN x j = aPlain K V CN NM MK KN x 10 10 1 j by unfold aLine; rw [if_pos hw1.1, hw1.2]; rfl]
            exact Or.inr ⟨e1, rfl, hb⟩
      · have hw1 : ¬ (K j = 2 ∧ V j = 1) := hw1
        refine zg_if X 39 rfl rfl (by first | (unfold zin; omega) | (have h9 := hRR.1 0 (by omega); have h8 := hRR.1 1 (by omega); have h7 := hRR.1 2 (by omega); have h6 := hRR.1 3 (by omega); unfold zin; omega)) (fun g4 => ?_) (fun g4 => ?_)
        · simp only [x_cnd] at g4
          refine zg_blk pok2 X 2 [0] (S' := (43, [(0, zR (m 0))], [zL 499967946343, zR (m 0)], (rW m F B SS HH NR RV))) rfl trivial ?_
          refine zg_callV pok2 EWX_ok X 0 (vas := [zL 499967946343]) (vr := []) (Y1 := (rW m F B SS HH NR RV)) (Y2 := []) rfl rfl (Or.inl rfl) zj_X12_isWord rfl rfl rfl rfl (Nat.le_of_ble_eq_true rfl) rfl (zr_isWord (w := 2) (F := F) (j := j) (by omega) hA0) ⟨by decide, by decide, by decide, by decide⟩ (fun z9 Y9 hz => ?_)
          rcases hz with ⟨hw2, rfl, rfl⟩ | ⟨hw2, rfl, rfl⟩
          · have hw2 : K j = 2 ∧ V j = 2 := hw2
            refine zg_if X 54 rfl rfl (by first | (unfold zin; omega) | (have h9 := hRR.1 0 (by omega); have h8 := hRR.1 1 (by omega); have h7 := hRR.1 2 (by omega); have h6 := hRR.1 3 (by omega); unfold zin; omega)) (fun g5 => ?_) (fun g5 => ?_)
            · exact absurd (show (1 : Int) = (0 : Int) from g5) (by decide)
            · simp only [x_ncd] at g5
              refine zg_blk pok2 X 1 [] (S' := (50, [(0, zR (m 0))], [zR (m 0)], (rW m F B SS HH NR RV))) rfl trivial ?_
              refine zg_callV pok2 EWX_ok X 0 (vas := []) (vr := []) (Y1 := (rW m F B SS HH NR RV)) (Y2 := []) rfl rfl (Or.inl rfl) zj_X12_readThing rfl rfl rfl rfl (Nat.le_of_ble_eq_true rfl) rfl (zr_readThing hw2.1 hH hA hj hRR hI hRZ hx) ⟨by decide, by decide, by decide, by decide⟩ (fun z9 Y9 hz => ?_)
              rcases hz with ⟨F9, HH9, NR9, rfl, ⟨e1, rfl, hok⟩ | ⟨e1, rfl, hb⟩, hn9⟩
              · refine zg_retb X hR rfl rfl (by decide) (by decide) (by first | exact Or.inl rfl | exact Or.inr rfl) ?_
                refine ⟨_, _, _, rfl, ?_, (by intro q hq; first | rfl | exact hn9 q hq | (rw [zup_ne (by omega)]; rfl) | (rw [zup_ne (by omega)]) | (rw [zup_ne (by omega), zup_ne (by omega)]))⟩
                rw [show aLine K V CN NM MK KN x j = aThing K V CN NM MK KN x j by unfold aLine; rw [if_pos hw2.1, hw2.2]; rfl]
                exact Or.inl ⟨e1, rfl, hok⟩
              · refine zg_retb X hR rfl rfl (by decide) (by decide) (by first | exact Or.inl rfl | exact Or.inr rfl) ?_
                refine ⟨_, _, _, rfl, ?_, (by intro q hq; first | rfl | exact hn9 q hq | (rw [zup_ne (by omega)]; rfl) | (rw [zup_ne (by omega)]) | (rw [zup_ne (by omega), zup_ne (by omega)]))⟩
                rw [show aLine K V CN NM MK KN x j = aThing K V CN NM MK KN x j by unfold aLine; rw [if_pos hw2.1, hw2.2]; rfl]
                exact Or.inr ⟨e1, rfl, hb⟩
          · have hw2 : ¬ (K j = 2 ∧ V j = 2) := hw2
            refine zg_if X 54 rfl rfl (by first | (unfold zin; omega) | (have h9 := hRR.1 0 (by omega); have h8 := hRR.1 1 (by omega); have h7 := hRR.1 2 (by omega); have h6 := hRR.1 3 (by omega); unfold zin; omega)) (fun g6 => ?_) (fun g6 => ?_)
            · simp only [x_cnd] at g6
              refine zg_blk pok2 X 2 [0] (S' := (58, [(0, zR (m 0))], [zL 26995, zR (m 0)], (rW m F B SS HH NR RV))) rfl trivial ?_
              refine zg_callV pok2 EWX_ok X 0 (vas := [zL 26995]) (vr := []) (Y1 := (rW m F B SS HH NR RV)) (Y2 := []) rfl rfl (Or.inl rfl) zj_X12_isWord rfl rfl rfl rfl (Nat.le_of_ble_eq_true rfl) rfl (zr_isWord (w := 8) (F := F) (j := j) (by omega) hA0) ⟨by decide, by decide, by decide, by decide⟩ (fun z9 Y9 hz => ?_)
              rcases hz with ⟨hw8, rfl, rfl⟩ | ⟨hw8, rfl, rfl⟩
              · have hw8 : K j = 2 ∧ V j = 8 := hw8
                refine zg_if X 74 rfl rfl (by first | (unfold zin; omega) | (have h9 := hRR.1 0 (by omega); have h8 := hRR.1 1 (by omega); have h7 := hRR.1 2 (by omega); have h6 := hRR.1 3 (by omega); unfold zin; omega)) (fun g7 => ?_) (fun g7 => ?_)
                · exact absurd (show (1 : Int) = (0 : Int) from g7) (by decide)
                · simp only [x_ncd] at g7
                  refine zg_blk pok2 X 4 [] (S' := (70, [(0, zR (m 0))], [zI 16, zI 2, zI 42, zR (m 0)], (rW m F B SS HH NR RV))) rfl trivial ?_
                  refine zg_callV pok2 EWX_ok X 0 (vas := [zI 42, zI 2, zI 16]) (vr := []) (Y1 := (rW m F B SS HH NR RV)) (Y2 := []) rfl rfl (Or.inl rfl) zj_X12_readTie rfl rfl rfl rfl (Nat.le_of_ble_eq_true rfl) rfl (zr_readTieM hw8.1 hH hA hj hRR hI hRZ hx) ⟨by decide, by decide, by decide, by decide⟩ (fun z9 Y9 hz => ?_)
                  rcases hz with ⟨F9, HH9, NR9, rfl, ⟨e1, rfl, hok⟩ | ⟨e1, rfl, hb⟩, hn9⟩
                  · refine zg_retb X hR rfl rfl (by decide) (by decide) (by first | exact Or.inl rfl | exact Or.inr rfl) ?_
                    refine ⟨_, _, _, rfl, ?_, (by intro q hq; first | rfl | exact hn9 q hq | (rw [zup_ne (by omega)]; rfl) | (rw [zup_ne (by omega)]) | (rw [zup_ne (by omega), zup_ne (by omega)]))⟩
                    rw [show aLine K V CN NM MK KN x j = aIs K V CN NM MK KN x (j + 1) by unfold aLine; rw [if_pos hw8.1, hw8.2]; rfl]
                    exact Or.inl ⟨e1, rfl, hok⟩
                  · refine zg_retb X hR rfl rfl (by decide) (by decide) (by first | exact Or.inl rfl | exact Or.inr rfl) ?_
                    refine ⟨_, _, _, rfl, ?_, (by intro q hq; first | rfl | exact hn9 q hq | (rw [zup_ne (by omega)]; rfl) | (rw [zup_ne (by omega)]) | (rw [zup_ne (by omega), zup_ne (by omega)]))⟩
                    rw [show aLine K V CN NM MK KN x j = aIs K V CN NM MK KN x (j + 1) by unfold aLine; rw [if_pos hw8.1, hw8.2]; rfl]
                    exact Or.inr ⟨e1, rfl, hb⟩
              · have hw8 : ¬ (K j = 2 ∧ V j = 8) := hw8
                refine zg_if X 74 rfl rfl (by first | (unfold zin; omega) | (have h9 := hRR.1 0 (by omega); have h8 := hRR.1 1 (by omega); have h7 := hRR.1 2 (by omega); have h6 := hRR.1 3 (by omega); unfold zin; omega)) (fun g8 => ?_) (fun g8 => ?_)
                · simp only [x_cnd] at g8
                  refine zg_blk pok2 X 2 [0] (S' := (78, [(0, zR (m 0))], [zL 123581014175598, zR (m 0)], (rW m F B SS HH NR RV))) rfl trivial ?_
                  refine zg_callV pok2 EWX_ok X 0 (vas := [zL 123581014175598]) (vr := []) (Y1 := (rW m F B SS HH NR RV)) (Y2 := []) rfl rfl (Or.inl rfl) zj_X12_isWord rfl rfl rfl rfl (Nat.le_of_ble_eq_true rfl) rfl (zr_isWord (w := 3) (F := F) (j := j) (by omega) hA0) ⟨by decide, by decide, by decide, by decide⟩ (fun z9 Y9 hz => ?_)
                  rcases hz with ⟨hw3, rfl, rfl⟩ | ⟨hw3, rfl, rfl⟩
                  · have hw3 : K j = 2 ∧ V j = 3 := hw3
                    refine zg_if X 89 rfl rfl (by first | (unfold zin; omega) | (have h9 := hRR.1 0 (by omega); have h8 := hRR.1 1 (by omega); have h7 := hRR.1 2 (by omega); have h6 := hRR.1 3 (by omega); unfold zin; omega)) (fun g9 => ?_) (fun g9 => ?_)
                    · exact absurd (show (1 : Int) = (0 : Int) from g9) (by decide)
                    · simp only [x_ncd] at g9
                      refine zg_blk pok2 X 1 [] (S' := (85, [(0, zR (m 0))], [zR (m 0)], (rW m F B SS HH NR RV))) rfl trivial ?_
                      refine zg_callV pok2 EWX_ok X 0 (vas := []) (vr := []) (Y1 := (rW m F B SS HH NR RV)) (Y2 := []) rfl rfl (Or.inl rfl) zj_X12_readPerson rfl rfl rfl rfl (Nat.le_of_ble_eq_true rfl) rfl (zr_readPerson hw3.1 hH hA hj hRR hI hRZ hx) ⟨by decide, by decide, by decide, by decide⟩ (fun z9 Y9 hz => ?_)
                      rcases hz with ⟨F9, HH9, NR9, rfl, ⟨e1, rfl, hok⟩ | ⟨e1, rfl, hb⟩, hn9⟩
                      · refine zg_retb X hR rfl rfl (by decide) (by decide) (by first | exact Or.inl rfl | exact Or.inr rfl) ?_
                        refine ⟨_, _, _, rfl, ?_, (by intro q hq; first | rfl | exact hn9 q hq | (rw [zup_ne (by omega)]; rfl) | (rw [zup_ne (by omega)]) | (rw [zup_ne (by omega), zup_ne (by omega)]))⟩
                        rw [show aLine K V CN NM MK KN x j = aPerson K V CN NM MK KN x j by unfold aLine; rw [if_pos hw3.1, hw3.2]; rfl]
                        exact Or.inl ⟨e1, rfl, hok⟩
                      · refine zg_retb X hR rfl rfl (by decide) (by decide) (by first | exact Or.inl rfl | exact Or.inr rfl) ?_
                        refine ⟨_, _, _, rfl, ?_, (by intro q hq; first | rfl | exact hn9 q hq | (rw [zup_ne (by omega)]; rfl) | (rw [zup_ne (by omega)]) | (rw [zup_ne (by omega), zup_ne (by omega)]))⟩
                        rw [show aLine K V CN NM MK KN x j = aPerson K V CN NM MK KN x j by unfold aLine; rw [if_pos hw3.1, hw3.2]; rfl]
                        exact Or.inr ⟨e1, rfl, hb⟩
                  · have hw3 : ¬ (K j = 2 ∧ V j = 3) := hw3
                    refine zg_if X 89 rfl rfl (by first | (unfold zin; omega) | (have h9 := hRR.1 0 (by omega); have h8 := hRR.1 1 (by omega); have h7 := hRR.1 2 (by omega); have h6 := hRR.1 3 (by omega); unfold zin; omega)) (fun g10 => ?_) (fun g10 => ?_)
                    · simp only [x_cnd] at g10
                      refine zg_blk pok2 X 2 [0] (S' := (93, [(0, zR (m 0))], [zL 461414299507, zR (m 0)], (rW m F B SS HH NR RV))) rfl trivial ?_
                      refine zg_callV pok2 EWX_ok X 0 (vas := [zL 461414299507]) (vr := []) (Y1 := (rW m F B SS HH NR RV)) (Y2 := []) rfl rfl (Or.inl rfl) zj_X12_isWord rfl rfl rfl rfl (Nat.le_of_ble_eq_true rfl) rfl (zr_isWord (w := 9) (F := F) (j := j) (by omega) hA0) ⟨by decide, by decide, by decide, by decide⟩ (fun z9 Y9 hz => ?_)
                      rcases hz with ⟨hw9, rfl, rfl⟩ | ⟨hw9, rfl, rfl⟩
                      · have hw9 : K j = 2 ∧ V j = 9 := hw9
                        refine zg_if X 109 rfl rfl (by first | (unfold zin; omega) | (have h9 := hRR.1 0 (by omega); have h8 := hRR.1 1 (by omega); have h7 := hRR.1 2 (by omega); have h6 := hRR.1 3 (by omega); unfold zin; omega)) (fun g11 => ?_) (fun g11 => ?_)
                        · exact absurd (show (1 : Int) = (0 : Int) from g11) (by decide)
                        · simp only [x_ncd] at g11
                          refine zg_blk pok2 X 4 [] (S' := (105, [(0, zR (m 0))], [zI 37, zI 3, zI 50, zR (m 0)], (rW m F B SS HH NR RV))) rfl trivial ?_
                          refine zg_callV pok2 EWX_ok X 0 (vas := [zI 50, zI 3, zI 37]) (vr := []) (Y1 := (rW m F B SS HH NR RV)) (Y2 := []) rfl rfl (Or.inl rfl) zj_X12_readTie rfl rfl rfl rfl (Nat.le_of_ble_eq_true rfl) rfl (zr_readTieK hw9.1 hH hA hj hRR hI hRZ hx) ⟨by decide, by decide, by decide, by decide⟩ (fun z9 Y9 hz => ?_)
                          rcases hz with ⟨F9, HH9, NR9, rfl, ⟨e1, rfl, hok⟩ | ⟨e1, rfl, hb⟩, hn9⟩
                          · refine zg_retb X hR rfl rfl (by decide) (by decide) (by first | exact Or.inl rfl | exact Or.inr rfl) ?_
                            refine ⟨_, _, _, rfl, ?_, (by intro q hq; first | rfl | exact hn9 q hq | (rw [zup_ne (by omega)]; rfl) | (rw [zup_ne (by omega)]) | (rw [zup_ne (by omega), zup_ne (by omega)]))⟩
                            rw [show aLine K V CN NM MK KN x j = aKnows K V CN NM MK KN x (j + 1) by unfold aLine; rw [if_pos hw9.1, hw9.2]; rfl]
                            exact Or.inl ⟨e1, rfl, hok⟩
                          · refine zg_retb X hR rfl rfl (by decide) (by decide) (by first | exact Or.inl rfl | exact Or.inr rfl) ?_
                            refine ⟨_, _, _, rfl, ?_, (by intro q hq; first | rfl | exact hn9 q hq | (rw [zup_ne (by omega)]; rfl) | (rw [zup_ne (by omega)]) | (rw [zup_ne (by omega), zup_ne (by omega)]))⟩
                            rw [show aLine K V CN NM MK KN x j = aKnows K V CN NM MK KN x (j + 1) by unfold aLine; rw [if_pos hw9.1, hw9.2]; rfl]
                            exact Or.inr ⟨e1, rfl, hb⟩
                      · have hw9 : ¬ (K j = 2 ∧ V j = 9) := hw9
                        refine zg_if X 109 rfl rfl (by first | (unfold zin; omega) | (have h9 := hRR.1 0 (by omega); have h8 := hRR.1 1 (by omega); have h7 := hRR.1 2 (by omega); have h6 := hRR.1 3 (by omega); unfold zin; omega)) (fun g12 => ?_) (fun g12 => ?_)
                        · simp only [x_cnd] at g12
                          refine zg_blk pok2 X 2 [0] (S' := (113, [(0, zR (m 0))], [zL 1718185573, zR (m 0)], (rW m F B SS HH NR RV))) rfl trivial ?_
                          refine zg_callV pok2 EWX_ok X 0 (vas := [zL 1718185573]) (vr := []) (Y1 := (rW m F B SS HH NR RV)) (Y2 := []) rfl rfl (Or.inl rfl) zj_X12_isWord rfl rfl rfl rfl (Nat.le_of_ble_eq_true rfl) rfl (zr_isWord (w := 4) (F := F) (j := j) (by omega) hA0) ⟨by decide, by decide, by decide, by decide⟩ (fun z9 Y9 hz => ?_)
                          rcases hz with ⟨hw4, rfl, rfl⟩ | ⟨hw4, rfl, rfl⟩
                          · have hw4 : K j = 2 ∧ V j = 4 := hw4
                            refine zg_if X 129 rfl rfl (by first | (unfold zin; omega) | (have h9 := hRR.1 0 (by omega); have h8 := hRR.1 1 (by omega); have h7 := hRR.1 2 (by omega); have h6 := hRR.1 3 (by omega); unfold zin; omega)) (fun g13 => ?_) (fun g13 => ?_)
                            · exact absurd (show (1 : Int) = (0 : Int) from g13) (by decide)
                            · simp only [x_ncd] at g13
                              refine zg_blk pok2 X 5 [] (S' := (125, [(0, zR (m 0))], [zI 20, zI 1, zI 4, zI 0, zR (m 0)], (rW m F B SS HH NR RV))) rfl trivial ?_
                              refine zg_callV pok2 EWX_ok X 0 (vas := [zI 0, zI 4, zI 1, zI 20]) (vr := []) (Y1 := (rW m F B SS HH NR RV)) (Y2 := []) rfl rfl (Or.inl rfl) zj_X12_once rfl rfl rfl rfl (Nat.le_of_ble_eq_true rfl) rfl (zr_once4 hw4.1 hH hA hj hRR hI hRZ hx) ⟨by decide, by decide, by decide, by decide⟩ (fun z9 Y9 hz => ?_)
                              rcases hz with ⟨F9, HH9, NR9, rfl, ⟨e1, rfl, hok⟩ | ⟨e1, rfl, hb⟩, hn9⟩
                              · refine zg_retb X hR rfl rfl (by decide) (by decide) (by first | exact Or.inl rfl | exact Or.inr rfl) ?_
                                refine ⟨_, _, _, rfl, ?_, (by intro q hq; first | rfl | exact hn9 q hq | (rw [zup_ne (by omega)]; rfl) | (rw [zup_ne (by omega)]) | (rw [zup_ne (by omega), zup_ne (by omega)]))⟩
                                rw [show aLine K V CN NM MK KN x j = aSet K V CN NM MK KN x 1 20 4 j by unfold aLine; rw [if_pos hw4.1, hw4.2]; rfl]
                                exact Or.inl ⟨e1, rfl, hok⟩
                              · refine zg_retb X hR rfl rfl (by decide) (by decide) (by first | exact Or.inl rfl | exact Or.inr rfl) ?_
                                refine ⟨_, _, _, rfl, ?_, (by intro q hq; first | rfl | exact hn9 q hq | (rw [zup_ne (by omega)]; rfl) | (rw [zup_ne (by omega)]) | (rw [zup_ne (by omega), zup_ne (by omega)]))⟩
                                rw [show aLine K V CN NM MK KN x j = aSet K V CN NM MK KN x 1 20 4 j by unfold aLine; rw [if_pos hw4.1, hw4.2]; rfl]
                                exact Or.inr ⟨e1, rfl, hb⟩
                          · have hw4 : ¬ (K j = 2 ∧ V j = 4) := hw4
                            refine zg_if X 129 rfl rfl (by first | (unfold zin; omega) | (have h9 := hRR.1 0 (by omega); have h8 := hRR.1 1 (by omega); have h7 := hRR.1 2 (by omega); have h6 := hRR.1 3 (by omega); unfold zin; omega)) (fun g14 => ?_) (fun g14 => ?_)
                            · simp only [x_cnd] at g14
                              refine zg_blk pok2 X 2 [0] (S' := (133, [(0, zR (m 0))], [zL 1835627621, zR (m 0)], (rW m F B SS HH NR RV))) rfl trivial ?_
                              refine zg_callV pok2 EWX_ok X 0 (vas := [zL 1835627621]) (vr := []) (Y1 := (rW m F B SS HH NR RV)) (Y2 := []) rfl rfl (Or.inl rfl) zj_X12_isWord rfl rfl rfl rfl (Nat.le_of_ble_eq_true rfl) rfl (zr_isWord (w := 5) (F := F) (j := j) (by omega) hA0) ⟨by decide, by decide, by decide, by decide⟩ (fun z9 Y9 hz => ?_)
                              rcases hz with ⟨hw5, rfl, rfl⟩ | ⟨hw5, rfl, rfl⟩
                              · have hw5 : K j = 2 ∧ V j = 5 := hw5
                                refine zg_if X 149 rfl rfl (by first | (unfold zin; omega) | (have h9 := hRR.1 0 (by omega); have h8 := hRR.1 1 (by omega); have h7 := hRR.1 2 (by omega); have h6 := hRR.1 3 (by omega); unfold zin; omega)) (fun g15 => ?_) (fun g15 => ?_)
                                · exact absurd (show (1 : Int) = (0 : Int) from g15) (by decide)
                                · simp only [x_ncd] at g15
                                  refine zg_blk pok2 X 5 [] (S' := (145, [(0, zR (m 0))], [zI 9, zI 0, zI 5, zI 1, zR (m 0)], (rW m F B SS HH NR RV))) rfl trivial ?_
                                  refine zg_callV pok2 EWX_ok X 0 (vas := [zI 1, zI 5, zI 0, zI 9]) (vr := []) (Y1 := (rW m F B SS HH NR RV)) (Y2 := []) rfl rfl (Or.inl rfl) zj_X12_once rfl rfl rfl rfl (Nat.le_of_ble_eq_true rfl) rfl (zr_once5 hw5.1 hH hA hj hRR hI hRZ hx) ⟨by decide, by decide, by decide, by decide⟩ (fun z9 Y9 hz => ?_)
                                  rcases hz with ⟨F9, HH9, NR9, rfl, ⟨e1, rfl, hok⟩ | ⟨e1, rfl, hb⟩, hn9⟩
                                  · refine zg_retb X hR rfl rfl (by decide) (by decide) (by first | exact Or.inl rfl | exact Or.inr rfl) ?_
                                    refine ⟨_, _, _, rfl, ?_, (by intro q hq; first | rfl | exact hn9 q hq | (rw [zup_ne (by omega)]; rfl) | (rw [zup_ne (by omega)]) | (rw [zup_ne (by omega), zup_ne (by omega)]))⟩
                                    rw [show aLine K V CN NM MK KN x j = aSet K V CN NM MK KN x 0 9 5 j by unfold aLine; rw [if_pos hw5.1, hw5.2]; rfl]
                                    exact Or.inl ⟨e1, rfl, hok⟩
                                  · refine zg_retb X hR rfl rfl (by decide) (by decide) (by first | exact Or.inl rfl | exact Or.inr rfl) ?_
                                    refine ⟨_, _, _, rfl, ?_, (by intro q hq; first | rfl | exact hn9 q hq | (rw [zup_ne (by omega)]; rfl) | (rw [zup_ne (by omega)]) | (rw [zup_ne (by omega), zup_ne (by omega)]))⟩
                                    rw [show aLine K V CN NM MK KN x j = aSet K V CN NM MK KN x 0 9 5 j by unfold aLine; rw [if_pos hw5.1, hw5.2]; rfl]
                                    exact Or.inr ⟨e1, rfl, hb⟩
                              · have hw5 : ¬ (K j = 2 ∧ V j = 5) := hw5
                                refine zg_if X 149 rfl rfl (by first | (unfold zin; omega) | (have h9 := hRR.1 0 (by omega); have h8 := hRR.1 1 (by omega); have h7 := hRR.1 2 (by omega); have h6 := hRR.1 3 (by omega); unfold zin; omega)) (fun g16 => ?_) (fun g16 => ?_)
                                · simp only [x_cnd] at g16
                                  refine zg_blk pok2 X 2 [0] (S' := (153, [(0, zR (m 0))], [zL 2002872165, zR (m 0)], (rW m F B SS HH NR RV))) rfl trivial ?_
                                  refine zg_callV pok2 EWX_ok X 0 (vas := [zL 2002872165]) (vr := []) (Y1 := (rW m F B SS HH NR RV)) (Y2 := []) rfl rfl (Or.inl rfl) zj_X12_isWord rfl rfl rfl rfl (Nat.le_of_ble_eq_true rfl) rfl (zr_isWord (w := 6) (F := F) (j := j) (by omega) hA0) ⟨by decide, by decide, by decide, by decide⟩ (fun z9 Y9 hz => ?_)
                                  rcases hz with ⟨hw6, rfl, rfl⟩ | ⟨hw6, rfl, rfl⟩
                                  · have hw6 : K j = 2 ∧ V j = 6 := hw6
                                    refine zg_if X 170 rfl rfl (by first | (unfold zin; omega) | (have h9 := hRR.1 0 (by omega); have h8 := hRR.1 1 (by omega); have h7 := hRR.1 2 (by omega); have h6 := hRR.1 3 (by omega); unfold zin; omega)) (fun g17 => ?_) (fun g17 => ?_)
                                    · exact absurd (show (1 : Int) = (0 : Int) from g17) (by decide)
                                    · simp only [x_ncd] at g17
                                      refine zg_blk pok2 X 5 [] (S' := (166, [(0, zR (m 0))], [zI 9, zI 0, zI 6, zI 2, zR (m 0)], (rW m F B SS HH NR RV))) rfl trivial ?_
                                      refine zg_callV pok2 EWX_ok X 0 (vas := [zI 2, zI 6, zI 0, zI 9]) (vr := []) (Y1 := (rW m F B SS HH NR RV)) (Y2 := []) rfl rfl (Or.inl rfl) zj_X12_once rfl rfl rfl rfl (Nat.le_of_ble_eq_true rfl) rfl (zr_once6 hw6.1 hH hA hj hRR hI hRZ hx) ⟨by decide, by decide, by decide, by decide⟩ (fun z9 Y9 hz => ?_)
                                      rcases hz with ⟨F9, HH9, NR9, rfl, ⟨e1, rfl, hok⟩ | ⟨e1, rfl, hb⟩, hn9⟩
                                      · refine zg_retb X hR rfl rfl (by decide) (by decide) (by first | exact Or.inl rfl | exact Or.inr rfl) ?_
                                        refine ⟨_, _, _, rfl, ?_, (by intro q hq; first | rfl | exact hn9 q hq | (rw [zup_ne (by omega)]; rfl) | (rw [zup_ne (by omega)]) | (rw [zup_ne (by omega), zup_ne (by omega)]))⟩
                                        rw [show aLine K V CN NM MK KN x j = aSet K V CN NM MK KN x 0 9 6 j by unfold aLine; rw [if_pos hw6.1, hw6.2]; rfl]
                                        exact Or.inl ⟨e1, rfl, hok⟩
                                      · refine zg_retb X hR rfl rfl (by decide) (by decide) (by first | exact Or.inl rfl | exact Or.inr rfl) ?_
                                        refine ⟨_, _, _, rfl, ?_, (by intro q hq; first | rfl | exact hn9 q hq | (rw [zup_ne (by omega)]; rfl) | (rw [zup_ne (by omega)]) | (rw [zup_ne (by omega), zup_ne (by omega)]))⟩
                                        rw [show aLine K V CN NM MK KN x j = aSet K V CN NM MK KN x 0 9 6 j by unfold aLine; rw [if_pos hw6.1, hw6.2]; rfl]
                                        exact Or.inr ⟨e1, rfl, hb⟩
                                  · have hw6 : ¬ (K j = 2 ∧ V j = 6) := hw6
                                    refine zg_if X 170 rfl rfl (by first | (unfold zin; omega) | (have h9 := hRR.1 0 (by omega); have h8 := hRR.1 1 (by omega); have h7 := hRR.1 2 (by omega); have h6 := hRR.1 3 (by omega); unfold zin; omega)) (fun g18 => ?_) (fun g18 => ?_)
                                    · simp only [x_cnd] at g18
                                      refine zg_blk pok2 X 2 [0] (S' := (174, [(0, zR (m 0))], [zL 1717662580, zR (m 0)], (rW m F B SS HH NR RV))) rfl trivial ?_
                                      refine zg_callV pok2 EWX_ok X 0 (vas := [zL 1717662580]) (vr := []) (Y1 := (rW m F B SS HH NR RV)) (Y2 := []) rfl rfl (Or.inl rfl) zj_X12_isWord rfl rfl rfl rfl (Nat.le_of_ble_eq_true rfl) rfl (zr_isWord (w := 7) (F := F) (j := j) (by omega) hA0) ⟨by decide, by decide, by decide, by decide⟩ (fun z9 Y9 hz => ?_)
                                      rcases hz with ⟨hw7, rfl, rfl⟩ | ⟨hw7, rfl, rfl⟩
                                      · have hw7 : K j = 2 ∧ V j = 7 := hw7
                                        refine zg_if X 193 rfl rfl (by first | (unfold zin; omega) | (have h9 := hRR.1 0 (by omega); have h8 := hRR.1 1 (by omega); have h7 := hRR.1 2 (by omega); have h6 := hRR.1 3 (by omega); unfold zin; omega)) (fun g19 => ?_) (fun g19 => ?_)
                                        · exact absurd (show (1 : Int) = (0 : Int) from g19) (by decide)
                                        · simp only [x_ncd] at g19
                                          refine zg_blk pok2 X 5 [] (S' := (187, [(0, zR (m 0))], [zI 6, zI 0, zI 7, zI 3, zR (m 0)], (rW m F B SS HH NR RV))) rfl trivial ?_
                                          refine zg_callV pok2 EWX_ok X 0 (vas := [zI 3, zI 7, zI 0, zI 6]) (vr := []) (Y1 := (rW m F B SS HH NR RV)) (Y2 := []) rfl rfl (Or.inl rfl) zj_X12_once rfl rfl rfl rfl (Nat.le_of_ble_eq_true rfl) rfl (zr_once7 hw7.1 hH hA hj hRR hI hRZ hx) ⟨by decide, by decide, by decide, by decide⟩ (fun z9 Y9 hz => ?_)
                                          rcases hz with ⟨F9, HH9, NR9, rfl, ⟨e1, rfl, hok⟩ | ⟨e1, rfl, hb⟩, hn9⟩
                                          · refine zg_blk pok2 X 1 [] (S' := (198, [(0, zR (m 0))], [zI 1], (rW m F9 B SS HH9 NR9 RV))) rfl trivial ?_
                                            refine zg_retb X hR rfl rfl (by decide) (by decide) (by first | exact Or.inl rfl | exact Or.inr rfl) ?_
                                            refine ⟨_, _, _, rfl, ?_, (by intro q hq; first | rfl | exact hn9 q hq | (rw [zup_ne (by omega)]; rfl) | (rw [zup_ne (by omega)]) | (rw [zup_ne (by omega), zup_ne (by omega)]))⟩
                                            rw [show aLine K V CN NM MK KN x j = aSet K V CN NM MK KN x 0 6 7 j by unfold aLine; rw [if_pos hw7.1, hw7.2]; rfl]
                                            exact Or.inl ⟨e1, rfl, hok⟩
                                          · refine zg_blk pok2 X 1 [] (S' := (198, [(0, zR (m 0))], [zI 0], (rW m F9 B SS HH9 NR9 RV))) rfl trivial ?_
                                            refine zg_retb X hR rfl rfl (by decide) (by decide) (by first | exact Or.inl rfl | exact Or.inr rfl) ?_
                                            refine ⟨_, _, _, rfl, ?_, (by intro q hq; first | rfl | exact hn9 q hq | (rw [zup_ne (by omega)]; rfl) | (rw [zup_ne (by omega)]) | (rw [zup_ne (by omega), zup_ne (by omega)]))⟩
                                            rw [show aLine K V CN NM MK KN x j = aSet K V CN NM MK KN x 0 6 7 j by unfold aLine; rw [if_pos hw7.1, hw7.2]; rfl]
                                            exact Or.inr ⟨e1, rfl, hb⟩
                                      · have hw7 : ¬ (K j = 2 ∧ V j = 7) := hw7
                                        refine zg_if X 193 rfl rfl (by first | (unfold zin; omega) | (have h9 := hRR.1 0 (by omega); have h8 := hRR.1 1 (by omega); have h7 := hRR.1 2 (by omega); have h6 := hRR.1 3 (by omega); unfold zin; omega)) (fun g20 => ?_) (fun g20 => ?_)
                                        · simp only [x_cnd] at g20
                                          refine zg_blk pok2 X 2 [] (S' := (195, [(0, zR (m 0))], [zI 1, zR (m 0)], (rW m F B SS HH NR RV))) rfl trivial ?_
                                          refine zg_callV pok2 EWX_ok X 0 (vas := [zI 1]) (vr := []) (Y1 := (rW m F B SS HH NR RV)) (Y2 := []) rfl rfl (Or.inl rfl) zj_X12_bad rfl rfl rfl rfl (Nat.le_of_ble_eq_true rfl) rfl (zr_bad (F := F)) ⟨by decide, by decide, by decide, by decide⟩ (fun z9 Y9 hz => ?_)
                                          obtain ⟨rfl, rfl⟩ := hz
                                          refine zg_retb X hR rfl rfl (by decide) (by decide) (by first | exact Or.inl rfl | exact Or.inr rfl) ?_
                                          refine ⟨_, _, _, rfl, ?_, (by intro q hq; first | rfl | exact hn9 q hq | (rw [zup_ne (by omega)]; rfl) | (rw [zup_ne (by omega)]) | (rw [zup_ne (by omega), zup_ne (by omega)]))⟩
                                          rw [show aLine K V CN NM MK KN x j = bad 1 j by
                                            unfold aLine
                                            by_cases h2 : K j = 2
                                            · rw [if_pos h2]
                                              exact aWord_out (by omega)
                                            · rw [if_neg h2]]
                                          exact Or.inr ⟨bad_ne (by decide), rfl, rfl, hA.1⟩
                                        · exact absurd (show ¬ (0 : Int) = (0 : Int) from g20) (by decide)
                                    · exact absurd (show ¬ (0 : Int) = (0 : Int) from g18) (by decide)
                                · exact absurd (show ¬ (0 : Int) = (0 : Int) from g16) (by decide)
                            · exact absurd (show ¬ (0 : Int) = (0 : Int) from g14) (by decide)
                        · exact absurd (show ¬ (0 : Int) = (0 : Int) from g12) (by decide)
                    · exact absurd (show ¬ (0 : Int) = (0 : Int) from g10) (by decide)
                · exact absurd (show ¬ (0 : Int) = (0 : Int) from g8) (by decide)
            · exact absurd (show ¬ (0 : Int) = (0 : Int) from g6) (by decide)
        · exact absurd (show ¬ (0 : Int) = (0 : Int) from g4) (by decide)
    · exact absurd (show ¬ (0 : Int) = (0 : Int) from g2) (by decide)
end ZV8
