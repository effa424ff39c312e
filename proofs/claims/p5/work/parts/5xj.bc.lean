/-! the class reads a book (written by wip/p5/b1.py) -/
def kW (v : Nat → Nat) (LF W1 W2 W3 W4 : Nat → Int) : ZW := [(v 0, .inl (0, [zR (v 1), zR (v 2), zR (v 3), zR (v 4), zI (LF 4), zR (v 5)])), (v 1, .inr (.inl (0, 40, W1))), (v 2, .inr (.inl (0, 40, W2))), (v 3, .inr (.inl (0, 40, W3))), (v 4, .inr (.inl (0, 40, W4)))]
section BC9
variable {xs : Nat → Int32} {D : va_G} {cy : Nat → ClassId} {l : Launch} {ex : Nat → Nat} {a c v : Nat → Nat} {F B K S V G CN NM MK TP PP CO KN LF W1 W2 W3 W4 F1 : Nat → Int} {idx n : Nat} {x kd pl : Int} {Y0 : ZW}
set_option maxRecDepth 4000 in
theorem zj_X0_read : PR2[11]? = some mt2_X0_read := rfl
set_option maxRecDepth 4000 in
theorem zj_X0_readLine : PR2[13]? = some mt2_X0_readLine := rfl
set_option maxRecDepth 4000 in
theorem zj_X0_readAct : PR2[12]? = some mt2_X0_readAct := rfl
set_option maxRecDepth 4000 in
theorem zj_X0_sortBehind : PR2[15]? = some mt2_X0_sortBehind := rfl
set_option maxRecDepth 4000 in
theorem zj_X0_readSaying : PR2[14]? = some mt2_X0_readSaying := rfl
set_option maxRecDepth 4000 in
theorem zm_sortBehindB {z1 : Int} (hz1 : -2147483648 ≤ z1 ∧ z1 < 2147483648) : ZMet (EWX xs) D cy l ex mt2_X0_sortBehind (0, 0, 0, 0) Y0 [zI z1] (fun z Y => z = some (zI ((bSt z1 : Nat) : Int)) ∧ Y = Y0) := by
  obtain ⟨mok, tok, ow⟩ := pok2.1 _ _ zj_X0_sortBehind
  refine met_ofz EWX_ok mok tok ow (Nat.le_of_ble_eq_true rfl) (fun r p0 e0 s0 m0 ar0 be0 me0 c0 A0 Q0 X hR => ?_)
  refine zg_blk pok2 X 2 [] (S' := (3, [(0, zI z1)], [zI 11, zI z1], Y0)) rfl trivial ?_
  refine zg_icmp X 8 rfl rfl (by unfold zin; omega) (by unfold zin; omega) (fun g1 => ?_) (fun g1 => ?_)
  · simp only [x_cnd] at g1
    refine zg_blk pok2 X 2 [] (S' := (11, [(0, zI z1)], [zI 12, zI z1], Y0)) rfl trivial ?_
    refine zg_icmp X 20 rfl rfl (by unfold zin; omega) (by unfold zin; omega) (fun g2 => ?_) (fun g2 => ?_)
    · simp only [x_cnd] at g2
      refine zg_blk pok2 X 2 [] (S' := (25, [(0, zI z1)], [zI 3], Y0)) rfl trivial ?_
      refine zg_reti X hR rfl rfl (by decide) (by decide) ?_
      refine ⟨?_, rfl⟩
      unfold bSt
      first | rw [if_pos (by omega)] | rw [if_neg (by omega), if_pos (by omega)] | rw [if_neg (by omega), if_neg (by omega)]
      rfl
    · simp only [x_ncd] at g2
      refine zg_blk pok2 X 2 [] (S' := (17, [(0, zI z1)], [zI 16, zI z1], Y0)) rfl trivial ?_
      refine zg_icmp X 24 rfl rfl (by unfold zin; omega) (by unfold zin; omega) (fun g3 => ?_) (fun g3 => ?_)
      · simp only [x_cnd] at g3
        refine zg_blk pok2 X 1 [] (S' := (25, [(0, zI z1)], [zI 2], Y0)) rfl trivial ?_
        refine zg_reti X hR rfl rfl (by decide) (by decide) ?_
        refine ⟨?_, rfl⟩
        unfold bSt
        first | rw [if_pos (by omega)] | rw [if_neg (by omega), if_pos (by omega)] | rw [if_neg (by omega), if_neg (by omega)]
        rfl
      · simp only [x_ncd] at g3
        refine zg_blk pok2 X 2 [] (S' := (25, [(0, zI z1)], [zI 3], Y0)) rfl trivial ?_
        refine zg_reti X hR rfl rfl (by decide) (by decide) ?_
        refine ⟨?_, rfl⟩
        unfold bSt
        first | rw [if_pos (by omega)] | rw [if_neg (by omega), if_pos (by omega)] | rw [if_neg (by omega), if_neg (by omega)]
        rfl
  · simp only [x_ncd] at g1
    refine zg_blk pok2 X 1 [] (S' := (7, [(0, zI z1)], [zI 0], Y0)) rfl trivial ?_
    refine zg_reti X hR rfl rfl (by decide) (by decide) ?_
    refine ⟨?_, rfl⟩
    unfold bSt
    first | rw [if_pos (by omega)] | rw [if_neg (by omega), if_pos (by omega)] | rw [if_neg (by omega), if_neg (by omega)]
    rfl
theorem bMk_s {K V CN NM : Nat → Int} {t s i : Nat} : bMk K V CN NM (t + 1) s i = (if tdF K V CN NM 1 i = 0 then (if s.testBit (lkS CN NM 1 (V i)).toNat = true then (3, i) else if K (i + 1) = 1 then bMk K V CN NM t (s ||| 2 ^ (lkS CN NM 1 (V i)).toNat) (i + 1) else (0, i + 1)) else (tdF K V CN NM 1 i, i)) := rfl
theorem td_99 {K V CN NM : Nat → Int} {s i : Nat} : ¬ tdF K V CN NM s i = 99 := by
  unfold tdF
  split
  · split
    · decide
    · decide
  · decide
theorem nm_99 {K V : Nat → Int} {lo hi : Int} {i : Nat} : ¬ nmF K V lo hi i = 99 := by
  unfold nmF
  split
  · split
    · decide
    · decide
  · decide
set_option maxHeartbeats 8000000 in
set_option maxRecDepth 4000 in
theorem zm_readSayingA (hT : TT F K S V) (hi : (idx : Int) < F 1) (hI : INV CN NM x) : ZMet (EWX xs) D cy l ex mt2_X0_readSaying (2, 0, 0, 47) (tW a (FA K S V F idx) B K S V ++ cW c G CN NM MK TP PP CO KN) [zR (a 2), zR (c 0)] (fun z Y => ∃ (sv : Int) (R : Int × Nat) (t0 : Nat) (F9 : Nat → Int), z = some (zI sv) ∧ (∀ T, bMk K V CN NM (T + t0) 0 idx = R) ∧ ¬ R.1 = 99 ∧ kM K S V F R F9 ∧ zin sv ∧ Y = (tW a F9 B K S V ++ cW c G CN NM MK TP PP CO KN)) := by
  obtain ⟨mok, tok, ow⟩ := pok2.1 _ _ zj_X0_readSaying
  refine met_ofz EWX_ok mok tok ow (Nat.le_of_ble_eq_true rfl) (fun r p0 e0 s0 m0 ar0 be0 me0 c0 A0 Q0 X hR => ?_)
  obtain ⟨hF6, hF1a, hF1b, hTs, hTk⟩ := hT
  have t0 := hTk idx hi
  have hCN := hI.cn
  obtain ⟨hc0, hc1, hc2, hc3, hNM, hU, hx0, hx1⟩ := hI
  have loop : ∀ (q i m j : Nat), (j : Int) < F 1 → m < 1024 → cntN m = i → i ≤ 10 → 11 - i < q → (∀ (R9 : Int × Nat) (t9 : Nat), (∀ T, bMk K V CN NM (T + t9) m j = R9) → ∃ t0, ∀ T, bMk K V CN NM (T + t0) 0 idx = R9) → ZG D cy r mt2_X0_readSaying p0 l e0 (rmR (2, 0, 0, 47)) s0 m0 ar0 be0 me0 c0 A0 Q0 0 0 (22, [(0, zR (a 2)), (1, zR (c 0)), (2, zI (m : Int)), (3, zI (i : Int))], [], (tW a (FA K S V F j) B K S V ++ cW c G CN NM MK TP PP CO KN)) := by
    intro q
    induction q with
    | zero => intro i m j hj hm hc hi10 hq; omega
    | succ q ih =>
      intro i m j hj hm hc hi10 hq hk
      have t0 := hTk j hj
      refine zg_blk pok2 X 3 [] (S' := (25, [(0, zR (a 2)), (1, zR (c 0)), (2, zI (m : Int)), (3, zI (i : Int))], [zI 1, zR (a 2), zR (c 0)], ((tW a (FA K S V F j) B K S V) ++ (cW c G CN NM MK TP PP CO KN)))) rfl trivial ?_
      refine zg_callV pok2 EWX_ok X 6 (vas := [zR (a 2), zI 1]) (vr := []) (Y1 := ((tW a (FA K S V F j) B K S V) ++ (cW c G CN NM MK TP PP CO KN))) (Y2 := []) rfl rfl (Or.inl rfl) zj_X1_toldHere rfl rfl rfl rfl (Nat.le_of_ble_eq_true rfl) rfl (zm_toldHereA (sN := 1) (idx := j) (by omega) hCN hNM hU ⟨hF6, hF1a, hF1b, hTs, hTk⟩ hj) ⟨by decide, by decide, by decide, by decide⟩ (fun z9 Y9 hz => ?_)
      rcases hz with ⟨htd, rfl, rfl⟩ | ⟨htd, rfl, F8b, hfd, rfl⟩
      · have htk := (td_ne htd).1
        have hlr := lkS_rng (NM := NM) (key := V j) (hCN 1 (by omega))
        obtain ⟨kk, hkk⟩ : ∃ kk : Nat, lkS CN NM 1 (V j) = (kk : Int) := ⟨(lkS CN NM 1 (V j)).toNat, by have h9 := (td_ne htd).2; omega⟩
        have hk10 : kk < 10 := by omega
        obtain ⟨hb1, hb2⟩ := bitN m hm kk hk10
        rw [hkk]
        refine zg_blk pok2 X 3 [] (S' := (33, [(4, zI (kk : Int)), (0, zR (a 2)), (1, zR (c 0)), (2, zI (m : Int)), (3, zI (i : Int))], [zI (-1), zI (kk : Int)], ((tW a (FA K S V F j) B K S V) ++ (cW c G CN NM MK TP PP CO KN)))) rfl trivial ?_
        refine zg_icmp X 54 rfl rfl (by first | (unfold zin; omega) | exact zand_in _ _ | (have h9 := hfd.2.2.2.1; unfold zin; omega)) (by first | (unfold zin; omega) | exact zand_in _ _ | (have h9 := hfd.2.2.2.1; unfold zin; omega)) (fun g1 => ?_) (fun g1 => ?_)
        · simp only [x_cnd] at g1
          have hbf : m.testBit kk = false := by
            cases h9 : m.testBit kk with
            | true => first | (exfalso; omega) | exact absurd (by rw [hb1, h9]; rfl) g1
            | false => rfl
          exfalso
          omega
        · simp only [x_ncd] at g1
          refine zg_blk pok2 X 6 [] (S' := (43, [(4, zI (kk : Int)), (0, zR (a 2)), (1, zR (c 0)), (2, zI (m : Int)), (3, zI (i : Int))], [zI 1, zI (zand (zshr (m : Int) (kk : Int)) 1)], ((tW a (FA K S V F j) B K S V) ++ (cW c G CN NM MK TP PP CO KN)))) rfl trivial ?_
          refine zg_icmp X 54 rfl rfl (by first | (unfold zin; omega) | exact zand_in _ _ | (have h9 := hfd.2.2.2.1; unfold zin; omega)) (by first | (unfold zin; omega) | exact zand_in _ _ | (have h9 := hfd.2.2.2.1; unfold zin; omega)) (fun g2 => ?_) (fun g2 => ?_)
          · simp only [x_cnd] at g2
            have hbf : m.testBit kk = false := by
              cases h9 : m.testBit kk with
              | true => first | (exfalso; omega) | exact absurd (by rw [hb1, h9]; rfl) g2
              | false => rfl
            refine zg_blk pok2 X 2 [] (S' := (57, [(4, zI (kk : Int)), (0, zR (a 2)), (1, zR (c 0)), (2, zI (m : Int)), (3, zI (i : Int))], [zI (-1), zI (kk : Int)], ((tW a (FA K S V F j) B K S V) ++ (cW c G CN NM MK TP PP CO KN)))) rfl trivial ?_
            refine zg_icmp X 71 rfl rfl (by first | (unfold zin; omega) | exact zand_in _ _ | (have h9 := hfd.2.2.2.1; unfold zin; omega)) (by first | (unfold zin; omega) | exact zand_in _ _ | (have h9 := hfd.2.2.2.1; unfold zin; omega)) (fun g3 => ?_) (fun g3 => ?_)
            · simp only [x_cnd] at g3
              exfalso
              omega
            · simp only [x_ncd] at g3
              refine zg_blk pok2 X 7 [] (S' := (68, [(2, zI (zor (m : Int) (zshl 1 (kk : Int)))), (4, zI (kk : Int)), (0, zR (a 2)), (1, zR (c 0)), (3, zI (i : Int))], [zR (a 2)], ((tW a (FA K S V F j) B K S V) ++ (cW c G CN NM MK TP PP CO KN)))) rfl trivial ?_
              refine zg_callV pok2 EWX_ok X 2 (vas := []) (vr := []) (Y1 := (tW a (FA K S V F j) B K S V)) (Y2 := (cW c G CN NM MK TP PP CO KN)) rfl rfl (Or.inl rfl) zj_X10_step rfl rfl rfl rfl (Nat.le_of_ble_eq_true rfl) rfl (zm_step (F := (FA K S V F j)) (show F 1 ≤ 941 by omega) (show -1 ≤ ((j : Nat) : Int) ∧ ((j : Nat) : Int) < 941 by omega) (show -2147483648 ≤ F 6 ∧ F 6 < 2147483648 by omega) (show 0 ≤ F 1 by omega)) ⟨by decide, by decide, by decide, by decide⟩ (fun z9 Y9 hz => ?_)
              obtain ⟨rfl, rfl⟩ := hz
              have ip2 : (((j + 1) : Nat) : Int) < F 1 := by
                have h9 := hTs j hj (by omega) (by omega)
                omega
              have tp2 := hTk (j + 1) ip2
              rw [FA_step (idx := j) hF6 (by omega)]
              refine zg_cv (S2 := (71, [(2, zI (zor (m : Int) (zshl 1 (kk : Int)))), (4, zI (kk : Int)), (0, zR (a 2)), (1, zR (c 0)), (3, zI (i : Int))], [], ((tW a (FA K S V F (j + 1)) B K S V) ++ (cW c G CN NM MK TP PP CO KN)))) rfl ?_
              refine zg_blk pok2 X 4 [] (S' := (7, [(3, zI ((i : Int) + 1)), (2, zI (zor (m : Int) (zshl 1 (kk : Int)))), (4, zI (kk : Int)), (0, zR (a 2)), (1, zR (c 0))], [zI 10, zI ((i : Int) + 1)], ((tW a (FA K S V F (j + 1)) B K S V) ++ (cW c G CN NM MK TP PP CO KN)))) rfl trivial ?_
              refine zg_icmp X 77 rfl rfl (by first | (unfold zin; omega) | exact zand_in _ _ | (have h9 := hfd.2.2.2.1; unfold zin; omega)) (by first | (unfold zin; omega) | exact zand_in _ _ | (have h9 := hfd.2.2.2.1; unfold zin; omega)) (fun g4 => ?_) (fun g4 => ?_)
              · simp only [x_cnd] at g4
                exfalso
                have hup := cntN_up m hm kk hk10 hbf
                have h10 := cntN_le (m ||| 2 ^ kk)
                omega
              · simp only [x_ncd] at g4
                refine zg_blk pok2 X 1 [] (S' := (11, [(3, zI ((i : Int) + 1)), (2, zI (zor (m : Int) (zshl 1 (kk : Int)))), (4, zI (kk : Int)), (0, zR (a 2)), (1, zR (c 0))], [zI ((i : Int) + 1)], ((tW a (FA K S V F (j + 1)) B K S V) ++ (cW c G CN NM MK TP PP CO KN)))) rfl trivial ?_
                refine zg_if X 22 rfl rfl (by first | (unfold zin; omega) | exact zand_in _ _ | (have h9 := hfd.2.2.2.1; unfold zin; omega)) (fun g5 => ?_) (fun g5 => ?_)
                · simp only [x_cnd] at g5
                  exfalso
                  omega
                · simp only [x_ncd] at g5
                  refine zg_blk pok2 X 3 [2] (S' := (19, [(3, zI ((i : Int) + 1)), (2, zI (zor (m : Int) (zshl 1 (kk : Int)))), (4, zI (kk : Int)), (0, zR (a 2)), (1, zR (c 0))], [zI 1, zI (K (j + 1))], ((tW a (FA K S V F (j + 1)) B K S V) ++ (cW c G CN NM MK TP PP CO KN)))) rfl ⟨rfl, trivial⟩ ?_
                  refine zg_icmp X 77 rfl rfl (by first | (unfold zin; omega) | exact zand_in _ _ | (have h9 := hfd.2.2.2.1; unfold zin; omega)) (by first | (unfold zin; omega) | exact zand_in _ _ | (have h9 := hfd.2.2.2.1; unfold zin; omega)) (fun g6 => ?_) (fun g6 => ?_)
                  · simp only [x_cnd] at g6
                    refine zg_blk pok2 X 1 [] (S' := (78, [(3, zI ((i : Int) + 1)), (2, zI (zor (m : Int) (zshl 1 (kk : Int)))), (4, zI (kk : Int)), (0, zR (a 2)), (1, zR (c 0))], [zI (zor (m : Int) (zshl 1 (kk : Int)))], ((tW a (FA K S V F (j + 1)) B K S V) ++ (cW c G CN NM MK TP PP CO KN)))) rfl trivial ?_
                    refine zg_reti X hR rfl rfl (by decide) (by decide) ?_
                    have hup := cntN_up m hm kk hk10 hbf
                    obtain ⟨t0, h0⟩ := hk (0, j + 1) 1 (fun T => by rw [bMk_s, if_pos htd, hkk, Int.toNat_natCast, if_neg (by rw [hbf]; decide), if_neg (by omega)])
                    exact ⟨_, _, t0, _, rfl, h0, show ¬ (0 : Int) = 99 by decide, Or.inl ⟨rfl, rfl, ip2⟩, by rw [hb2]; unfold zin; omega, rfl⟩
                  · simp only [x_ncd] at g6
                    rw [hb2]
                    have hup := cntN_up m hm kk hk10 hbf
                    have ih9 := ih (i + 1) (m ||| 2 ^ kk) (j + 1) ip2 hup.2 (by omega) (by omega) (by omega) (fun R9 t9 h9 => hk R9 (t9 + 1) (fun T => by
                      rw [show T + (t9 + 1) = (T + t9) + 1 by omega, bMk_s, if_pos htd, hkk, Int.toNat_natCast, if_neg (by rw [hbf]; decide), if_pos (by omega)]
                      exact h9 T))
                    rw [show (((i + 1 : Nat)) : Int) = (i : Int) + 1 by omega] at ih9
                    refine zg_lv _ ?_ ih9
                    intro q hq
                    simp only [List.mem_cons, List.not_mem_nil, or_false] at hq ⊢
                    rcases hq with rfl | rfl | rfl | rfl <;> simp
          · simp only [x_ncd] at g2
            have hbt : m.testBit kk = true := by
              cases h9 : m.testBit kk with
              | true => rfl
              | false => exact absurd (show (0 : Int) = 1 by rw [hb1, h9] at g2; exact g2) (by decide)
            refine zg_blk pok2 X 2 [] (S' := (48, [(4, zI (kk : Int)), (0, zR (a 2)), (1, zR (c 0)), (2, zI (m : Int)), (3, zI (i : Int))], [zI 3, zR (a 2)], ((tW a (FA K S V F j) B K S V) ++ (cW c G CN NM MK TP PP CO KN)))) rfl trivial ?_
            refine zg_callV pok2 EWX_ok X 2 (vas := [zI 3]) (vr := []) (Y1 := (tW a (FA K S V F j) B K S V)) (Y2 := (cW c G CN NM MK TP PP CO KN)) rfl rfl (Or.inl rfl) zj_X10_fail rfl rfl rfl rfl (Nat.le_of_ble_eq_true rfl) rfl (zm_fail (F := (FA K S V F j)) (show -2147483648 ≤ F 6 ∧ F 6 < 2147483648 by omega)) ⟨by decide, by decide, by decide, by decide⟩ (fun z9 Y9 hz => ?_)
            obtain ⟨rfl, rfl⟩ := hz
            have hfd := FA_fail (K := K) (S := S) (V := V) (F := F) (idx := j) (m := 3) hF6 (by decide) (by decide)
            refine zg_blk pok2 X 5 [] (S' := (7, [(3, zI ((i : Int) + 1)), (4, zI (kk : Int)), (0, zR (a 2)), (1, zR (c 0)), (2, zI (m : Int))], [zI 10, zI ((i : Int) + 1)], ((tW a (failF 3 (FA K S V F j)) B K S V) ++ (cW c G CN NM MK TP PP CO KN)))) rfl trivial ?_
            refine zg_icmp X 77 rfl rfl (by first | (unfold zin; omega) | exact zand_in _ _ | (have h9 := hfd.2.2.2.1; unfold zin; omega)) (by first | (unfold zin; omega) | exact zand_in _ _ | (have h9 := hfd.2.2.2.1; unfold zin; omega)) (fun g7 => ?_) (fun g7 => ?_)
            · simp only [x_cnd] at g7
              refine zg_blk pok2 X 1 [] (S' := (78, [(3, zI ((i : Int) + 1)), (4, zI (kk : Int)), (0, zR (a 2)), (1, zR (c 0)), (2, zI (m : Int))], [zI (m : Int)], ((tW a (failF 3 (FA K S V F j)) B K S V) ++ (cW c G CN NM MK TP PP CO KN)))) rfl trivial ?_
              refine zg_reti X hR rfl rfl (by decide) (by decide) ?_
              obtain ⟨t0, h0⟩ := hk (3, j) 1 (fun T => by rw [bMk_s, if_pos htd, hkk, Int.toNat_natCast, if_pos hbt])
              exact ⟨_, _, t0, _, rfl, h0, show ¬ (3 : Int) = 99 by decide, Or.inr ⟨show ¬ (3 : Int) = 0 by decide, hfd⟩, by unfold zin; omega, rfl⟩
            · simp only [x_ncd] at g7
              refine zg_blk pok2 X 1 [] (S' := (11, [(3, zI ((i : Int) + 1)), (4, zI (kk : Int)), (0, zR (a 2)), (1, zR (c 0)), (2, zI (m : Int))], [zI ((i : Int) + 1)], ((tW a (failF 3 (FA K S V F j)) B K S V) ++ (cW c G CN NM MK TP PP CO KN)))) rfl trivial ?_
              refine zg_if X 22 rfl rfl (by first | (unfold zin; omega) | exact zand_in _ _ | (have h9 := hfd.2.2.2.1; unfold zin; omega)) (fun g8 => ?_) (fun g8 => ?_)
              · simp only [x_cnd] at g8
                exfalso
                omega
              · simp only [x_ncd] at g8
                refine zg_blk pok2 X 3 [2] (S' := (19, [(3, zI ((i : Int) + 1)), (4, zI (kk : Int)), (0, zR (a 2)), (1, zR (c 0)), (2, zI (m : Int))], [zI 1, zI ((failF 3 (FA K S V F j)) 3)], ((tW a (failF 3 (FA K S V F j)) B K S V) ++ (cW c G CN NM MK TP PP CO KN)))) rfl ⟨rfl, trivial⟩ ?_
                refine zg_icmp X 77 rfl rfl (by first | (unfold zin; omega) | exact zand_in _ _ | (have h9 := hfd.2.2.2.1; unfold zin; omega)) (by first | (unfold zin; omega) | exact zand_in _ _ | (have h9 := hfd.2.2.2.1; unfold zin; omega)) (fun g9 => ?_) (fun g9 => ?_)
                · simp only [x_cnd] at g9
                  refine zg_blk pok2 X 1 [] (S' := (78, [(3, zI ((i : Int) + 1)), (4, zI (kk : Int)), (0, zR (a 2)), (1, zR (c 0)), (2, zI (m : Int))], [zI (m : Int)], ((tW a (failF 3 (FA K S V F j)) B K S V) ++ (cW c G CN NM MK TP PP CO KN)))) rfl trivial ?_
                  refine zg_reti X hR rfl rfl (by decide) (by decide) ?_
                  obtain ⟨t0, h0⟩ := hk (3, j) 1 (fun T => by rw [bMk_s, if_pos htd, hkk, Int.toNat_natCast, if_pos hbt])
                  exact ⟨_, _, t0, _, rfl, h0, show ¬ (3 : Int) = 99 by decide, Or.inr ⟨show ¬ (3 : Int) = 0 by decide, hfd⟩, by unfold zin; omega, rfl⟩
                · simp only [x_ncd] at g9
                  exfalso
                  have h9 := hfd.2.2.2.1
                  omega
      · refine zg_blk pok2 X 3 [] (S' := (33, [(4, zI (-1)), (0, zR (a 2)), (1, zR (c 0)), (2, zI (m : Int)), (3, zI (i : Int))], [zI (-1), zI (-1)], ((tW a F8b B K S V) ++ (cW c G CN NM MK TP PP CO KN)))) rfl trivial ?_
        refine zg_icmp X 54 rfl rfl (by first | (unfold zin; omega) | exact zand_in _ _ | (have h9 := hfd.2.2.2.1; unfold zin; omega)) (by first | (unfold zin; omega) | exact zand_in _ _ | (have h9 := hfd.2.2.2.1; unfold zin; omega)) (fun g10 => ?_) (fun g10 => ?_)
        · simp only [x_cnd] at g10
          refine zg_blk pok2 X 2 [] (S' := (57, [(4, zI (-1)), (0, zR (a 2)), (1, zR (c 0)), (2, zI (m : Int)), (3, zI (i : Int))], [zI (-1), zI (-1)], ((tW a F8b B K S V) ++ (cW c G CN NM MK TP PP CO KN)))) rfl trivial ?_
          refine zg_icmp X 71 rfl rfl (by first | (unfold zin; omega) | exact zand_in _ _ | (have h9 := hfd.2.2.2.1; unfold zin; omega)) (by first | (unfold zin; omega) | exact zand_in _ _ | (have h9 := hfd.2.2.2.1; unfold zin; omega)) (fun g11 => ?_) (fun g11 => ?_)
          · simp only [x_cnd] at g11
            refine zg_blk pok2 X 4 [] (S' := (7, [(3, zI ((i : Int) + 1)), (4, zI (-1)), (0, zR (a 2)), (1, zR (c 0)), (2, zI (m : Int))], [zI 10, zI ((i : Int) + 1)], ((tW a F8b B K S V) ++ (cW c G CN NM MK TP PP CO KN)))) rfl trivial ?_
            refine zg_icmp X 77 rfl rfl (by first | (unfold zin; omega) | exact zand_in _ _ | (have h9 := hfd.2.2.2.1; unfold zin; omega)) (by first | (unfold zin; omega) | exact zand_in _ _ | (have h9 := hfd.2.2.2.1; unfold zin; omega)) (fun g12 => ?_) (fun g12 => ?_)
            · simp only [x_cnd] at g12
              refine zg_blk pok2 X 1 [] (S' := (78, [(3, zI ((i : Int) + 1)), (4, zI (-1)), (0, zR (a 2)), (1, zR (c 0)), (2, zI (m : Int))], [zI (m : Int)], ((tW a F8b B K S V) ++ (cW c G CN NM MK TP PP CO KN)))) rfl trivial ?_
              refine zg_reti X hR rfl rfl (by decide) (by decide) ?_
              obtain ⟨t0, h0⟩ := hk (tdF K V CN NM 1 j, j) 1 (fun T => by rw [bMk_s, if_neg htd])
              exact ⟨_, _, t0, _, rfl, h0, td_99, Or.inr ⟨htd, hfd⟩, by unfold zin; omega, rfl⟩
            · simp only [x_ncd] at g12
              refine zg_blk pok2 X 1 [] (S' := (11, [(3, zI ((i : Int) + 1)), (4, zI (-1)), (0, zR (a 2)), (1, zR (c 0)), (2, zI (m : Int))], [zI ((i : Int) + 1)], ((tW a F8b B K S V) ++ (cW c G CN NM MK TP PP CO KN)))) rfl trivial ?_
              refine zg_if X 22 rfl rfl (by first | (unfold zin; omega) | exact zand_in _ _ | (have h9 := hfd.2.2.2.1; unfold zin; omega)) (fun g13 => ?_) (fun g13 => ?_)
              · simp only [x_cnd] at g13
                exfalso
                omega
              · simp only [x_ncd] at g13
                refine zg_blk pok2 X 3 [2] (S' := (19, [(3, zI ((i : Int) + 1)), (4, zI (-1)), (0, zR (a 2)), (1, zR (c 0)), (2, zI (m : Int))], [zI 1, zI (F8b 3)], ((tW a F8b B K S V) ++ (cW c G CN NM MK TP PP CO KN)))) rfl ⟨rfl, trivial⟩ ?_
                refine zg_icmp X 77 rfl rfl (by first | (unfold zin; omega) | exact zand_in _ _ | (have h9 := hfd.2.2.2.1; unfold zin; omega)) (by first | (unfold zin; omega) | exact zand_in _ _ | (have h9 := hfd.2.2.2.1; unfold zin; omega)) (fun g14 => ?_) (fun g14 => ?_)
                · simp only [x_cnd] at g14
                  refine zg_blk pok2 X 1 [] (S' := (78, [(3, zI ((i : Int) + 1)), (4, zI (-1)), (0, zR (a 2)), (1, zR (c 0)), (2, zI (m : Int))], [zI (m : Int)], ((tW a F8b B K S V) ++ (cW c G CN NM MK TP PP CO KN)))) rfl trivial ?_
                  refine zg_reti X hR rfl rfl (by decide) (by decide) ?_
                  obtain ⟨t0, h0⟩ := hk (tdF K V CN NM 1 j, j) 1 (fun T => by rw [bMk_s, if_neg htd])
                  exact ⟨_, _, t0, _, rfl, h0, td_99, Or.inr ⟨htd, hfd⟩, by unfold zin; omega, rfl⟩
                · simp only [x_ncd] at g14
                  exfalso
                  have h9 := hfd.2.2.2.1
                  omega
          · exact absurd (show ¬ (-1 : Int) = (-1 : Int) from g11) (by decide)
        · exact absurd (show ¬ (-1 : Int) = (-1 : Int) from g10) (by decide)
  refine zg_blk pok2 X 6 [] (S' := (7, [(3, zI 0), (2, zI 0), (0, zR (a 2)), (1, zR (c 0))], [zI 10, zI 0], ((tW a (FA K S V F idx) B K S V) ++ (cW c G CN NM MK TP PP CO KN)))) rfl trivial ?_
  refine zg_icmp X 77 rfl rfl (by first | (unfold zin; omega) | exact zand_in _ _ | (have h9 := hfd.2.2.2.1; unfold zin; omega)) (by first | (unfold zin; omega) | exact zand_in _ _ | (have h9 := hfd.2.2.2.1; unfold zin; omega)) (fun g1 => ?_) (fun g1 => ?_)
  · exact absurd (show (10 : Int) < (0 : Int) from g1) (by decide)
  · simp only [x_ncd] at g1
    refine zg_blk pok2 X 1 [] (S' := (11, [(3, zI 0), (2, zI 0), (0, zR (a 2)), (1, zR (c 0))], [zI 0], ((tW a (FA K S V F idx) B K S V) ++ (cW c G CN NM MK TP PP CO KN)))) rfl trivial ?_
    refine zg_if X 22 rfl rfl (by first | (unfold zin; omega) | exact zand_in _ _ | (have h9 := hfd.2.2.2.1; unfold zin; omega)) (fun g2 => ?_) (fun g2 => ?_)
    · simp only [x_cnd] at g2
      have l9 := loop 100 0 0 idx hi (by decide) cntN_0 (by decide) (by decide) (fun R9 t9 h9 => ⟨t9, h9⟩)
      refine zg_lv _ ?_ l9
      intro q hq
      simp only [List.mem_cons, List.not_mem_nil, or_false] at hq ⊢
      rcases hq with rfl | rfl | rfl | rfl <;> simp
    · exact absurd (show ¬ (0 : Int) = (0 : Int) from g2) (by decide)
set_option maxRecDepth 4000 in
theorem zm_readSayingX (hfd : fd F1 kd pl) : ZMet (EWX xs) D cy l ex mt2_X0_readSaying (2, 0, 0, 47) (tW a F1 B K S V ++ cW c G CN NM MK TP PP CO KN) [zR (a 2), zR (c 0)] (fun z Y => z = some (zI 0) ∧ ∃ F9, fd F9 kd pl ∧ Y = (tW a F9 B K S V ++ cW c G CN NM MK TP PP CO KN)) := by
  obtain ⟨mok, tok, ow⟩ := pok2.1 _ _ zj_X0_readSaying
  refine met_ofz EWX_ok mok tok ow (Nat.le_of_ble_eq_true rfl) (fun r p0 e0 s0 m0 ar0 be0 me0 c0 A0 Q0 X hR => ?_)
  refine zg_blk pok2 X 6 [] (S' := (7, [(3, zI 0), (2, zI 0), (0, zR (a 2)), (1, zR (c 0))], [zI 10, zI 0], ((tW a F1 B K S V) ++ (cW c G CN NM MK TP PP CO KN)))) rfl trivial ?_
  refine zg_icmp X 77 rfl rfl (by first | (unfold zin; omega) | exact zand_in _ _ | (have h9 := hfd.2.2.2.1; unfold zin; omega)) (by first | (unfold zin; omega) | exact zand_in _ _ | (have h9 := hfd.2.2.2.1; unfold zin; omega)) (fun g1 => ?_) (fun g1 => ?_)
  · exact absurd (show (10 : Int) < (0 : Int) from g1) (by decide)
  · simp only [x_ncd] at g1
    refine zg_blk pok2 X 1 [] (S' := (11, [(3, zI 0), (2, zI 0), (0, zR (a 2)), (1, zR (c 0))], [zI 0], ((tW a F1 B K S V) ++ (cW c G CN NM MK TP PP CO KN)))) rfl trivial ?_
    refine zg_if X 22 rfl rfl (by first | (unfold zin; omega) | exact zand_in _ _ | (have h9 := hfd.2.2.2.1; unfold zin; omega)) (fun g2 => ?_) (fun g2 => ?_)
    · simp only [x_cnd] at g2
      refine zg_blk pok2 X 3 [] (S' := (25, [(3, zI 0), (2, zI 0), (0, zR (a 2)), (1, zR (c 0))], [zI 1, zR (a 2), zR (c 0)], ((tW a F1 B K S V) ++ (cW c G CN NM MK TP PP CO KN)))) rfl trivial ?_
      refine zg_callV pok2 EWX_ok X 6 (vas := [zR (a 2), zI 1]) (vr := []) (Y1 := ((tW a F1 B K S V) ++ (cW c G CN NM MK TP PP CO KN))) (Y2 := []) rfl rfl (Or.inl rfl) zj_X1_toldHere rfl rfl rfl rfl (Nat.le_of_ble_eq_true rfl) rfl (zm_toldHereX hfd) ⟨by decide, by decide, by decide, by decide⟩ (fun z9 Y9 hz => ?_)
      obtain ⟨rfl, F8b, hfd, rfl⟩ := hz
      refine zg_blk pok2 X 3 [] (S' := (33, [(4, zI (-1)), (3, zI 0), (2, zI 0), (0, zR (a 2)), (1, zR (c 0))], [zI (-1), zI (-1)], ((tW a F8b B K S V) ++ (cW c G CN NM MK TP PP CO KN)))) rfl trivial ?_
      refine zg_icmp X 54 rfl rfl (by first | (unfold zin; omega) | exact zand_in _ _ | (have h9 := hfd.2.2.2.1; unfold zin; omega)) (by first | (unfold zin; omega) | exact zand_in _ _ | (have h9 := hfd.2.2.2.1; unfold zin; omega)) (fun g3 => ?_) (fun g3 => ?_)
      · simp only [x_cnd] at g3
        refine zg_blk pok2 X 2 [] (S' := (57, [(4, zI (-1)), (3, zI 0), (2, zI 0), (0, zR (a 2)), (1, zR (c 0))], [zI (-1), zI (-1)], ((tW a F8b B K S V) ++ (cW c G CN NM MK TP PP CO KN)))) rfl trivial ?_
        refine zg_icmp X 71 rfl rfl (by first | (unfold zin; omega) | exact zand_in _ _ | (have h9 := hfd.2.2.2.1; unfold zin; omega)) (by first | (unfold zin; omega) | exact zand_in _ _ | (have h9 := hfd.2.2.2.1; unfold zin; omega)) (fun g4 => ?_) (fun g4 => ?_)
        · simp only [x_cnd] at g4
          refine zg_blk pok2 X 4 [] (S' := (7, [(3, zI 1), (4, zI (-1)), (2, zI 0), (0, zR (a 2)), (1, zR (c 0))], [zI 10, zI 1], ((tW a F8b B K S V) ++ (cW c G CN NM MK TP PP CO KN)))) rfl trivial ?_
          refine zg_icmp X 77 rfl rfl (by first | (unfold zin; omega) | exact zand_in _ _ | (have h9 := hfd.2.2.2.1; unfold zin; omega)) (by first | (unfold zin; omega) | exact zand_in _ _ | (have h9 := hfd.2.2.2.1; unfold zin; omega)) (fun g5 => ?_) (fun g5 => ?_)
          · exact absurd (show (10 : Int) < (1 : Int) from g5) (by decide)
          · simp only [x_ncd] at g5
            refine zg_blk pok2 X 1 [] (S' := (11, [(3, zI 1), (4, zI (-1)), (2, zI 0), (0, zR (a 2)), (1, zR (c 0))], [zI 1], ((tW a F8b B K S V) ++ (cW c G CN NM MK TP PP CO KN)))) rfl trivial ?_
            refine zg_if X 22 rfl rfl (by first | (unfold zin; omega) | exact zand_in _ _ | (have h9 := hfd.2.2.2.1; unfold zin; omega)) (fun g6 => ?_) (fun g6 => ?_)
            · exact absurd (show (1 : Int) = (0 : Int) from g6) (by decide)
            · simp only [x_ncd] at g6
              refine zg_blk pok2 X 3 [2] (S' := (19, [(3, zI 1), (4, zI (-1)), (2, zI 0), (0, zR (a 2)), (1, zR (c 0))], [zI 1, zI (F8b 3)], ((tW a F8b B K S V) ++ (cW c G CN NM MK TP PP CO KN)))) rfl ⟨rfl, trivial⟩ ?_
              refine zg_icmp X 77 rfl rfl (by first | (unfold zin; omega) | exact zand_in _ _ | (have h9 := hfd.2.2.2.1; unfold zin; omega)) (by first | (unfold zin; omega) | exact zand_in _ _ | (have h9 := hfd.2.2.2.1; unfold zin; omega)) (fun g7 => ?_) (fun g7 => ?_)
              · simp only [x_cnd] at g7
                refine zg_blk pok2 X 1 [] (S' := (78, [(3, zI 1), (4, zI (-1)), (2, zI 0), (0, zR (a 2)), (1, zR (c 0))], [zI 0], ((tW a F8b B K S V) ++ (cW c G CN NM MK TP PP CO KN)))) rfl trivial ?_
                refine zg_reti X hR rfl rfl (by decide) (by decide) ?_
                exact ⟨rfl, _, hfd, rfl⟩
              · simp only [x_ncd] at g7
                exfalso
                have h9 := hfd.2.2.2.1
                omega
        · exact absurd (show ¬ (-1 : Int) = (-1 : Int) from g4) (by decide)
      · exact absurd (show ¬ (-1 : Int) = (-1 : Int) from g3) (by decide)
    · exact absurd (show ¬ (0 : Int) = (0 : Int) from g2) (by decide)
theorem bSt_lt {w : Int} : bSt w < 4 := by
  unfold bSt
  split
  · decide
  · split
    · decide
    · decide
/-- what stands behind the one who does it -/
def bAct (K V CN NM : Nat → Int) (t i : Nat) : Int × Nat := if K i = 2 ∧ 11 ≤ V i ∧ V i ≤ 16 then (if tdF K V CN NM (bSt (V i)) (i + 1) = 0 then (if V i = 12 then bMk K V CN NM t 0 (i + 2) else (0, i + 2)) else (tdF K V CN NM (bSt (V i)) (i + 1), i + 1)) else (1, i)
theorem bLine_e {K V CN NM : Nat → Int} {t n i : Nat} : bLine K V CN NM t n i = (if K i = 2 ∧ V i = 17 then (if 40 ≤ n then (4, i) else if nmF K V 1 60 (i + 1) = 0 then (0, i + 2) else (nmF K V 1 60 (i + 1), i + 1)) else if tdF K V CN NM 3 i = 0 then (if 40 ≤ n then (4, i) else bAct K V CN NM t (i + 1)) else (tdF K V CN NM 3 i, i)) := rfl
set_option maxHeartbeats 8000000 in
set_option maxRecDepth 4000 in
theorem zm_readAct (hT : TT F K S V) (hi : (idx : Int) < F 1) (hI : INV CN NM x) (hL : 0 ≤ LF 4 ∧ LF 4 < 40) : ZMet (EWX xs) D cy l ex mt2_X0_readAct (3, 0, 0, 71) (tW a (FA K S V F idx) B K S V ++ cW c G CN NM MK TP PP CO KN ++ kW v LF W1 W2 W3 W4) [zR (v 0), zR (a 2), zR (c 0)] (fun z Y => z = none ∧ ∃ (R : Int × Nat) (t0 : Nat) (F9 W1 W2 W3 W4 : Nat → Int), (∀ T, bAct K V CN NM (T + t0) idx = R) ∧ ¬ R.1 = 99 ∧ kM K S V F R F9 ∧ Y = (tW a F9 B K S V ++ cW c G CN NM MK TP PP CO KN ++ kW v LF W1 W2 W3 W4)) := by
  obtain ⟨mok, tok, ow⟩ := pok2.1 _ _ zj_X0_readAct
  refine met_ofz EWX_ok mok tok ow (Nat.le_of_ble_eq_true rfl) (fun r p0 e0 s0 m0 ar0 be0 me0 c0 A0 Q0 X hR => ?_)
  have hI9 := hI
  obtain ⟨hF6, hF1a, hF1b, hTs, hTk⟩ := hT
  have t0 := hTk idx hi
  have hCN := hI.cn
  obtain ⟨hc0, hc1, hc2, hc3, hNM, hU, hx0, hx1⟩ := hI
  refine zg_blk pok2 X 1 [] (S' := (1, [(0, zR (v 0)), (1, zR (a 2)), (2, zR (c 0))], [zR (a 2)], ((tW a (FA K S V F idx) B K S V) ++ (cW c G CN NM MK TP PP CO KN) ++ (kW v LF W1 W2 W3 W4)))) rfl trivial ?_
  refine zg_callV pok2 EWX_ok X 2 (vas := []) (vr := []) (Y1 := (tW a (FA K S V F idx) B K S V)) (Y2 := ((cW c G CN NM MK TP PP CO KN) ++ (kW v LF W1 W2 W3 W4))) rfl rfl (Or.inl rfl) zj_X10_plainWord rfl rfl rfl rfl (Nat.le_of_ble_eq_true rfl) rfl (zm_plainWordA (idx := idx) ⟨hF6, hF1a, hF1b, hTs, hTk⟩ hi) ⟨by decide, by decide, by decide, by decide⟩ (fun z9 Y9 hz => ?_)
  rcases hz with ⟨hk0, rfl, rfl⟩ | ⟨hk0, rfl, rfl⟩
  · refine zg_blk pok2 X 3 [] (S' := (8, [(3, zI (V idx)), (0, zR (v 0)), (1, zR (a 2)), (2, zR (c 0))], [zI 11, zI (V idx)], ((tW a (FA K S V F idx) B K S V) ++ (cW c G CN NM MK TP PP CO KN) ++ (kW v LF W1 W2 W3 W4)))) rfl trivial ?_
    refine zg_icmp X 17 rfl rfl (by unfold zin; omega) (by unfold zin; omega) (fun g1 => ?_) (fun g1 => ?_)
    · simp only [x_cnd] at g1
      refine zg_blk pok2 X 2 [] (S' := (19, [(3, zI (V idx)), (0, zR (v 0)), (1, zR (a 2)), (2, zR (c 0))], [zI 1, zR (a 2)], ((tW a (FA K S V F idx) B K S V) ++ (cW c G CN NM MK TP PP CO KN) ++ (kW v LF W1 W2 W3 W4)))) rfl trivial ?_
      refine zg_callV pok2 EWX_ok X 2 (vas := [zI 1]) (vr := []) (Y1 := (tW a (FA K S V F idx) B K S V)) (Y2 := ((cW c G CN NM MK TP PP CO KN) ++ (kW v LF W1 W2 W3 W4))) rfl rfl (Or.inl rfl) zj_X10_fail rfl rfl rfl rfl (Nat.le_of_ble_eq_true rfl) rfl (zm_fail (F := (FA K S V F idx)) (show -2147483648 ≤ F 6 ∧ F 6 < 2147483648 by omega)) ⟨by decide, by decide, by decide, by decide⟩ (fun z9 Y9 hz => ?_)
      obtain ⟨rfl, rfl⟩ := hz
      have hfd := FA_fail (K := K) (S := S) (V := V) (F := F) (idx := idx) (m := 1) hF6 (by decide) (by decide)
      refine zg_retv X hR rfl rfl (by decide) (by decide) ?_
      exact ⟨rfl, (1, idx), 0, _, _, _, _, _, fun T => by unfold bAct; rw [if_neg (by omega)], show ¬ (1 : Int) = 99 by decide, Or.inr ⟨show ¬ (1 : Int) = 0 by decide, hfd⟩, rfl⟩
    · simp only [x_ncd] at g1
      refine zg_blk pok2 X 2 [] (S' := (14, [(3, zI (V idx)), (0, zR (v 0)), (1, zR (a 2)), (2, zR (c 0))], [zI 16, zI (V idx)], ((tW a (FA K S V F idx) B K S V) ++ (cW c G CN NM MK TP PP CO KN) ++ (kW v LF W1 W2 W3 W4)))) rfl trivial ?_
      refine zg_icmp X 23 rfl rfl (by unfold zin; omega) (by unfold zin; omega) (fun g2 => ?_) (fun g2 => ?_)
      · simp only [x_cnd] at g2
        refine zg_blk pok2 X 1 [] (S' := (24, [(3, zI (V idx)), (0, zR (v 0)), (1, zR (a 2)), (2, zR (c 0))], [zR (a 2)], ((tW a (FA K S V F idx) B K S V) ++ (cW c G CN NM MK TP PP CO KN) ++ (kW v LF W1 W2 W3 W4)))) rfl trivial ?_
        refine zg_callV pok2 EWX_ok X 2 (vas := []) (vr := []) (Y1 := (tW a (FA K S V F idx) B K S V)) (Y2 := ((cW c G CN NM MK TP PP CO KN) ++ (kW v LF W1 W2 W3 W4))) rfl rfl (Or.inl rfl) zj_X10_step rfl rfl rfl rfl (Nat.le_of_ble_eq_true rfl) rfl (zm_step (F := (FA K S V F idx)) (show F 1 ≤ 941 by omega) (show -1 ≤ ((idx : Nat) : Int) ∧ ((idx : Nat) : Int) < 941 by omega) (show -2147483648 ≤ F 6 ∧ F 6 < 2147483648 by omega) (show 0 ≤ F 1 by omega)) ⟨by decide, by decide, by decide, by decide⟩ (fun z9 Y9 hz => ?_)
        obtain ⟨rfl, rfl⟩ := hz
        have ip1 : (((idx + 1) : Nat) : Int) < F 1 := by
          have h9 := hTs idx hi (by omega) (by omega)
          omega
        have tp1 := hTk (idx + 1) ip1
        rw [FA_step (idx := idx) hF6 (by omega)]
        refine zg_cv (S2 := (27, [(3, zI (V idx)), (0, zR (v 0)), (1, zR (a 2)), (2, zR (c 0))], [], ((tW a (FA K S V F (idx + 1)) B K S V) ++ (cW c G CN NM MK TP PP CO KN) ++ (kW v LF W1 W2 W3 W4)))) rfl ?_
        refine zg_blk pok2 X 13 [14, 14, 15, 14, 14] (S' := (48, [(3, zI (V idx)), (0, zR (v 0)), (1, zR (a 2)), (2, zR (c 0))], [zI (V idx), zR (a 2), zR (c 0), zI (LF 4), zR (v 3)], ((tW a (FA K S V F (idx + 1)) B K S V) ++ (cW c G CN NM MK TP PP CO KN) ++ (kW v LF (zup W1 ((LF 4).toNat) (V idx)) W2 W3 W4)))) rfl ⟨rfl, rfl, rfl, rfl, (show zidx (LF 4) 40 from by unfold zidx; omega), rfl, rfl, trivial⟩ ?_
        refine zg_callS pok2 EWX_ok X (vas := [zI (V idx)]) (vr := [zR (a 2), zR (c 0), zI (LF 4), zR (v 3)]) (Y1 := ((tW a (FA K S V F (idx + 1)) B K S V) ++ (cW c G CN NM MK TP PP CO KN) ++ (kW v LF (zup W1 ((LF 4).toNat) (V idx)) W2 W3 W4))) (Y2 := []) rfl rfl (Or.inl rfl) zj_X0_sortBehind rfl rfl rfl (Nat.le_of_ble_eq_true rfl) rfl (zm_sortBehindB (z1 := V idx) (by omega)) ⟨by decide, by decide, by decide, by decide⟩ (fun z9 Y9 hz => ?_)
        obtain ⟨rfl, rfl⟩ := hz
        refine zg_callV pok2 EWX_ok X 6 (vas := [zR (a 2), zI ((bSt (V idx) : Nat) : Int)]) (vr := [zI (LF 4), zR (v 3)]) (Y1 := ((tW a (FA K S V F (idx + 1)) B K S V) ++ (cW c G CN NM MK TP PP CO KN))) (Y2 := (kW v LF (zup W1 ((LF 4).toNat) (V idx)) W2 W3 W4)) rfl rfl (Or.inl rfl) zj_X1_toldHere rfl rfl rfl rfl (Nat.le_of_ble_eq_true rfl) rfl (zm_toldHereA (sN := (bSt (V idx))) (idx := (idx + 1)) (by first | omega | exact bSt_lt) hCN hNM hU ⟨hF6, hF1a, hF1b, hTs, hTk⟩ ip1) ⟨by decide, by decide, by decide, by decide⟩ (fun z9 Y9 hz => ?_)
        rcases hz with ⟨htd2, rfl, rfl⟩ | ⟨htd2, rfl, F8c, hfd, rfl⟩
        · have htk2 := (td_ne htd2).1
          have hlr2 := lkS_rng (NM := NM) (key := V (idx + 1)) (hCN (bSt (V idx)) (by first | omega | exact bSt_lt))
          refine zg_blk pok2 X 2 [17] (S' := (56, [(3, zI (V idx)), (0, zR (v 0)), (1, zR (a 2)), (2, zR (c 0))], [zR (a 2)], ((tW a (FA K S V F (idx + 1)) B K S V) ++ (cW c G CN NM MK TP PP CO KN) ++ (kW v LF (zup W1 ((LF 4).toNat) (V idx)) W2 (zup W3 ((LF 4).toNat) (lkS CN NM (bSt (V idx)) (V (idx + 1)))) W4)))) rfl ⟨rfl, rfl, (show zidx (LF 4) 40 from by unfold zidx; omega), trivial⟩ ?_
          refine zg_callV pok2 EWX_ok X 2 (vas := []) (vr := []) (Y1 := (tW a (FA K S V F (idx + 1)) B K S V)) (Y2 := ((cW c G CN NM MK TP PP CO KN) ++ (kW v LF (zup W1 ((LF 4).toNat) (V idx)) W2 (zup W3 ((LF 4).toNat) (lkS CN NM (bSt (V idx)) (V (idx + 1)))) W4))) rfl rfl (Or.inl rfl) zj_X10_step rfl rfl rfl rfl (Nat.le_of_ble_eq_true rfl) rfl (zm_step (F := (FA K S V F (idx + 1))) (show F 1 ≤ 941 by omega) (show -1 ≤ (((idx + 1) : Nat) : Int) ∧ (((idx + 1) : Nat) : Int) < 941 by omega) (show -2147483648 ≤ F 6 ∧ F 6 < 2147483648 by omega) (show 0 ≤ F 1 by omega)) ⟨by decide, by decide, by decide, by decide⟩ (fun z9 Y9 hz => ?_)
          obtain ⟨rfl, rfl⟩ := hz
          have ip3 : (((idx + 2) : Nat) : Int) < F 1 := by
            have h9 := hTs (idx + 1) ip1 (by omega) (by omega)
            omega
          have tp3 := hTk (idx + 2) ip3
          rw [FA_step (idx := (idx + 1)) hF6 (by omega)]
          refine zg_cv (S2 := (59, [(3, zI (V idx)), (0, zR (v 0)), (1, zR (a 2)), (2, zR (c 0))], [], ((tW a (FA K S V F (idx + 2)) B K S V) ++ (cW c G CN NM MK TP PP CO KN) ++ (kW v LF (zup W1 ((LF 4).toNat) (V idx)) W2 (zup W3 ((LF 4).toNat) (lkS CN NM (bSt (V idx)) (V (idx + 1)))) W4)))) rfl ?_
          refine zg_blk pok2 X 2 [] (S' := (62, [(3, zI (V idx)), (0, zR (v 0)), (1, zR (a 2)), (2, zR (c 0))], [zI 12, zI (V idx)], ((tW a (FA K S V F (idx + 2)) B K S V) ++ (cW c G CN NM MK TP PP CO KN) ++ (kW v LF (zup W1 ((LF 4).toNat) (V idx)) W2 (zup W3 ((LF 4).toNat) (lkS CN NM (bSt (V idx)) (V (idx + 1)))) W4)))) rfl trivial ?_
          refine zg_icmp X 79 rfl rfl (by unfold zin; omega) (by unfold zin; omega) (fun g3 => ?_) (fun g3 => ?_)
          · simp only [x_cnd] at g3
            refine zg_retv X hR rfl rfl (by decide) (by decide) ?_
            exact ⟨rfl, (0, idx + 2), 0, _, _, _, _, _, fun T => by unfold bAct; rw [if_pos (by omega), if_pos htd2, if_neg (by omega)], show ¬ (0 : Int) = 99 by decide, Or.inl ⟨rfl, rfl, ip3⟩, rfl⟩
          · simp only [x_ncd] at g3
            refine zg_blk pok2 X 6 [14, 14] (S' := (75, [(3, zI (V idx)), (0, zR (v 0)), (1, zR (a 2)), (2, zR (c 0))], [zR (c 0), zR (a 2), zI (LF 4), zR (v 4)], ((tW a (FA K S V F (idx + 2)) B K S V) ++ (cW c G CN NM MK TP PP CO KN) ++ (kW v LF (zup W1 ((LF 4).toNat) (V idx)) W2 (zup W3 ((LF 4).toNat) (lkS CN NM (bSt (V idx)) (V (idx + 1)))) W4)))) rfl ⟨rfl, rfl, trivial⟩ ?_
            refine zg_callS pok2 EWX_ok X (vas := [zR (a 2), zR (c 0)]) (vr := [zI (LF 4), zR (v 4)]) (Y1 := ((tW a (FA K S V F (idx + 2)) B K S V) ++ (cW c G CN NM MK TP PP CO KN))) (Y2 := (kW v LF (zup W1 ((LF 4).toNat) (V idx)) W2 (zup W3 ((LF 4).toNat) (lkS CN NM (bSt (V idx)) (V (idx + 1)))) W4)) rfl rfl (Or.inl rfl) zj_X0_readSaying rfl rfl rfl (Nat.le_of_ble_eq_true rfl) rfl (zm_readSayingA (idx := (idx + 2)) ⟨hF6, hF1a, hF1b, hTs, hTk⟩ ip3 hI9) ⟨by decide, by decide, by decide, by decide⟩ (fun z9 Y9 hz => ?_)
            obtain ⟨sv9, R9, t9, F8e, rfl, hs9, hn99, hz, hsv, rfl⟩ := hz
            rcases hz with ⟨hr0, hfe, hR2⟩ | ⟨hr0, hfd⟩
            · subst hfe
              have tR := hTk R9.2 hR2
              refine zg_blk pok2 X 1 [18] (S' := (79, [(3, zI (V idx)), (0, zR (v 0)), (1, zR (a 2)), (2, zR (c 0))], [], ((tW a (FA K S V F R9.2) B K S V) ++ (cW c G CN NM MK TP PP CO KN) ++ (kW v LF (zup W1 ((LF 4).toNat) (V idx)) W2 (zup W3 ((LF 4).toNat) (lkS CN NM (bSt (V idx)) (V (idx + 1)))) (zup W4 ((LF 4).toNat) sv9))))) rfl ⟨rfl, rfl, (show zidx (LF 4) 40 from by unfold zidx; omega), trivial⟩ ?_
              refine zg_retv X hR rfl rfl (by decide) (by decide) ?_
              exact ⟨rfl, R9, t9, _, _, _, _, _, fun T => by unfold bAct; rw [if_pos (by omega), if_pos htd2, if_pos (by omega), hs9], hn99, Or.inl ⟨hr0, rfl, hR2⟩, rfl⟩
            · refine zg_blk pok2 X 1 [18] (S' := (79, [(3, zI (V idx)), (0, zR (v 0)), (1, zR (a 2)), (2, zR (c 0))], [], ((tW a F8e B K S V) ++ (cW c G CN NM MK TP PP CO KN) ++ (kW v LF (zup W1 ((LF 4).toNat) (V idx)) W2 (zup W3 ((LF 4).toNat) (lkS CN NM (bSt (V idx)) (V (idx + 1)))) (zup W4 ((LF 4).toNat) sv9))))) rfl ⟨rfl, rfl, (show zidx (LF 4) 40 from by unfold zidx; omega), trivial⟩ ?_
              refine zg_retv X hR rfl rfl (by decide) (by decide) ?_
              exact ⟨rfl, R9, t9, _, _, _, _, _, fun T => by unfold bAct; rw [if_pos (by omega), if_pos htd2, if_pos (by omega), hs9], hn99, Or.inr ⟨hr0, hfd⟩, rfl⟩
        · refine zg_blk pok2 X 2 [17] (S' := (56, [(3, zI (V idx)), (0, zR (v 0)), (1, zR (a 2)), (2, zR (c 0))], [zR (a 2)], ((tW a F8c B K S V) ++ (cW c G CN NM MK TP PP CO KN) ++ (kW v LF (zup W1 ((LF 4).toNat) (V idx)) W2 (zup W3 ((LF 4).toNat) (-1)) W4)))) rfl ⟨rfl, rfl, (show zidx (LF 4) 40 from by unfold zidx; omega), trivial⟩ ?_
          refine zg_callV pok2 EWX_ok X 2 (vas := []) (vr := []) (Y1 := (tW a F8c B K S V)) (Y2 := ((cW c G CN NM MK TP PP CO KN) ++ (kW v LF (zup W1 ((LF 4).toNat) (V idx)) W2 (zup W3 ((LF 4).toNat) (-1)) W4))) rfl rfl (Or.inl rfl) zj_X10_step rfl rfl rfl rfl (Nat.le_of_ble_eq_true rfl) rfl (zm_stepX hfd) ⟨by decide, by decide, by decide, by decide⟩ (fun z9 Y9 hz => ?_)
          obtain ⟨rfl, rfl⟩ := hz
          refine zg_blk pok2 X 2 [] (S' := (62, [(3, zI (V idx)), (0, zR (v 0)), (1, zR (a 2)), (2, zR (c 0))], [zI 12, zI (V idx)], ((tW a F8c B K S V) ++ (cW c G CN NM MK TP PP CO KN) ++ (kW v LF (zup W1 ((LF 4).toNat) (V idx)) W2 (zup W3 ((LF 4).toNat) (-1)) W4)))) rfl trivial ?_
          refine zg_icmp X 79 rfl rfl (by unfold zin; omega) (by unfold zin; omega) (fun g4 => ?_) (fun g4 => ?_)
          · simp only [x_cnd] at g4
            refine zg_retv X hR rfl rfl (by decide) (by decide) ?_
            exact ⟨rfl, (tdF K V CN NM (bSt (V idx)) (idx + 1), idx + 1), 0, _, _, _, _, _, fun T => by unfold bAct; rw [if_pos (by omega), if_neg htd2], td_99, Or.inr ⟨htd2, hfd⟩, rfl⟩
          · simp only [x_ncd] at g4
            refine zg_blk pok2 X 6 [14, 14] (S' := (75, [(3, zI (V idx)), (0, zR (v 0)), (1, zR (a 2)), (2, zR (c 0))], [zR (c 0), zR (a 2), zI (LF 4), zR (v 4)], ((tW a F8c B K S V) ++ (cW c G CN NM MK TP PP CO KN) ++ (kW v LF (zup W1 ((LF 4).toNat) (V idx)) W2 (zup W3 ((LF 4).toNat) (-1)) W4)))) rfl ⟨rfl, rfl, trivial⟩ ?_
            refine zg_callS pok2 EWX_ok X (vas := [zR (a 2), zR (c 0)]) (vr := [zI (LF 4), zR (v 4)]) (Y1 := ((tW a F8c B K S V) ++ (cW c G CN NM MK TP PP CO KN))) (Y2 := (kW v LF (zup W1 ((LF 4).toNat) (V idx)) W2 (zup W3 ((LF 4).toNat) (-1)) W4)) rfl rfl (Or.inl rfl) zj_X0_readSaying rfl rfl rfl (Nat.le_of_ble_eq_true rfl) rfl (zm_readSayingX hfd) ⟨by decide, by decide, by decide, by decide⟩ (fun z9 Y9 hz => ?_)
            obtain ⟨rfl, F8d, hfd, rfl⟩ := hz
            refine zg_blk pok2 X 1 [18] (S' := (79, [(3, zI (V idx)), (0, zR (v 0)), (1, zR (a 2)), (2, zR (c 0))], [], ((tW a F8d B K S V) ++ (cW c G CN NM MK TP PP CO KN) ++ (kW v LF (zup W1 ((LF 4).toNat) (V idx)) W2 (zup W3 ((LF 4).toNat) (-1)) (zup W4 ((LF 4).toNat) 0))))) rfl ⟨rfl, rfl, (show zidx (LF 4) 40 from by unfold zidx; omega), trivial⟩ ?_
            refine zg_retv X hR rfl rfl (by decide) (by decide) ?_
            exact ⟨rfl, (tdF K V CN NM (bSt (V idx)) (idx + 1), idx + 1), 0, _, _, _, _, _, fun T => by unfold bAct; rw [if_pos (by omega), if_neg htd2], td_99, Or.inr ⟨htd2, hfd⟩, rfl⟩
      · simp only [x_ncd] at g2
        refine zg_blk pok2 X 2 [] (S' := (19, [(3, zI (V idx)), (0, zR (v 0)), (1, zR (a 2)), (2, zR (c 0))], [zI 1, zR (a 2)], ((tW a (FA K S V F idx) B K S V) ++ (cW c G CN NM MK TP PP CO KN) ++ (kW v LF W1 W2 W3 W4)))) rfl trivial ?_
        refine zg_callV pok2 EWX_ok X 2 (vas := [zI 1]) (vr := []) (Y1 := (tW a (FA K S V F idx) B K S V)) (Y2 := ((cW c G CN NM MK TP PP CO KN) ++ (kW v LF W1 W2 W3 W4))) rfl rfl (Or.inl rfl) zj_X10_fail rfl rfl rfl rfl (Nat.le_of_ble_eq_true rfl) rfl (zm_fail (F := (FA K S V F idx)) (show -2147483648 ≤ F 6 ∧ F 6 < 2147483648 by omega)) ⟨by decide, by decide, by decide, by decide⟩ (fun z9 Y9 hz => ?_)
        obtain ⟨rfl, rfl⟩ := hz
        have hfd := FA_fail (K := K) (S := S) (V := V) (F := F) (idx := idx) (m := 1) hF6 (by decide) (by decide)
        refine zg_retv X hR rfl rfl (by decide) (by decide) ?_
        exact ⟨rfl, (1, idx), 0, _, _, _, _, _, fun T => by unfold bAct; rw [if_neg (by omega)], show ¬ (1 : Int) = 99 by decide, Or.inr ⟨show ¬ (1 : Int) = 0 by decide, hfd⟩, rfl⟩
  · refine zg_blk pok2 X 3 [] (S' := (8, [(3, zI (-1)), (0, zR (v 0)), (1, zR (a 2)), (2, zR (c 0))], [zI 11, zI (-1)], ((tW a (FA K S V F idx) B K S V) ++ (cW c G CN NM MK TP PP CO KN) ++ (kW v LF W1 W2 W3 W4)))) rfl trivial ?_
    refine zg_icmp X 17 rfl rfl (by unfold zin; omega) (by unfold zin; omega) (fun g5 => ?_) (fun g5 => ?_)
    · simp only [x_cnd] at g5
      refine zg_blk pok2 X 2 [] (S' := (19, [(3, zI (-1)), (0, zR (v 0)), (1, zR (a 2)), (2, zR (c 0))], [zI 1, zR (a 2)], ((tW a (FA K S V F idx) B K S V) ++ (cW c G CN NM MK TP PP CO KN) ++ (kW v LF W1 W2 W3 W4)))) rfl trivial ?_
      refine zg_callV pok2 EWX_ok X 2 (vas := [zI 1]) (vr := []) (Y1 := (tW a (FA K S V F idx) B K S V)) (Y2 := ((cW c G CN NM MK TP PP CO KN) ++ (kW v LF W1 W2 W3 W4))) rfl rfl (Or.inl rfl) zj_X10_fail rfl rfl rfl rfl (Nat.le_of_ble_eq_true rfl) rfl (zm_fail (F := (FA K S V F idx)) (show -2147483648 ≤ F 6 ∧ F 6 < 2147483648 by omega)) ⟨by decide, by decide, by decide, by decide⟩ (fun z9 Y9 hz => ?_)
      obtain ⟨rfl, rfl⟩ := hz
      have hfd := FA_fail (K := K) (S := S) (V := V) (F := F) (idx := idx) (m := 1) hF6 (by decide) (by decide)
      refine zg_retv X hR rfl rfl (by decide) (by decide) ?_
      exact ⟨rfl, (1, idx), 0, _, _, _, _, _, fun T => by unfold bAct; rw [if_neg (by omega)], show ¬ (1 : Int) = 99 by decide, Or.inr ⟨show ¬ (1 : Int) = 0 by decide, hfd⟩, rfl⟩
    · exact absurd (show (11 : Int) ≤ (-1 : Int) from g5) (by decide)
set_option maxHeartbeats 8000000 in
set_option maxRecDepth 4000 in
theorem zm_readLineB (hT : TT F K S V) (hi : (idx : Int) < F 1) (hI : INV CN NM x) (hL : LF 4 = (n : Int)) (hn : n ≤ 40) : ZMet (EWX xs) D cy l ex mt2_X0_readLine (4, 0, 0, 94) (tW a (FA K S V F idx) B K S V ++ cW c G CN NM MK TP PP CO KN ++ kW v LF W1 W2 W3 W4) [zR (v 0), zR (a 2), zR (c 0)] (fun z Y => z = none ∧ ∃ (R : Int × Nat) (t0 : Nat) (F9 LF9 W1 W2 W3 W4 : Nat → Int), (∀ T, bLine K V CN NM (T + t0) n idx = R) ∧ ¬ R.1 = 99 ∧ kM K S V F R F9 ∧ (0 ≤ LF9 4 ∧ LF9 4 ≤ 40) ∧ (R.1 = 0 → LF9 4 = (n : Int) + 1) ∧ Y = (tW a F9 B K S V ++ cW c G CN NM MK TP PP CO KN ++ kW v LF9 W1 W2 W3 W4)) := by
  obtain ⟨mok, tok, ow⟩ := pok2.1 _ _ zj_X0_readLine
  refine met_ofz EWX_ok mok tok ow (Nat.le_of_ble_eq_true rfl) (fun r p0 e0 s0 m0 ar0 be0 me0 c0 A0 Q0 X hR => ?_)
  have hI9 := hI
  obtain ⟨hF6, hF1a, hF1b, hTs, hTk⟩ := hT
  have t0 := hTk idx hi
  have hCN := hI.cn
  obtain ⟨hc0, hc1, hc2, hc3, hNM, hU, hx0, hx1⟩ := hI
  refine zg_blk pok2 X 2 [] (S' := (3, [(0, zR (v 0)), (1, zR (a 2)), (2, zR (c 0))], [zI 17, zR (a 2)], ((tW a (FA K S V F idx) B K S V) ++ (cW c G CN NM MK TP PP CO KN) ++ (kW v LF W1 W2 W3 W4)))) rfl trivial ?_
  refine zg_callV pok2 EWX_ok X 2 (vas := [zI 17]) (vr := []) (Y1 := (tW a (FA K S V F idx) B K S V)) (Y2 := ((cW c G CN NM MK TP PP CO KN) ++ (kW v LF W1 W2 W3 W4))) rfl rfl (Or.inl rfl) zj_X10_isWord rfl rfl rfl rfl (Nat.le_of_ble_eq_true rfl) rfl (zm_isWordA (idx := idx) (by omega) ⟨hF6, hF1a, hF1b, hTs, hTk⟩ hi) ⟨by decide, by decide, by decide, by decide⟩ (fun z9 Y9 hz => ?_)
  rcases hz with ⟨hw9, rfl, rfl⟩ | ⟨hw9, rfl, rfl⟩
  · have hw9 : K idx = 2 ∧ V idx = 17 := hw9
    refine zg_blk pok2 X 2 [] (S' := (8, [(3, zI 1), (0, zR (v 0)), (1, zR (a 2)), (2, zR (c 0))], [zI 1], ((tW a (FA K S V F idx) B K S V) ++ (cW c G CN NM MK TP PP CO KN) ++ (kW v LF W1 W2 W3 W4)))) rfl trivial ?_
    refine zg_if X 15 rfl rfl (by unfold zin; omega) (fun g1 => ?_) (fun g1 => ?_)
    · exact absurd (show (1 : Int) = (0 : Int) from g1) (by decide)
    · simp only [x_ncd] at g1
      refine zg_blk pok2 X 4 [] (S' := (24, [(4, zI (-1)), (3, zI 1), (0, zR (v 0)), (1, zR (a 2)), (2, zR (c 0))], [zI 1], ((tW a (FA K S V F idx) B K S V) ++ (cW c G CN NM MK TP PP CO KN) ++ (kW v LF W1 W2 W3 W4)))) rfl trivial ?_
      refine zg_if X 34 rfl rfl (by unfold zin; omega) (fun g2 => ?_) (fun g2 => ?_)
      · simp only [x_cnd] at g2
        refine zg_blk pok2 X 2 [14] (S' := (38, [(4, zI (-1)), (3, zI 1), (0, zR (v 0)), (1, zR (a 2)), (2, zR (c 0))], [zI (LF 4)], ((tW a (FA K S V F idx) B K S V) ++ (cW c G CN NM MK TP PP CO KN) ++ (kW v LF W1 W2 W3 W4)))) rfl ⟨rfl, trivial⟩ ?_
        refine zg_if X 50 rfl rfl (by unfold zin; omega) (fun g3 => ?_) (fun g3 => ?_)
        · simp only [x_cnd] at g3
          exfalso
          omega
        · simp only [x_ncd] at g3
          refine zg_blk pok2 X 3 [14] (S' := (47, [(4, zI (-1)), (3, zI 1), (0, zR (v 0)), (1, zR (a 2)), (2, zR (c 0))], [zI 40, zI (LF 4)], ((tW a (FA K S V F idx) B K S V) ++ (cW c G CN NM MK TP PP CO KN) ++ (kW v LF W1 W2 W3 W4)))) rfl ⟨rfl, trivial⟩ ?_
          refine zg_icmp X 56 rfl rfl (by unfold zin; omega) (by unfold zin; omega) (fun g4 => ?_) (fun g4 => ?_)
          · simp only [x_cnd] at g4
            refine zg_blk pok2 X 1 [] (S' := (57, [(4, zI (-1)), (3, zI 1), (0, zR (v 0)), (1, zR (a 2)), (2, zR (c 0))], [zR (a 2)], ((tW a (FA K S V F idx) B K S V) ++ (cW c G CN NM MK TP PP CO KN) ++ (kW v LF W1 W2 W3 W4)))) rfl trivial ?_
            refine zg_callV pok2 EWX_ok X 2 (vas := []) (vr := []) (Y1 := (tW a (FA K S V F idx) B K S V)) (Y2 := ((cW c G CN NM MK TP PP CO KN) ++ (kW v LF W1 W2 W3 W4))) rfl rfl (Or.inl rfl) zj_X10_step rfl rfl rfl rfl (Nat.le_of_ble_eq_true rfl) rfl (zm_step (F := (FA K S V F idx)) (show F 1 ≤ 941 by omega) (show -1 ≤ ((idx : Nat) : Int) ∧ ((idx : Nat) : Int) < 941 by omega) (show -2147483648 ≤ F 6 ∧ F 6 < 2147483648 by omega) (show 0 ≤ F 1 by omega)) ⟨by decide, by decide, by decide, by decide⟩ (fun z9 Y9 hz => ?_)
            obtain ⟨rfl, rfl⟩ := hz
            have ip1 : (((idx + 1) : Nat) : Int) < F 1 := by
              have h9 := hTs idx hi (by omega) (by omega)
              omega
            have tp1 := hTk (idx + 1) ip1
            rw [FA_step (idx := idx) hF6 (by omega)]
            refine zg_cv (S2 := (60, [(4, zI (-1)), (3, zI 1), (0, zR (v 0)), (1, zR (a 2)), (2, zR (c 0))], [], ((tW a (FA K S V F (idx + 1)) B K S V) ++ (cW c G CN NM MK TP PP CO KN) ++ (kW v LF W1 W2 W3 W4)))) rfl ?_
            refine zg_blk pok2 X 13 [14, 14, 16, 14, 14, 18] (S' := (82, [(4, zI (-1)), (3, zI 1), (0, zR (v 0)), (1, zR (a 2)), (2, zR (c 0))], [zI 1], ((tW a (FA K S V F (idx + 1)) B K S V) ++ (cW c G CN NM MK TP PP CO KN) ++ (kW v LF W1 (zup W2 ((LF 4).toNat) (-1)) W3 (zup W4 ((LF 4).toNat) 0))))) rfl ⟨rfl, rfl, rfl, rfl, (show zidx (LF 4) 40 from by unfold zidx; omega), rfl, rfl, rfl, rfl, (show zidx (LF 4) 40 from by unfold zidx; omega), trivial⟩ ?_
            refine zg_if X 115 rfl rfl (by unfold zin; omega) (fun g5 => ?_) (fun g5 => ?_)
            · exact absurd (show (1 : Int) = (0 : Int) from g5) (by decide)
            · simp only [x_ncd] at g5
              refine zg_blk pok2 X 13 [14, 14, 15, 14, 14] (S' := (108, [(4, zI (-1)), (3, zI 1), (0, zR (v 0)), (1, zR (a 2)), (2, zR (c 0))], [zI 60, zI 1, zR (a 2), zI (LF 4), zR (v 3)], ((tW a (FA K S V F (idx + 1)) B K S V) ++ (cW c G CN NM MK TP PP CO KN) ++ (kW v LF (zup W1 ((LF 4).toNat) 17) (zup W2 ((LF 4).toNat) (-1)) W3 (zup W4 ((LF 4).toNat) 0))))) rfl ⟨rfl, rfl, rfl, rfl, (show zidx (LF 4) 40 from by unfold zidx; omega), rfl, rfl, trivial⟩ ?_
              refine zg_callV pok2 EWX_ok X 2 (vas := [zI 1, zI 60]) (vr := [zI (LF 4), zR (v 3)]) (Y1 := (tW a (FA K S V F (idx + 1)) B K S V)) (Y2 := ((cW c G CN NM MK TP PP CO KN) ++ (kW v LF (zup W1 ((LF 4).toNat) 17) (zup W2 ((LF 4).toNat) (-1)) W3 (zup W4 ((LF 4).toNat) 0)))) rfl rfl (Or.inl rfl) zj_X10_takeNumber rfl rfl rfl rfl (Nat.le_of_ble_eq_true rfl) rfl (zm_takeNumberA (z1 := 1) (z2 := 60) (idx := (idx + 1)) (by omega) (by omega) ⟨hF6, hF1a, hF1b, hTs, hTk⟩ ip1) ⟨by decide, by decide, by decide, by decide⟩ (fun z9 Y9 hz => ?_)
              rcases hz with ⟨hnu, rfl, rfl⟩ | ⟨hnu, rfl, F8c, hfd, rfl⟩
              · have ip3 : (((idx + 2) : Nat) : Int) < F 1 := by
                  have h9 := hTs (idx + 1) ip1 (by have h9 := nm_ok hnu; omega) (by have h9 := nm_ok hnu; omega)
                  omega
                have tp3 := hTk (idx + 2) ip3
                refine zg_blk pok2 X 8 [17, 14, 14] (S' := (131, [(4, zI (-1)), (3, zI 1), (0, zR (v 0)), (1, zR (a 2)), (2, zR (c 0))], [], ((tW a (FA K S V F (idx + 2)) B K S V) ++ (cW c G CN NM MK TP PP CO KN) ++ (kW v (zup LF 4 ((LF 4) + 1)) (zup W1 ((LF 4).toNat) 17) (zup W2 ((LF 4).toNat) (-1)) (zup W3 ((LF 4).toNat) (V (idx + 1))) (zup W4 ((LF 4).toNat) 0))))) rfl ⟨rfl, rfl, (show zidx (LF 4) 40 from by unfold zidx; omega), rfl, rfl, rfl, rfl, trivial⟩ ?_
                refine zg_retv X hR rfl rfl (by decide) (by decide) ?_
                exact ⟨rfl, (0, idx + 2), 0, _, _, _, _, _, _, fun T => by rw [bLine_e, if_pos hw9, if_neg (by omega), if_pos hnu], show ¬ (0 : Int) = 99 by decide, Or.inl ⟨rfl, rfl, ip3⟩, by show 0 ≤ (LF 4) + 1 ∧ (LF 4) + 1 ≤ 40; omega, by intro h0; show (LF 4) + 1 = _; first | omega | (exact absurd h0 (by decide)), rfl⟩
              · refine zg_blk pok2 X 8 [17, 14, 14] (S' := (131, [(4, zI (-1)), (3, zI 1), (0, zR (v 0)), (1, zR (a 2)), (2, zR (c 0))], [], ((tW a F8c B K S V) ++ (cW c G CN NM MK TP PP CO KN) ++ (kW v (zup LF 4 ((LF 4) + 1)) (zup W1 ((LF 4).toNat) 17) (zup W2 ((LF 4).toNat) (-1)) (zup W3 ((LF 4).toNat) (-1)) (zup W4 ((LF 4).toNat) 0))))) rfl ⟨rfl, rfl, (show zidx (LF 4) 40 from by unfold zidx; omega), rfl, rfl, rfl, rfl, trivial⟩ ?_
                refine zg_retv X hR rfl rfl (by decide) (by decide) ?_
                exact ⟨rfl, (nmF K V 1 60 (idx + 1), idx + 1), 0, _, _, _, _, _, _, fun T => by rw [bLine_e, if_pos hw9, if_neg (by omega), if_neg hnu], nm_99, Or.inr ⟨hnu, hfd⟩, by show 0 ≤ (LF 4) + 1 ∧ (LF 4) + 1 ≤ 40; omega, by intro h0; show (LF 4) + 1 = _; first | omega | (exact absurd h0 (by decide)), rfl⟩
          · simp only [x_ncd] at g4
            refine zg_blk pok2 X 2 [] (S' := (52, [(4, zI (-1)), (3, zI 1), (0, zR (v 0)), (1, zR (a 2)), (2, zR (c 0))], [zI 4, zR (a 2)], ((tW a (FA K S V F idx) B K S V) ++ (cW c G CN NM MK TP PP CO KN) ++ (kW v LF W1 W2 W3 W4)))) rfl trivial ?_
            refine zg_callV pok2 EWX_ok X 2 (vas := [zI 4]) (vr := []) (Y1 := (tW a (FA K S V F idx) B K S V)) (Y2 := ((cW c G CN NM MK TP PP CO KN) ++ (kW v LF W1 W2 W3 W4))) rfl rfl (Or.inl rfl) zj_X10_fail rfl rfl rfl rfl (Nat.le_of_ble_eq_true rfl) rfl (zm_fail (F := (FA K S V F idx)) (show -2147483648 ≤ F 6 ∧ F 6 < 2147483648 by omega)) ⟨by decide, by decide, by decide, by decide⟩ (fun z9 Y9 hz => ?_)
            obtain ⟨rfl, rfl⟩ := hz
            have hfd := FA_fail (K := K) (S := S) (V := V) (F := F) (idx := idx) (m := 4) hF6 (by decide) (by decide)
            refine zg_retv X hR rfl rfl (by decide) (by decide) ?_
            exact ⟨rfl, (4, idx), 0, _, _, _, _, _, _, fun T => by rw [bLine_e, if_pos hw9, if_pos (by omega)], show ¬ (4 : Int) = 99 by decide, Or.inr ⟨show ¬ (4 : Int) = 0 by decide, hfd⟩, by show 0 ≤ LF 4 ∧ LF 4 ≤ 40; omega, by intro h0; show LF 4 = _; first | omega | (exact absurd h0 (by decide)), rfl⟩
      · exact absurd (show (1 : Int) = (0 : Int) from g2) (by decide)
  · have hw9 : ¬ (K idx = 2 ∧ V idx = 17) := hw9
    refine zg_blk pok2 X 2 [] (S' := (8, [(3, zI 0), (0, zR (v 0)), (1, zR (a 2)), (2, zR (c 0))], [zI 0], ((tW a (FA K S V F idx) B K S V) ++ (cW c G CN NM MK TP PP CO KN) ++ (kW v LF W1 W2 W3 W4)))) rfl trivial ?_
    refine zg_if X 15 rfl rfl (by unfold zin; omega) (fun g6 => ?_) (fun g6 => ?_)
    · simp only [x_cnd] at g6
      refine zg_blk pok2 X 3 [] (S' := (18, [(3, zI 0), (0, zR (v 0)), (1, zR (a 2)), (2, zR (c 0))], [zI 3, zR (a 2), zR (c 0)], ((tW a (FA K S V F idx) B K S V) ++ (cW c G CN NM MK TP PP CO KN) ++ (kW v LF W1 W2 W3 W4)))) rfl trivial ?_
      refine zg_callV pok2 EWX_ok X 6 (vas := [zR (a 2), zI 3]) (vr := []) (Y1 := ((tW a (FA K S V F idx) B K S V) ++ (cW c G CN NM MK TP PP CO KN))) (Y2 := (kW v LF W1 W2 W3 W4)) rfl rfl (Or.inl rfl) zj_X1_toldHere rfl rfl rfl rfl (Nat.le_of_ble_eq_true rfl) rfl (zm_toldHereA (sN := 3) (idx := idx) (by first | omega | exact bSt_lt) hCN hNM hU ⟨hF6, hF1a, hF1b, hTs, hTk⟩ hi) ⟨by decide, by decide, by decide, by decide⟩ (fun z9 Y9 hz => ?_)
      rcases hz with ⟨htd1, rfl, rfl⟩ | ⟨htd1, rfl, F8b, hfd, rfl⟩
      · have htk1 := (td_ne htd1).1
        have hlr1 := lkS_rng (NM := NM) (key := V idx) (hCN 3 (by first | omega | exact bSt_lt))
        refine zg_blk pok2 X 2 [] (S' := (24, [(4, zI (lkS CN NM 3 (V idx))), (3, zI 0), (0, zR (v 0)), (1, zR (a 2)), (2, zR (c 0))], [zI 0], ((tW a (FA K S V F idx) B K S V) ++ (cW c G CN NM MK TP PP CO KN) ++ (kW v LF W1 W2 W3 W4)))) rfl trivial ?_
        refine zg_if X 34 rfl rfl (by unfold zin; omega) (fun g7 => ?_) (fun g7 => ?_)
        · exact absurd (show ¬ (0 : Int) = (0 : Int) from g7) (by decide)
        · simp only [x_ncd] at g7
          refine zg_blk pok2 X 2 [] (S' := (30, [(4, zI (lkS CN NM 3 (V idx))), (3, zI 0), (0, zR (v 0)), (1, zR (a 2)), (2, zR (c 0))], [zI (-1), zI (lkS CN NM 3 (V idx))], ((tW a (FA K S V F idx) B K S V) ++ (cW c G CN NM MK TP PP CO KN) ++ (kW v LF W1 W2 W3 W4)))) rfl trivial ?_
          refine zg_icmp X 34 rfl rfl (by unfold zin; omega) (by unfold zin; omega) (fun g8 => ?_) (fun g8 => ?_)
          · simp only [x_cnd] at g8
            refine zg_blk pok2 X 2 [14] (S' := (38, [(4, zI (lkS CN NM 3 (V idx))), (3, zI 0), (0, zR (v 0)), (1, zR (a 2)), (2, zR (c 0))], [zI (LF 4)], ((tW a (FA K S V F idx) B K S V) ++ (cW c G CN NM MK TP PP CO KN) ++ (kW v LF W1 W2 W3 W4)))) rfl ⟨rfl, trivial⟩ ?_
            refine zg_if X 50 rfl rfl (by unfold zin; omega) (fun g9 => ?_) (fun g9 => ?_)
            · simp only [x_cnd] at g9
              exfalso
              omega
            · simp only [x_ncd] at g9
              refine zg_blk pok2 X 3 [14] (S' := (47, [(4, zI (lkS CN NM 3 (V idx))), (3, zI 0), (0, zR (v 0)), (1, zR (a 2)), (2, zR (c 0))], [zI 40, zI (LF 4)], ((tW a (FA K S V F idx) B K S V) ++ (cW c G CN NM MK TP PP CO KN) ++ (kW v LF W1 W2 W3 W4)))) rfl ⟨rfl, trivial⟩ ?_
              refine zg_icmp X 56 rfl rfl (by unfold zin; omega) (by unfold zin; omega) (fun g10 => ?_) (fun g10 => ?_)
              · simp only [x_cnd] at g10
                refine zg_blk pok2 X 1 [] (S' := (57, [(4, zI (lkS CN NM 3 (V idx))), (3, zI 0), (0, zR (v 0)), (1, zR (a 2)), (2, zR (c 0))], [zR (a 2)], ((tW a (FA K S V F idx) B K S V) ++ (cW c G CN NM MK TP PP CO KN) ++ (kW v LF W1 W2 W3 W4)))) rfl trivial ?_
                refine zg_callV pok2 EWX_ok X 2 (vas := []) (vr := []) (Y1 := (tW a (FA K S V F idx) B K S V)) (Y2 := ((cW c G CN NM MK TP PP CO KN) ++ (kW v LF W1 W2 W3 W4))) rfl rfl (Or.inl rfl) zj_X10_step rfl rfl rfl rfl (Nat.le_of_ble_eq_true rfl) rfl (zm_step (F := (FA K S V F idx)) (show F 1 ≤ 941 by omega) (show -1 ≤ ((idx : Nat) : Int) ∧ ((idx : Nat) : Int) < 941 by omega) (show -2147483648 ≤ F 6 ∧ F 6 < 2147483648 by omega) (show 0 ≤ F 1 by omega)) ⟨by decide, by decide, by decide, by decide⟩ (fun z9 Y9 hz => ?_)
                obtain ⟨rfl, rfl⟩ := hz
                have ip2 : (((idx + 1) : Nat) : Int) < F 1 := by
                  have h9 := hTs idx hi (by omega) (by omega)
                  omega
                have tp2 := hTk (idx + 1) ip2
                rw [FA_step (idx := idx) hF6 (by omega)]
                refine zg_cv (S2 := (60, [(4, zI (lkS CN NM 3 (V idx))), (3, zI 0), (0, zR (v 0)), (1, zR (a 2)), (2, zR (c 0))], [], ((tW a (FA K S V F (idx + 1)) B K S V) ++ (cW c G CN NM MK TP PP CO KN) ++ (kW v LF W1 W2 W3 W4)))) rfl ?_
                refine zg_blk pok2 X 13 [14, 14, 16, 14, 14, 18] (S' := (82, [(4, zI (lkS CN NM 3 (V idx))), (3, zI 0), (0, zR (v 0)), (1, zR (a 2)), (2, zR (c 0))], [zI 0], ((tW a (FA K S V F (idx + 1)) B K S V) ++ (cW c G CN NM MK TP PP CO KN) ++ (kW v LF W1 (zup W2 ((LF 4).toNat) (lkS CN NM 3 (V idx))) W3 (zup W4 ((LF 4).toNat) 0))))) rfl ⟨rfl, rfl, rfl, rfl, (show zidx (LF 4) 40 from by unfold zidx; omega), rfl, rfl, rfl, rfl, (show zidx (LF 4) 40 from by unfold zidx; omega), trivial⟩ ?_
                refine zg_if X 115 rfl rfl (by unfold zin; omega) (fun g11 => ?_) (fun g11 => ?_)
                · simp only [x_cnd] at g11
                  refine zg_blk pok2 X 3 [] (S' := (118, [(4, zI (lkS CN NM 3 (V idx))), (3, zI 0), (0, zR (v 0)), (1, zR (a 2)), (2, zR (c 0))], [zR (c 0), zR (a 2), zR (v 0)], ((tW a (FA K S V F (idx + 1)) B K S V) ++ (cW c G CN NM MK TP PP CO KN) ++ (kW v LF W1 (zup W2 ((LF 4).toNat) (lkS CN NM 3 (V idx))) W3 (zup W4 ((LF 4).toNat) 0))))) rfl trivial ?_
                  refine zg_callV pok2 EWX_ok X 14 (vas := [zR (a 2), zR (c 0)]) (vr := []) (Y1 := ((tW a (FA K S V F (idx + 1)) B K S V) ++ (cW c G CN NM MK TP PP CO KN) ++ (kW v LF W1 (zup W2 ((LF 4).toNat) (lkS CN NM 3 (V idx))) W3 (zup W4 ((LF 4).toNat) 0)))) (Y2 := []) rfl rfl (Or.inl rfl) zj_X0_readAct rfl rfl rfl rfl (Nat.le_of_ble_eq_true rfl) rfl (zm_readAct (idx := (idx + 1)) (LF := LF) ⟨hF6, hF1a, hF1b, hTs, hTk⟩ ip2 hI9 (by omega)) ⟨by decide, by decide, by decide, by decide⟩ (fun z9 Y9 hz => ?_)
                  obtain ⟨rfl, R9, t9, F8d, W1b, W2b, W3b, W4b, hs9, hn99, hz, rfl⟩ := hz
                  rcases hz with ⟨hr0, hfe, hR2⟩ | ⟨hr0, hfd⟩
                  · subst hfe
                    have tR := hTk R9.2 hR2
                    refine zg_blk pok2 X 6 [14, 14] (S' := (131, [(4, zI (lkS CN NM 3 (V idx))), (3, zI 0), (0, zR (v 0)), (1, zR (a 2)), (2, zR (c 0))], [], ((tW a (FA K S V F R9.2) B K S V) ++ (cW c G CN NM MK TP PP CO KN) ++ (kW v (zup LF 4 ((LF 4) + 1)) W1b W2b W3b W4b)))) rfl ⟨rfl, rfl, rfl, rfl, trivial⟩ ?_
                    refine zg_retv X hR rfl rfl (by decide) (by decide) ?_
                    exact ⟨rfl, R9, t9, _, _, _, _, _, _, fun T => by rw [bLine_e, if_neg hw9, if_pos htd1, if_neg (by omega), hs9], hn99, Or.inl ⟨hr0, rfl, hR2⟩, by show 0 ≤ (LF 4) + 1 ∧ (LF 4) + 1 ≤ 40; omega, by intro h0; show (LF 4) + 1 = _; first | omega | (exact absurd h0 (by decide)), rfl⟩
                  · refine zg_blk pok2 X 6 [14, 14] (S' := (131, [(4, zI (lkS CN NM 3 (V idx))), (3, zI 0), (0, zR (v 0)), (1, zR (a 2)), (2, zR (c 0))], [], ((tW a F8d B K S V) ++ (cW c G CN NM MK TP PP CO KN) ++ (kW v (zup LF 4 ((LF 4) + 1)) W1b W2b W3b W4b)))) rfl ⟨rfl, rfl, rfl, rfl, trivial⟩ ?_
                    refine zg_retv X hR rfl rfl (by decide) (by decide) ?_
                    exact ⟨rfl, R9, t9, _, _, _, _, _, _, fun T => by rw [bLine_e, if_neg hw9, if_pos htd1, if_neg (by omega), hs9], hn99, Or.inr ⟨hr0, hfd⟩, by show 0 ≤ (LF 4) + 1 ∧ (LF 4) + 1 ≤ 40; omega, by intro h0; show (LF 4) + 1 = _; first | omega | (exact absurd h0 (by decide)), rfl⟩
                · exact absurd (show ¬ (0 : Int) = (0 : Int) from g11) (by decide)
              · simp only [x_ncd] at g10
                refine zg_blk pok2 X 2 [] (S' := (52, [(4, zI (lkS CN NM 3 (V idx))), (3, zI 0), (0, zR (v 0)), (1, zR (a 2)), (2, zR (c 0))], [zI 4, zR (a 2)], ((tW a (FA K S V F idx) B K S V) ++ (cW c G CN NM MK TP PP CO KN) ++ (kW v LF W1 W2 W3 W4)))) rfl trivial ?_
                refine zg_callV pok2 EWX_ok X 2 (vas := [zI 4]) (vr := []) (Y1 := (tW a (FA K S V F idx) B K S V)) (Y2 := ((cW c G CN NM MK TP PP CO KN) ++ (kW v LF W1 W2 W3 W4))) rfl rfl (Or.inl rfl) zj_X10_fail rfl rfl rfl rfl (Nat.le_of_ble_eq_true rfl) rfl (zm_fail (F := (FA K S V F idx)) (show -2147483648 ≤ F 6 ∧ F 6 < 2147483648 by omega)) ⟨by decide, by decide, by decide, by decide⟩ (fun z9 Y9 hz => ?_)
                obtain ⟨rfl, rfl⟩ := hz
                have hfd := FA_fail (K := K) (S := S) (V := V) (F := F) (idx := idx) (m := 4) hF6 (by decide) (by decide)
                refine zg_retv X hR rfl rfl (by decide) (by decide) ?_
                exact ⟨rfl, (4, idx), 0, _, _, _, _, _, _, fun T => by rw [bLine_e, if_neg hw9, if_pos htd1, if_pos (by omega)], show ¬ (4 : Int) = 99 by decide, Or.inr ⟨show ¬ (4 : Int) = 0 by decide, hfd⟩, by show 0 ≤ LF 4 ∧ LF 4 ≤ 40; omega, by intro h0; show LF 4 = _; first | omega | (exact absurd h0 (by decide)), rfl⟩
          · simp only [x_ncd] at g8
            exfalso
            have h9 := (td_ne htd1).2
            omega
      · refine zg_blk pok2 X 2 [] (S' := (24, [(4, zI (-1)), (3, zI 0), (0, zR (v 0)), (1, zR (a 2)), (2, zR (c 0))], [zI 0], ((tW a F8b B K S V) ++ (cW c G CN NM MK TP PP CO KN) ++ (kW v LF W1 W2 W3 W4)))) rfl trivial ?_
        refine zg_if X 34 rfl rfl (by unfold zin; omega) (fun g12 => ?_) (fun g12 => ?_)
        · exact absurd (show ¬ (0 : Int) = (0 : Int) from g12) (by decide)
        · simp only [x_ncd] at g12
          refine zg_blk pok2 X 2 [] (S' := (30, [(4, zI (-1)), (3, zI 0), (0, zR (v 0)), (1, zR (a 2)), (2, zR (c 0))], [zI (-1), zI (-1)], ((tW a F8b B K S V) ++ (cW c G CN NM MK TP PP CO KN) ++ (kW v LF W1 W2 W3 W4)))) rfl trivial ?_
          refine zg_icmp X 34 rfl rfl (by unfold zin; omega) (by unfold zin; omega) (fun g13 => ?_) (fun g13 => ?_)
          · exact absurd (show ¬ (-1 : Int) = (-1 : Int) from g13) (by decide)
          · simp only [x_ncd] at g13
            refine zg_retv X hR rfl rfl (by decide) (by decide) ?_
            exact ⟨rfl, (tdF K V CN NM 3 idx, idx), 0, _, _, _, _, _, _, fun T => by rw [bLine_e, if_neg hw9, if_neg htd1], td_99, Or.inr ⟨htd1, hfd⟩, by show 0 ≤ LF 4 ∧ LF 4 ≤ 40; omega, by intro h0; show LF 4 = _; first | omega | (exact absurd h0 (by decide)), rfl⟩
    · exact absurd (show ¬ (0 : Int) = (0 : Int) from g6) (by decide)
end BC9
