/-! the class reads a whole book (written by wip/p5/b3.py) -/
section BD9
variable {xs : Nat → Int32} {D : va_G} {cy : Nat → ClassId} {l : Launch} {ex : Nat → Nat} {a c v : Nat → Nat} {F B K S V G CN NM MK TP PP CO KN LF W1 W2 W3 W4 F1 : Nat → Int} {idx n : Nat} {x kd pl : Int} {Y0 : ZW}
set_option maxHeartbeats 8000000 in
set_option maxRecDepth 4000 in
theorem zm_readB (hT : TT F K S V) (hi : ((0 : Nat) : Int) < F 1) (hI : INV CN NM x) : ZMet (EWX xs) D cy l ex mt2_X0_read (5, 0, 0, 118) (tW a (FA K S V F 0) B K S V ++ cW c G CN NM MK TP PP CO KN ++ kW v LF W1 W2 W3 W4) [zR (v 0), zR (a 2), zR (c 0)] (fun z Y => z = none ∧ ∃ (R : Int × Nat) (t0 : Nat) (F9 LF9 W1 W2 W3 W4 : Nat → Int), (∀ T, bRun K V CN NM (T + t0) 0 0 = R) ∧ ¬ R.1 = 99 ∧ ((R.1 = 0 ∧ F9 6 = 0) ∨ (¬ R.1 = 0 ∧ fd F9 R.1 (S R.2))) ∧ Y = (tW a F9 B K S V ++ cW c G CN NM MK TP PP CO KN ++ kW v LF9 W1 W2 W3 W4)) := by
  obtain ⟨mok, tok, ow⟩ := pok2.1 _ _ zj_X0_read
  refine met_ofz EWX_ok mok tok ow (Nat.le_of_ble_eq_true rfl) (fun r p0 e0 s0 m0 ar0 be0 me0 c0 A0 Q0 X hR => ?_)
  obtain ⟨hF6, hF1a, hF1b, hTs, hTk⟩ := hT
  have t0 := hTk 0 hi
  have loop : ∀ (q i j : Nat) (LF W1 W2 W3 W4 : Nat → Int), (j : Int) < F 1 → LF 4 = (i : Int) → i ≤ 40 → 41 - i < q → (∀ (R9 : Int × Nat) (t9 : Nat), (∀ T, bRun K V CN NM (T + t9) i j = R9) → ∃ t0, ∀ T, bRun K V CN NM (T + t0) 0 0 = R9) → ZG D cy r mt2_X0_read p0 l e0 (rmR (5, 0, 0, 118)) s0 m0 ar0 be0 me0 c0 A0 Q0 0 0 (7, [(0, zR (v 0)), (1, zR (a 2)), (2, zR (c 0)), (3, zI (i : Int))], [], (tW a (FA K S V F j) B K S V ++ cW c G CN NM MK TP PP CO KN ++ kW v LF W1 W2 W3 W4)) := by
    intro q
    induction q with
    | zero => intro i j LF W1 W2 W3 W4 hj hLe hi40 hq; omega
    | succ q ih =>
      intro i j LF W1 W2 W3 W4 hj hLe hi40 hq hk
      have t0 := hTk j hj
      refine zg_blk pok2 X 2 [] (S' := (10, [(0, zR (v 0)), (1, zR (a 2)), (2, zR (c 0)), (3, zI (i : Int))], [zI 40, zI (i : Int)], ((tW a (FA K S V F j) B K S V) ++ (cW c G CN NM MK TP PP CO KN) ++ (kW v LF W1 W2 W3 W4)))) rfl trivial ?_
      refine zg_icmp X 38 rfl rfl (by first | (unfold zin; omega) | (have h9 := hfd.2.2.2.1; unfold zin; omega)) (by first | (unfold zin; omega) | (have h9 := hfd.2.2.2.1; unfold zin; omega)) (fun g1 => ?_) (fun g1 => ?_)
      · simp only [x_cnd] at g1
        exfalso
        omega
      · simp only [x_ncd] at g1
        refine zg_blk pok2 X 2 [2] (S' := (17, [(0, zR (v 0)), (1, zR (a 2)), (2, zR (c 0)), (3, zI (i : Int))], [zI (K j)], ((tW a (FA K S V F j) B K S V) ++ (cW c G CN NM MK TP PP CO KN) ++ (kW v LF W1 W2 W3 W4)))) rfl ⟨rfl, trivial⟩ ?_
        refine zg_if X 38 rfl rfl (by first | (unfold zin; omega) | (have h9 := hfd.2.2.2.1; unfold zin; omega)) (fun g2 => ?_) (fun g2 => ?_)
        · simp only [x_cnd] at g2
          refine zg_retv X hR rfl rfl (by decide) (by decide) ?_
          obtain ⟨t0, h0⟩ := hk (0, j) 1 (fun T => by rw [bRun_s, if_pos (by omega)])
          exact ⟨rfl, (0, j), t0, FA K S V F j, _, _, _, _, _, h0, show ¬ (0 : Int) = 99 by decide, Or.inl ⟨rfl, hF6⟩, rfl⟩
        · simp only [x_ncd] at g2
          have hK0 : ¬ K j = 0 := by omega
          refine zg_blk pok2 X 3 [] (S' := (23, [(0, zR (v 0)), (1, zR (a 2)), (2, zR (c 0)), (3, zI (i : Int))], [zR (c 0), zR (a 2), zR (v 0)], ((tW a (FA K S V F j) B K S V) ++ (cW c G CN NM MK TP PP CO KN) ++ (kW v LF W1 W2 W3 W4)))) rfl trivial ?_
          refine zg_callV pok2 EWX_ok X 14 (vas := [zR (a 2), zR (c 0)]) (vr := []) (Y1 := ((tW a (FA K S V F j) B K S V) ++ (cW c G CN NM MK TP PP CO KN) ++ (kW v LF W1 W2 W3 W4))) (Y2 := []) rfl rfl (Or.inl rfl) zj_X0_readLine rfl rfl rfl rfl (Nat.le_of_ble_eq_true rfl) rfl (zm_readLineB (idx := j) (n := i) ⟨hF6, hF1a, hF1b, hTs, hTk⟩ hj hI hLe (by omega)) ⟨by decide, by decide, by decide, by decide⟩ (fun z9 Y9 hz => ?_)
          obtain ⟨rfl, R1, t1, F8l, LFb, W1b, W2b, W3b, W4b, hs1, hn1, hz, hLr, hLn, rfl⟩ := hz
          rcases hz with ⟨hr0, hfe, hR2⟩ | ⟨hr0, hfd⟩
          · subst hfe
            have tR := hTk R1.2 hR2
            refine zg_blk pok2 X 2 [] (S' := (29, [(0, zR (v 0)), (1, zR (a 2)), (2, zR (c 0)), (3, zI (i : Int))], [zI 59, zR (a 2)], ((tW a (FA K S V F R1.2) B K S V) ++ (cW c G CN NM MK TP PP CO KN) ++ (kW v LFb W1b W2b W3b W4b)))) rfl trivial ?_
            refine zg_callV pok2 EWX_ok X 2 (vas := [zI 59]) (vr := []) (Y1 := (tW a (FA K S V F R1.2) B K S V)) (Y2 := ((cW c G CN NM MK TP PP CO KN) ++ (kW v LFb W1b W2b W3b W4b))) rfl rfl (Or.inl rfl) zj_X10_takeSign rfl rfl rfl rfl (Nat.le_of_ble_eq_true rfl) rfl (zm_takeSignA (z1 := 59) (idx := R1.2) (by omega) ⟨hF6, hF1a, hF1b, hTs, hTk⟩ hR2) ⟨by decide, by decide, by decide, by decide⟩ (fun z9 Y9 hz => ?_)
            rcases hz with ⟨rfl, ⟨hsg, rfl⟩ | ⟨hsg, F7c, hfd, rfl⟩⟩
            · have ipS : ((((R1.2 + 1) : Nat)) : Int) < F 1 := by
                have h9 := hTs R1.2 hR2 (by omega) (by omega)
                omega
              refine zg_blk pok2 X 2 [] (S' := (7, [(3, zI ((i : Int) + 1)), (0, zR (v 0)), (1, zR (a 2)), (2, zR (c 0))], [], ((tW a (FA K S V F (R1.2 + 1)) B K S V) ++ (cW c G CN NM MK TP PP CO KN) ++ (kW v LFb W1b W2b W3b W4b)))) rfl trivial ?_
              have hLb : LFb 4 = ((i + 1 : Nat) : Int) := by
                have h9 := hLn hr0
                omega
              have ih9 := ih (i + 1) (R1.2 + 1) LFb W1b W2b W3b W4b ipS hLb (by have h9 := hLr.2; omega) (by omega) (fun R9 t9 h9 => hk R9 (t9 + t1 + 1) (fun T => by
                rw [show T + (t9 + t1 + 1) = ((T + t9) + t1) + 1 by omega, bRun_s, if_neg hK0, hs1 (T + t9), if_pos hr0, if_pos hsg, show (T + t9) + t1 = (T + t1) + t9 by omega]
                exact h9 _))
              rw [show (((i + 1 : Nat)) : Int) = (i : Int) + 1 by omega] at ih9
              refine zg_lv _ ?_ ih9
              intro q hq
              simp only [List.mem_cons, List.not_mem_nil, or_false] at hq ⊢
              rcases hq with rfl | rfl | rfl | rfl <;> simp
            · refine zg_blk pok2 X 2 [] (S' := (7, [(3, zI ((i : Int) + 1)), (0, zR (v 0)), (1, zR (a 2)), (2, zR (c 0))], [], ((tW a F7c B K S V) ++ (cW c G CN NM MK TP PP CO KN) ++ (kW v LFb W1b W2b W3b W4b)))) rfl trivial ?_
              refine zg_blk pok2 X 2 [] (S' := (10, [(3, zI ((i : Int) + 1)), (0, zR (v 0)), (1, zR (a 2)), (2, zR (c 0))], [zI 40, zI ((i : Int) + 1)], ((tW a F7c B K S V) ++ (cW c G CN NM MK TP PP CO KN) ++ (kW v LFb W1b W2b W3b W4b)))) rfl trivial ?_
              refine zg_icmp X 38 rfl rfl (by first | (unfold zin; omega) | (have h9 := hfd.2.2.2.1; unfold zin; omega)) (by first | (unfold zin; omega) | (have h9 := hfd.2.2.2.1; unfold zin; omega)) (fun g51 => ?_) (fun g51 => ?_)
              · simp only [x_cnd] at g51
                refine zg_retv X hR rfl rfl (by decide) (by decide) ?_
                obtain ⟨t0, h0⟩ := hk (1, R1.2) (t1 + 1) (fun T => by rw [← Nat.add_assoc, bRun_s, if_neg hK0, hs1 T, if_pos hr0, if_neg hsg])
                exact ⟨rfl, (1, R1.2), t0, _, _, _, _, _, _, h0, show ¬ (1 : Int) = 99 by decide, Or.inr ⟨show ¬ (1 : Int) = 0 by decide, hfd⟩, rfl⟩
              · simp only [x_ncd] at g51
                refine zg_blk pok2 X 2 [2] (S' := (17, [(3, zI ((i : Int) + 1)), (0, zR (v 0)), (1, zR (a 2)), (2, zR (c 0))], [zI (F7c 3)], ((tW a F7c B K S V) ++ (cW c G CN NM MK TP PP CO KN) ++ (kW v LFb W1b W2b W3b W4b)))) rfl ⟨rfl, trivial⟩ ?_
                refine zg_if X 38 rfl rfl (by first | (unfold zin; omega) | (have h9 := hfd.2.2.2.1; unfold zin; omega)) (fun g52 => ?_) (fun g52 => ?_)
                · simp only [x_cnd] at g52
                  refine zg_retv X hR rfl rfl (by decide) (by decide) ?_
                  obtain ⟨t0, h0⟩ := hk (1, R1.2) (t1 + 1) (fun T => by rw [← Nat.add_assoc, bRun_s, if_neg hK0, hs1 T, if_pos hr0, if_neg hsg])
                  exact ⟨rfl, (1, R1.2), t0, _, _, _, _, _, _, h0, show ¬ (1 : Int) = 99 by decide, Or.inr ⟨show ¬ (1 : Int) = 0 by decide, hfd⟩, rfl⟩
                · simp only [x_ncd] at g52
                  exfalso
                  have h9 := hfd.2.2.2.1
                  omega
          · refine zg_blk pok2 X 2 [] (S' := (29, [(0, zR (v 0)), (1, zR (a 2)), (2, zR (c 0)), (3, zI (i : Int))], [zI 59, zR (a 2)], ((tW a F8l B K S V) ++ (cW c G CN NM MK TP PP CO KN) ++ (kW v LFb W1b W2b W3b W4b)))) rfl trivial ?_
            refine zg_callV pok2 EWX_ok X 2 (vas := [zI 59]) (vr := []) (Y1 := (tW a F8l B K S V)) (Y2 := ((cW c G CN NM MK TP PP CO KN) ++ (kW v LFb W1b W2b W3b W4b))) rfl rfl (Or.inl rfl) zj_X10_takeSign rfl rfl rfl rfl (Nat.le_of_ble_eq_true rfl) rfl (zm_takeSignX (z1 := 59) hfd (by omega)) ⟨by decide, by decide, by decide, by decide⟩ (fun z9 Y9 hz => ?_)
            obtain ⟨rfl, F7c, hfd, rfl⟩ := hz
            refine zg_blk pok2 X 2 [] (S' := (7, [(3, zI ((i : Int) + 1)), (0, zR (v 0)), (1, zR (a 2)), (2, zR (c 0))], [], ((tW a F7c B K S V) ++ (cW c G CN NM MK TP PP CO KN) ++ (kW v LFb W1b W2b W3b W4b)))) rfl trivial ?_
            refine zg_blk pok2 X 2 [] (S' := (10, [(3, zI ((i : Int) + 1)), (0, zR (v 0)), (1, zR (a 2)), (2, zR (c 0))], [zI 40, zI ((i : Int) + 1)], ((tW a F7c B K S V) ++ (cW c G CN NM MK TP PP CO KN) ++ (kW v LFb W1b W2b W3b W4b)))) rfl trivial ?_
            refine zg_icmp X 38 rfl rfl (by first | (unfold zin; omega) | (have h9 := hfd.2.2.2.1; unfold zin; omega)) (by first | (unfold zin; omega) | (have h9 := hfd.2.2.2.1; unfold zin; omega)) (fun g51 => ?_) (fun g51 => ?_)
            · simp only [x_cnd] at g51
              refine zg_retv X hR rfl rfl (by decide) (by decide) ?_
              obtain ⟨t0, h0⟩ := hk R1 (t1 + 1) (fun T => by rw [← Nat.add_assoc, bRun_s, if_neg hK0, hs1 T, if_neg hr0])
              exact ⟨rfl, R1, t0, _, _, _, _, _, _, h0, hn1, Or.inr ⟨hr0, hfd⟩, rfl⟩
            · simp only [x_ncd] at g51
              refine zg_blk pok2 X 2 [2] (S' := (17, [(3, zI ((i : Int) + 1)), (0, zR (v 0)), (1, zR (a 2)), (2, zR (c 0))], [zI (F7c 3)], ((tW a F7c B K S V) ++ (cW c G CN NM MK TP PP CO KN) ++ (kW v LFb W1b W2b W3b W4b)))) rfl ⟨rfl, trivial⟩ ?_
              refine zg_if X 38 rfl rfl (by first | (unfold zin; omega) | (have h9 := hfd.2.2.2.1; unfold zin; omega)) (fun g52 => ?_) (fun g52 => ?_)
              · simp only [x_cnd] at g52
                refine zg_retv X hR rfl rfl (by decide) (by decide) ?_
                obtain ⟨t0, h0⟩ := hk R1 (t1 + 1) (fun T => by rw [← Nat.add_assoc, bRun_s, if_neg hK0, hs1 T, if_neg hr0])
                exact ⟨rfl, R1, t0, _, _, _, _, _, _, h0, hn1, Or.inr ⟨hr0, hfd⟩, rfl⟩
              · simp only [x_ncd] at g52
                exfalso
                have h9 := hfd.2.2.2.1
                omega
  refine zg_blk pok2 X 5 [14] (S' := (7, [(3, zI 0), (0, zR (v 0)), (1, zR (a 2)), (2, zR (c 0))], [], ((tW a (FA K S V F 0) B K S V) ++ (cW c G CN NM MK TP PP CO KN) ++ (kW v (zup LF 4 0) W1 W2 W3 W4)))) rfl ⟨rfl, rfl, rfl, trivial⟩ ?_
  have l9 := loop 100 0 0 (zup LF 4 0) W1 W2 W3 W4 hi rfl (by decide) (by decide) (fun R9 t9 h9 => ⟨t9, h9⟩)
  refine zg_lv _ ?_ l9
  intro q hq
  simp only [List.mem_cons, List.not_mem_nil, or_false] at hq ⊢
  rcases hq with rfl | rfl | rfl | rfl <;> simp

end BD9
