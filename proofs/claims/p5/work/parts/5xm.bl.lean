/-! the reference: a line of a book (written by wip/p5/b6.py) -/
section BR9
variable {xs : Nat → Int32} {D : va_G} {cy : Nat → ClassId} {l : Launch} {ex : Nat → Nat} {m : Nat → Nat} {F B SS HH NR RV RD ST P K S V CN NM : Nat → Int} {j k n t : Nat} {x : Int} {R : Int × Nat}
set_option maxRecDepth 4000 in
theorem zj_X12_bookLine : PR2[93]? = some mt2_X12_bookLine := rfl
set_option maxHeartbeats 8000000 in
set_option maxRecDepth 4000 in
theorem zr_blT11 {F1 : Nat → Int} {z1 z3 : Int} (hH0 : RH B P K S V RV k F1) (hA0 : rAt P K S V F1 j) (hj0 : j ≤ k) (hRR : RK SS NR CN NM) (hI : INV CN NM x) (hRZ : ∀ q, zin64 (RV q)) (hFr : frB F F1) (hz1 : 0 ≤ z1 ∧ z1 ≤ 156) (hQ9 : bAct K V CN NM t j = R) (hR99 : ¬ R.1 = 99) (hcase : K j = 2 ∧ V j = 11) {r : va_W} {p0 : Program} {e0 : Env} {s0 : State} {m0 : MethodId} {ar0 : Array Value} {be0 : List Frame} {me0 : Method} {c0 : Code} {A0 : Nat → Prop} {Q0 : State → Prop} (X : Cx OW2 (EWX xs) D cy ex mt2_X12_bookLine (mY mt2_X12_bookLine).cls p0 (rmR (3, 0, 0, 68)) s0 m0 ar0 me0 c0 A0 (3, 0, 0, 68) 0 0) (hR : ZRet D cy r mt2_X12_bookLine p0 l e0 (rmR (3, 0, 0, 68)) s0 m0 ar0 be0 me0 c0 A0 Q0 (3, 0, 0, 68) (fun z Y => ∃ F9 RD9, Y = (rW m F9 B SS HH NR RV ++ qW m RD9 ST) ∧ kR P K S V F k R z F9)) : ZG D cy r mt2_X12_bookLine p0 l e0 (rmR (3, 0, 0, 68)) s0 m0 ar0 be0 me0 c0 A0 Q0 0 0 (183, [(3, zI z3), (2, zI 0), (1, zI z1), (0, zR (m 0))], [zI 0], ((rW m F1 B SS HH NR RV) ++ (qW m RD ST))) := by
  obtain ⟨e3, e5, e15, e40⟩ := hFr
  have hbs : bSt (V j) = 0 := by
    unfold bSt
    rw [if_pos (by omega)]
  refine zg_blk pok2 X 2 [] (S' := (187, [(4, zI 0), (3, zI z3), (2, zI 0), (1, zI z1), (0, zR (m 0))], [zI 0], ((rW m F1 B SS HH NR RV) ++ (qW m RD ST)))) rfl trivial ?_
  refine zg_if X 196 rfl rfl (by unfold zin; omega) (fun g1 => ?_) (fun g1 => ?_)
  · simp only [x_cnd] at g1
    refine zg_blk pok2 X 1 [] (S' := (197, [(4, zI 0), (3, zI z3), (2, zI 0), (1, zI z1), (0, zR (m 0))], [zR (m 0)], ((rW m F1 B SS HH NR RV) ++ (qW m RD ST)))) rfl trivial ?_
    have hj1 : j + 1 ≤ k := hH0.len hj0 (by omega) (by omega)
    refine zg_callV pok2 EWX_ok X 0 (vas := []) (vr := []) (Y1 := (rW m F1 B SS HH NR RV)) (Y2 := (qW m RD ST)) rfl rfl (Or.inl rfl) zj_X12_next rfl rfl rfl rfl (Nat.le_of_ble_eq_true rfl) rfl (zr_next (F := F1) hH0.1 hH0.2.1 (by have e4 := hA0.2.2 (by omega) (by omega); have hp := hH0.2.2.2.1.2.2.2.2.2 (j + 1) hj1; show 0 ≤ F1 4 ∧ F1 4 ≤ F1 3; omega) (by have h9 := hH0.2.2.1; show 0 ≤ F1 5 ∧ F1 5 ≤ 1000; omega)) ⟨by decide, by decide, by decide, by decide⟩ (fun z9 Y9 hz => ?_)
    obtain ⟨rfl, Fa, rfl, hrt, hfrt⟩ := hz
    have hA1 : rAt P K S V Fa (j + 1) := rnext_ok (F := F1) (j := j) hH0 hA0 hj1 (by omega) (by omega) hrt
    have hH1 : RH B P K S V RV k Fa := RH.fr2 hH0 (show Fa 3 = F1 3 from hfrt.fr4.1) (show Fa 5 = F1 5 from hfrt.fr4.2.1)
    have e3_Fa : Fa 3 = F1 3 := hfrt 3 (by decide) (by decide) (by decide) (by decide) (by decide) (by decide)
    have e5_Fa : Fa 5 = F1 5 := hfrt 5 (by decide) (by decide) (by decide) (by decide) (by decide) (by decide)
    have e15_Fa : Fa 15 = F1 15 := hfrt 15 (by decide) (by decide) (by decide) (by decide) (by decide) (by decide)
    have e18_Fa : Fa 18 = F1 18 := hfrt 18 (by decide) (by decide) (by decide) (by decide) (by decide) (by decide)
    have e40_Fa : Fa 40 = F1 40 := hfrt 40 (by decide) (by decide) (by decide) (by decide) (by decide) (by decide)
    refine zg_blk pok2 X 1 [] (S' := (202, [(4, zI 0), (3, zI z3), (2, zI 0), (1, zI z1), (0, zR (m 0))], [zI 0], ((rW m Fa B SS HH NR RV) ++ (qW m RD ST)))) rfl trivial ?_
    refine zg_if X 219 rfl rfl (by unfold zin; omega) (fun g2 => ?_) (fun g2 => ?_)
    · exact absurd (show ¬ (0 : Int) = (0 : Int) from g2) (by decide)
    · simp only [x_ncd] at g2
      refine zg_blk pok2 X 6 [0, 2] (S' := (213, [(4, zI 0), (3, zI z3), (2, zI 0), (1, zI z1), (0, zR (m 0))], [zI (SS 0), zI 0, zR (m 0)], ((rW m Fa B SS HH NR RV) ++ (qW m RD ST)))) rfl ⟨rfl, rfl, rfl, (show zidx 0 269 from by unfold zidx; omega), trivial⟩ ?_
      rw [show SS 0 = (((CN 0).toNat : Nat) : Int) by have h9 := hRR.1 0 (by omega); have h8 := hI.cn 0 (by omega); omega]
      refine zg_callV pok2 EWX_ok X 0 (vas := [zI 0, zI (((CN 0).toNat : Nat) : Int)]) (vr := []) (Y1 := (rW m Fa B SS HH NR RV)) (Y2 := (qW m RD ST)) rfl rfl (Or.inl rfl) zj_X12_takesName rfl rfl rfl rfl (Nat.le_of_ble_eq_true rfl) rfl (zr_takesName0 (sN := 0) (F := Fa) (j := (j + 1)) (by omega) hH1 hA1 hj1 hRR hI hRZ) ⟨by decide, by decide, by decide, by decide⟩ (fun z9 Y9 hz => ?_)
      rcases hz with ⟨hn1, rfl, Fb, rfl, hA2, hj2, hfr, h18⟩ | ⟨hn1, rfl, Fc, rfl, hb1⟩
      · have e3_Fb : Fb 3 = Fa 3 := by have h9 := hfr.1; show Fb 3 = Fa 3; omega
        have e5_Fb : Fb 5 = Fa 5 := by have h9 := hfr.2.1; show Fb 5 = Fa 5; omega
        have e15_Fb : Fb 15 = Fa 15 := by have h9 := hfr.2.2.1; show Fb 15 = Fa 15; omega
        have e40_Fb : Fb 40 = Fa 40 := by have h9 := hfr.2.2.2; show Fb 40 = Fa 40; omega
        have hH2 : RH B P K S V RV k Fb := RH.fr2 hH1 e3_Fb e5_Fb
        refine zg_blk pok2 X 3 [] (S' := (262, [(5, zI 1), (4, zI 0), (3, zI z3), (2, zI 0), (1, zI z1), (0, zR (m 0))], [zI 1], ((rW m Fb B SS HH NR RV) ++ (qW m RD ST)))) rfl trivial ?_
        refine zg_if X 267 rfl rfl (by unfold zin; omega) (fun g3 => ?_) (fun g3 => ?_)
        · simp only [x_cnd] at g3
          refine zg_blk pok2 X 22 [0, 6, 0, 6, 0, 0, 6] (S' := (299, [(5, zI 1), (4, zI 0), (3, zI z3), (2, zI 0), (1, zI z1), (0, zR (m 0))], [zI 1, zI 0], ((rW m Fb B SS HH NR RV) ++ (qW m (zup (zup (zup RD z1.toNat 0) ((z1 + 1).toNat) z3) ((z1 + 2).toNat) (Fb 18)) ST)))) rfl ⟨rfl, rfl, rfl, (show zidx z1 160 from by unfold zidx; omega), rfl, rfl, rfl, (show zidx (z1 + 1) 160 from by unfold zidx; omega), rfl, rfl, rfl, rfl, (show zidx (z1 + 2) 160 from by unfold zidx; omega), trivial⟩ ?_
          refine zg_icmp X 312 rfl rfl (by unfold zin; omega) (by unfold zin; omega) (fun g4 => ?_) (fun g4 => ?_)
          · simp only [x_cnd] at g4
            refine zg_blk pok2 X 2 [] (S' := (317, [(5, zI 1), (4, zI 0), (3, zI z3), (2, zI 0), (1, zI z1), (0, zR (m 0))], [zI 1], ((rW m Fb B SS HH NR RV) ++ (qW m (zup (zup (zup RD z1.toNat 0) ((z1 + 1).toNat) z3) ((z1 + 2).toNat) (Fb 18)) ST)))) rfl trivial ?_
            refine zg_retb X hR rfl rfl (by decide) (by decide) (by first | exact Or.inl rfl | exact Or.inr rfl) ?_
            have hR9 : R = (0, j + 2) := by
              rw [← hQ9]
              unfold bAct
              rw [if_pos (by omega), hbs, if_pos hn1, if_neg (by omega)]
            exact ⟨_, _, rfl, Or.inl ⟨by rw [hR9], rfl, by rw [hR9]; exact hA2, by rw [hR9]; exact hj2, ⟨by show Fb 3 = F 3; omega, by show Fb 5 = F 5; omega, by show Fb 15 = F 15; omega, by show Fb 40 = F 40; omega⟩⟩⟩
          · exact absurd (show (0 : Int) = (1 : Int) from g4) (by decide)
        · exact absurd (show (1 : Int) = (0 : Int) from g3) (by decide)
      · refine zg_blk pok2 X 3 [] (S' := (262, [(5, zI 0), (4, zI 0), (3, zI z3), (2, zI 0), (1, zI z1), (0, zR (m 0))], [zI 0], ((rW m Fc B SS HH NR RV) ++ (qW m RD ST)))) rfl trivial ?_
        refine zg_if X 267 rfl rfl (by unfold zin; omega) (fun g5 => ?_) (fun g5 => ?_)
        · exact absurd (show ¬ (0 : Int) = (0 : Int) from g5) (by decide)
        · simp only [x_ncd] at g5
          refine zg_blk pok2 X 1 [] (S' := (266, [(5, zI 0), (4, zI 0), (3, zI z3), (2, zI 0), (1, zI z1), (0, zR (m 0))], [zI 0], ((rW m Fc B SS HH NR RV) ++ (qW m RD ST)))) rfl trivial ?_
          refine zg_retb X hR rfl rfl (by decide) (by decide) (by first | exact Or.inl rfl | exact Or.inr rfl) ?_
          have hR9 : R = (tdF K V CN NM 0 (j + 1), j + 1) := by
            rw [← hQ9]
            unfold bAct
            rw [if_pos (by omega), hbs, if_neg hn1]
          exact ⟨_, _, rfl, Or.inr ⟨rfl, Or.inl ⟨by rw [hR9]; exact hn1, by rw [hR9]; exact hb1⟩⟩⟩
  · exact absurd (show (0 : Int) < (0 : Int) from g1) (by decide)
set_option maxHeartbeats 8000000 in
set_option maxRecDepth 4000 in
theorem zr_blT12 {F1 : Nat → Int} {z1 z3 : Int} (hH0 : RH B P K S V RV k F1) (hA0 : rAt P K S V F1 j) (hj0 : j ≤ k) (hRR : RK SS NR CN NM) (hI : INV CN NM x) (hRZ : ∀ q, zin64 (RV q)) (hFr : frB F F1) (hz1 : 0 ≤ z1 ∧ z1 ≤ 156) (hQ9 : bAct K V CN NM t j = R) (hR99 : ¬ R.1 = 99) (hcase : K j = 2 ∧ V j = 12) {r : va_W} {p0 : Program} {e0 : Env} {s0 : State} {m0 : MethodId} {ar0 : Array Value} {be0 : List Frame} {me0 : Method} {c0 : Code} {A0 : Nat → Prop} {Q0 : State → Prop} (X : Cx OW2 (EWX xs) D cy ex mt2_X12_bookLine (mY mt2_X12_bookLine).cls p0 (rmR (3, 0, 0, 68)) s0 m0 ar0 me0 c0 A0 (3, 0, 0, 68) 0 0) (hR : ZRet D cy r mt2_X12_bookLine p0 l e0 (rmR (3, 0, 0, 68)) s0 m0 ar0 be0 me0 c0 A0 Q0 (3, 0, 0, 68) (fun z Y => ∃ F9 RD9, Y = (rW m F9 B SS HH NR RV ++ qW m RD9 ST) ∧ kR P K S V F k R z F9)) : ZG D cy r mt2_X12_bookLine p0 l e0 (rmR (3, 0, 0, 68)) s0 m0 ar0 be0 me0 c0 A0 Q0 0 0 (183, [(3, zI z3), (2, zI 0), (1, zI z1), (0, zR (m 0))], [zI 1], ((rW m F1 B SS HH NR RV) ++ (qW m RD ST))) := by
  obtain ⟨e3, e5, e15, e40⟩ := hFr
  have hbs : bSt (V j) = 3 := by
    unfold bSt
    rw [if_neg (by omega), if_pos (by omega)]
  refine zg_blk pok2 X 2 [] (S' := (187, [(4, zI 1), (3, zI z3), (2, zI 0), (1, zI z1), (0, zR (m 0))], [zI 1], ((rW m F1 B SS HH NR RV) ++ (qW m RD ST)))) rfl trivial ?_
  refine zg_if X 196 rfl rfl (by unfold zin; omega) (fun g1 => ?_) (fun g1 => ?_)
  · simp only [x_cnd] at g1
    refine zg_blk pok2 X 1 [] (S' := (197, [(4, zI 1), (3, zI z3), (2, zI 0), (1, zI z1), (0, zR (m 0))], [zR (m 0)], ((rW m F1 B SS HH NR RV) ++ (qW m RD ST)))) rfl trivial ?_
    have hj1 : j + 1 ≤ k := hH0.len hj0 (by omega) (by omega)
    refine zg_callV pok2 EWX_ok X 0 (vas := []) (vr := []) (Y1 := (rW m F1 B SS HH NR RV)) (Y2 := (qW m RD ST)) rfl rfl (Or.inl rfl) zj_X12_next rfl rfl rfl rfl (Nat.le_of_ble_eq_true rfl) rfl (zr_next (F := F1) hH0.1 hH0.2.1 (by have e4 := hA0.2.2 (by omega) (by omega); have hp := hH0.2.2.2.1.2.2.2.2.2 (j + 1) hj1; show 0 ≤ F1 4 ∧ F1 4 ≤ F1 3; omega) (by have h9 := hH0.2.2.1; show 0 ≤ F1 5 ∧ F1 5 ≤ 1000; omega)) ⟨by decide, by decide, by decide, by decide⟩ (fun z9 Y9 hz => ?_)
    obtain ⟨rfl, Fa, rfl, hrt, hfrt⟩ := hz
    have hA1 : rAt P K S V Fa (j + 1) := rnext_ok (F := F1) (j := j) hH0 hA0 hj1 (by omega) (by omega) hrt
    have hH1 : RH B P K S V RV k Fa := RH.fr2 hH0 (show Fa 3 = F1 3 from hfrt.fr4.1) (show Fa 5 = F1 5 from hfrt.fr4.2.1)
    have e3_Fa : Fa 3 = F1 3 := hfrt 3 (by decide) (by decide) (by decide) (by decide) (by decide) (by decide)
    have e5_Fa : Fa 5 = F1 5 := hfrt 5 (by decide) (by decide) (by decide) (by decide) (by decide) (by decide)
    have e15_Fa : Fa 15 = F1 15 := hfrt 15 (by decide) (by decide) (by decide) (by decide) (by decide) (by decide)
    have e18_Fa : Fa 18 = F1 18 := hfrt 18 (by decide) (by decide) (by decide) (by decide) (by decide) (by decide)
    have e40_Fa : Fa 40 = F1 40 := hfrt 40 (by decide) (by decide) (by decide) (by decide) (by decide) (by decide)
    refine zg_blk pok2 X 1 [] (S' := (202, [(4, zI 1), (3, zI z3), (2, zI 0), (1, zI z1), (0, zR (m 0))], [zI 1], ((rW m Fa B SS HH NR RV) ++ (qW m RD ST)))) rfl trivial ?_
    refine zg_if X 219 rfl rfl (by unfold zin; omega) (fun g2 => ?_) (fun g2 => ?_)
    · simp only [x_cnd] at g2
      refine zg_blk pok2 X 2 [] (S' := (222, [(4, zI 1), (3, zI z3), (2, zI 0), (1, zI z1), (0, zR (m 0))], [zI 1, zI 1], ((rW m Fa B SS HH NR RV) ++ (qW m RD ST)))) rfl trivial ?_
      refine zg_icmp X 231 rfl rfl (by unfold zin; omega) (by unfold zin; omega) (fun g3 => ?_) (fun g3 => ?_)
      · simp only [x_cnd] at g3
        refine zg_blk pok2 X 6 [0, 2] (S' := (240, [(4, zI 1), (3, zI z3), (2, zI 0), (1, zI z1), (0, zR (m 0))], [zI (SS 3), zI 22, zR (m 0)], ((rW m Fa B SS HH NR RV) ++ (qW m RD ST)))) rfl ⟨rfl, rfl, rfl, (show zidx 3 269 from by unfold zidx; omega), trivial⟩ ?_
        rw [show SS 3 = (((CN 3).toNat : Nat) : Int) by have h9 := hRR.1 3 (by omega); have h8 := hI.cn 3 (by omega); omega]
        refine zg_callV pok2 EWX_ok X 0 (vas := [zI 22, zI (((CN 3).toNat : Nat) : Int)]) (vr := []) (Y1 := (rW m Fa B SS HH NR RV)) (Y2 := (qW m RD ST)) rfl rfl (Or.inl rfl) zj_X12_takesName rfl rfl rfl rfl (Nat.le_of_ble_eq_true rfl) rfl (zr_takesName0 (sN := 3) (F := Fa) (j := (j + 1)) (by omega) hH1 hA1 hj1 hRR hI hRZ) ⟨by decide, by decide, by decide, by decide⟩ (fun z9 Y9 hz => ?_)
        rcases hz with ⟨hn1, rfl, Fb, rfl, hA2, hj2, hfr, h18⟩ | ⟨hn1, rfl, Fc, rfl, hb1⟩
        · have e3_Fb : Fb 3 = Fa 3 := by have h9 := hfr.1; show Fb 3 = Fa 3; omega
          have e5_Fb : Fb 5 = Fa 5 := by have h9 := hfr.2.1; show Fb 5 = Fa 5; omega
          have e15_Fb : Fb 15 = Fa 15 := by have h9 := hfr.2.2.1; show Fb 15 = Fa 15; omega
          have e40_Fb : Fb 40 = Fa 40 := by have h9 := hfr.2.2.2; show Fb 40 = Fa 40; omega
          have hH2 : RH B P K S V RV k Fb := RH.fr2 hH1 e3_Fb e5_Fb
          refine zg_blk pok2 X 3 [] (S' := (262, [(5, zI 1), (4, zI 1), (3, zI z3), (2, zI 0), (1, zI z1), (0, zR (m 0))], [zI 1], ((rW m Fb B SS HH NR RV) ++ (qW m RD ST)))) rfl trivial ?_
          refine zg_if X 267 rfl rfl (by unfold zin; omega) (fun g4 => ?_) (fun g4 => ?_)
          · simp only [x_cnd] at g4
            refine zg_blk pok2 X 22 [0, 6, 0, 6, 0, 0, 6] (S' := (299, [(5, zI 1), (4, zI 1), (3, zI z3), (2, zI 0), (1, zI z1), (0, zR (m 0))], [zI 1, zI 1], ((rW m Fb B SS HH NR RV) ++ (qW m (zup (zup (zup RD z1.toNat 1) ((z1 + 1).toNat) z3) ((z1 + 2).toNat) (Fb 18)) ST)))) rfl ⟨rfl, rfl, rfl, (show zidx z1 160 from by unfold zidx; omega), rfl, rfl, rfl, (show zidx (z1 + 1) 160 from by unfold zidx; omega), rfl, rfl, rfl, rfl, (show zidx (z1 + 2) 160 from by unfold zidx; omega), trivial⟩ ?_
            refine zg_icmp X 312 rfl rfl (by unfold zin; omega) (by unfold zin; omega) (fun g5 => ?_) (fun g5 => ?_)
            · exact absurd (show ¬ (1 : Int) = (1 : Int) from g5) (by decide)
            · simp only [x_ncd] at g5
              refine zg_blk pok2 X 4 [] (S' := (306, [(5, zI 1), (4, zI 1), (3, zI z3), (2, zI 0), (1, zI z1), (0, zR (m 0))], [zI (z1 + 3), zR (m 0)], ((rW m Fb B SS HH NR RV) ++ (qW m (zup (zup (zup RD z1.toNat 1) ((z1 + 1).toNat) z3) ((z1 + 2).toNat) (Fb 18)) ST)))) rfl trivial ?_
              have hmk : bMk K V CN NM t 0 (j + 2) = R := by
                rw [← hQ9]
                unfold bAct
                rw [if_pos (by omega), hbs, if_pos hn1, if_pos (by omega)]
              refine zg_callV pok2 EWX_ok X 0 (vas := [zI (z1 + 3)]) (vr := []) (Y1 := ((rW m Fb B SS HH NR RV) ++ (qW m (zup (zup (zup RD z1.toNat 1) ((z1 + 1).toNat) z3) ((z1 + 2).toNat) (Fb 18)) ST))) (Y2 := []) rfl rfl (Or.inl rfl) zj_X12_takesMarks rfl rfl rfl rfl (Nat.le_of_ble_eq_true rfl) rfl (zr_takesMarks (F := Fb) (j := (j + 2)) (t := t) (R := R) hH2 hA2 hj2 hRR hI hRZ (by omega) hmk hR99) ⟨by decide, by decide, by decide, by decide⟩ (fun z9 Y9 hz => ?_)
              obtain ⟨Fd, RDm, rfl, hz⟩ := hz
              rcases hz with ⟨hr0, rfl, hAR, hRk, hfr⟩ | ⟨rfl, hno⟩
              · have e3_Fd : Fd 3 = Fb 3 := by have h9 := hfr.1; show Fd 3 = Fb 3; omega
                have e5_Fd : Fd 5 = Fb 5 := by have h9 := hfr.2.1; show Fd 5 = Fb 5; omega
                have e15_Fd : Fd 15 = Fb 15 := by have h9 := hfr.2.2.1; show Fd 15 = Fb 15; omega
                have e40_Fd : Fd 40 = Fb 40 := by have h9 := hfr.2.2.2; show Fd 40 = Fb 40; omega
                refine zg_if X 316 rfl rfl (by unfold zin; omega) (fun g6 => ?_) (fun g6 => ?_)
                · exact absurd (show (1 : Int) = (0 : Int) from g6) (by decide)
                · simp only [x_ncd] at g6
                  refine zg_blk pok2 X 2 [] (S' := (317, [(5, zI 1), (4, zI 1), (3, zI z3), (2, zI 0), (1, zI z1), (0, zR (m 0))], [zI 1], ((rW m Fd B SS HH NR RV) ++ (qW m RDm ST)))) rfl trivial ?_
                  refine zg_retb X hR rfl rfl (by decide) (by decide) (by first | exact Or.inl rfl | exact Or.inr rfl) ?_
                  exact ⟨_, _, rfl, Or.inl ⟨hr0, rfl, hAR, hRk, ⟨by show Fd 3 = F 3; omega, by show Fd 5 = F 5; omega, by show Fd 15 = F 15; omega, by show Fd 40 = F 40; omega⟩⟩⟩
              · refine zg_if X 316 rfl rfl (by unfold zin; omega) (fun g7 => ?_) (fun g7 => ?_)
                · simp only [x_cnd] at g7
                  refine zg_blk pok2 X 1 [] (S' := (317, [(5, zI 1), (4, zI 1), (3, zI z3), (2, zI 0), (1, zI z1), (0, zR (m 0))], [zI 0], ((rW m Fd B SS HH NR RV) ++ (qW m RDm ST)))) rfl trivial ?_
                  refine zg_retb X hR rfl rfl (by decide) (by decide) (by first | exact Or.inl rfl | exact Or.inr rfl) ?_
                  exact ⟨_, _, rfl, Or.inr ⟨rfl, hno⟩⟩
                · exact absurd (show ¬ (0 : Int) = (0 : Int) from g7) (by decide)
          · exact absurd (show (1 : Int) = (0 : Int) from g4) (by decide)
        · refine zg_blk pok2 X 3 [] (S' := (262, [(5, zI 0), (4, zI 1), (3, zI z3), (2, zI 0), (1, zI z1), (0, zR (m 0))], [zI 0], ((rW m Fc B SS HH NR RV) ++ (qW m RD ST)))) rfl trivial ?_
          refine zg_if X 267 rfl rfl (by unfold zin; omega) (fun g8 => ?_) (fun g8 => ?_)
          · exact absurd (show ¬ (0 : Int) = (0 : Int) from g8) (by decide)
          · simp only [x_ncd] at g8
            refine zg_blk pok2 X 1 [] (S' := (266, [(5, zI 0), (4, zI 1), (3, zI z3), (2, zI 0), (1, zI z1), (0, zR (m 0))], [zI 0], ((rW m Fc B SS HH NR RV) ++ (qW m RD ST)))) rfl trivial ?_
            refine zg_retb X hR rfl rfl (by decide) (by decide) (by first | exact Or.inl rfl | exact Or.inr rfl) ?_
            have hR9 : R = (tdF K V CN NM 3 (j + 1), j + 1) := by
              rw [← hQ9]
              unfold bAct
              rw [if_pos (by omega), hbs, if_neg hn1]
            exact ⟨_, _, rfl, Or.inr ⟨rfl, Or.inl ⟨by rw [hR9]; exact hn1, by rw [hR9]; exact hb1⟩⟩⟩
      · exact absurd (show ¬ (1 : Int) = (1 : Int) from g3) (by decide)
    · exact absurd (show (1 : Int) = (0 : Int) from g2) (by decide)
  · exact absurd (show (1 : Int) < (0 : Int) from g1) (by decide)
set_option maxHeartbeats 8000000 in
set_option maxRecDepth 4000 in
theorem zr_blT13 {F1 : Nat → Int} {z1 z3 : Int} (hH0 : RH B P K S V RV k F1) (hA0 : rAt P K S V F1 j) (hj0 : j ≤ k) (hRR : RK SS NR CN NM) (hI : INV CN NM x) (hRZ : ∀ q, zin64 (RV q)) (hFr : frB F F1) (hz1 : 0 ≤ z1 ∧ z1 ≤ 156) (hQ9 : bAct K V CN NM t j = R) (hR99 : ¬ R.1 = 99) (hcase : K j = 2 ∧ V j = 13) {r : va_W} {p0 : Program} {e0 : Env} {s0 : State} {m0 : MethodId} {ar0 : Array Value} {be0 : List Frame} {me0 : Method} {c0 : Code} {A0 : Nat → Prop} {Q0 : State → Prop} (X : Cx OW2 (EWX xs) D cy ex mt2_X12_bookLine (mY mt2_X12_bookLine).cls p0 (rmR (3, 0, 0, 68)) s0 m0 ar0 me0 c0 A0 (3, 0, 0, 68) 0 0) (hR : ZRet D cy r mt2_X12_bookLine p0 l e0 (rmR (3, 0, 0, 68)) s0 m0 ar0 be0 me0 c0 A0 Q0 (3, 0, 0, 68) (fun z Y => ∃ F9 RD9, Y = (rW m F9 B SS HH NR RV ++ qW m RD9 ST) ∧ kR P K S V F k R z F9)) : ZG D cy r mt2_X12_bookLine p0 l e0 (rmR (3, 0, 0, 68)) s0 m0 ar0 be0 me0 c0 A0 Q0 0 0 (183, [(3, zI z3), (2, zI 0), (1, zI z1), (0, zR (m 0))], [zI 2], ((rW m F1 B SS HH NR RV) ++ (qW m RD ST))) := by
  obtain ⟨e3, e5, e15, e40⟩ := hFr
  have hbs : bSt (V j) = 2 := by
    unfold bSt
    rw [if_neg (by omega), if_neg (by omega)]
  refine zg_blk pok2 X 2 [] (S' := (187, [(4, zI 2), (3, zI z3), (2, zI 0), (1, zI z1), (0, zR (m 0))], [zI 2], ((rW m F1 B SS HH NR RV) ++ (qW m RD ST)))) rfl trivial ?_
  refine zg_if X 196 rfl rfl (by unfold zin; omega) (fun g1 => ?_) (fun g1 => ?_)
  · simp only [x_cnd] at g1
    refine zg_blk pok2 X 1 [] (S' := (197, [(4, zI 2), (3, zI z3), (2, zI 0), (1, zI z1), (0, zR (m 0))], [zR (m 0)], ((rW m F1 B SS HH NR RV) ++ (qW m RD ST)))) rfl trivial ?_
    have hj1 : j + 1 ≤ k := hH0.len hj0 (by omega) (by omega)
    refine zg_callV pok2 EWX_ok X 0 (vas := []) (vr := []) (Y1 := (rW m F1 B SS HH NR RV)) (Y2 := (qW m RD ST)) rfl rfl (Or.inl rfl) zj_X12_next rfl rfl rfl rfl (Nat.le_of_ble_eq_true rfl) rfl (zr_next (F := F1) hH0.1 hH0.2.1 (by have e4 := hA0.2.2 (by omega) (by omega); have hp := hH0.2.2.2.1.2.2.2.2.2 (j + 1) hj1; show 0 ≤ F1 4 ∧ F1 4 ≤ F1 3; omega) (by have h9 := hH0.2.2.1; show 0 ≤ F1 5 ∧ F1 5 ≤ 1000; omega)) ⟨by decide, by decide, by decide, by decide⟩ (fun z9 Y9 hz => ?_)
    obtain ⟨rfl, Fa, rfl, hrt, hfrt⟩ := hz
    have hA1 : rAt P K S V Fa (j + 1) := rnext_ok (F := F1) (j := j) hH0 hA0 hj1 (by omega) (by omega) hrt
    have hH1 : RH B P K S V RV k Fa := RH.fr2 hH0 (show Fa 3 = F1 3 from hfrt.fr4.1) (show Fa 5 = F1 5 from hfrt.fr4.2.1)
    have e3_Fa : Fa 3 = F1 3 := hfrt 3 (by decide) (by decide) (by decide) (by decide) (by decide) (by decide)
    have e5_Fa : Fa 5 = F1 5 := hfrt 5 (by decide) (by decide) (by decide) (by decide) (by decide) (by decide)
    have e15_Fa : Fa 15 = F1 15 := hfrt 15 (by decide) (by decide) (by decide) (by decide) (by decide) (by decide)
    have e18_Fa : Fa 18 = F1 18 := hfrt 18 (by decide) (by decide) (by decide) (by decide) (by decide) (by decide)
    have e40_Fa : Fa 40 = F1 40 := hfrt 40 (by decide) (by decide) (by decide) (by decide) (by decide) (by decide)
    refine zg_blk pok2 X 1 [] (S' := (202, [(4, zI 2), (3, zI z3), (2, zI 0), (1, zI z1), (0, zR (m 0))], [zI 2], ((rW m Fa B SS HH NR RV) ++ (qW m RD ST)))) rfl trivial ?_
    refine zg_if X 219 rfl rfl (by unfold zin; omega) (fun g2 => ?_) (fun g2 => ?_)
    · simp only [x_cnd] at g2
      refine zg_blk pok2 X 2 [] (S' := (222, [(4, zI 2), (3, zI z3), (2, zI 0), (1, zI z1), (0, zR (m 0))], [zI 1, zI 2], ((rW m Fa B SS HH NR RV) ++ (qW m RD ST)))) rfl trivial ?_
      refine zg_icmp X 231 rfl rfl (by unfold zin; omega) (by unfold zin; omega) (fun g3 => ?_) (fun g3 => ?_)
      · exact absurd (show (2 : Int) = (1 : Int) from g3) (by decide)
      · simp only [x_ncd] at g3
        refine zg_blk pok2 X 2 [] (S' := (228, [(4, zI 2), (3, zI z3), (2, zI 0), (1, zI z1), (0, zR (m 0))], [zI 5, zI 2], ((rW m Fa B SS HH NR RV) ++ (qW m RD ST)))) rfl trivial ?_
        refine zg_icmp X 246 rfl rfl (by unfold zin; omega) (by unfold zin; omega) (fun g4 => ?_) (fun g4 => ?_)
        · simp only [x_cnd] at g4
          refine zg_blk pok2 X 6 [0, 2] (S' := (255, [(4, zI 2), (3, zI z3), (2, zI 0), (1, zI z1), (0, zR (m 0))], [zI (SS 2), zI 14, zR (m 0)], ((rW m Fa B SS HH NR RV) ++ (qW m RD ST)))) rfl ⟨rfl, rfl, rfl, (show zidx 2 269 from by unfold zidx; omega), trivial⟩ ?_
          rw [show SS 2 = (((CN 2).toNat : Nat) : Int) by have h9 := hRR.1 2 (by omega); have h8 := hI.cn 2 (by omega); omega]
          refine zg_callV pok2 EWX_ok X 0 (vas := [zI 14, zI (((CN 2).toNat : Nat) : Int)]) (vr := []) (Y1 := (rW m Fa B SS HH NR RV)) (Y2 := (qW m RD ST)) rfl rfl (Or.inl rfl) zj_X12_takesName rfl rfl rfl rfl (Nat.le_of_ble_eq_true rfl) rfl (zr_takesName0 (sN := 2) (F := Fa) (j := (j + 1)) (by omega) hH1 hA1 hj1 hRR hI hRZ) ⟨by decide, by decide, by decide, by decide⟩ (fun z9 Y9 hz => ?_)
          rcases hz with ⟨hn1, rfl, Fb, rfl, hA2, hj2, hfr, h18⟩ | ⟨hn1, rfl, Fc, rfl, hb1⟩
          · have e3_Fb : Fb 3 = Fa 3 := by have h9 := hfr.1; show Fb 3 = Fa 3; omega
            have e5_Fb : Fb 5 = Fa 5 := by have h9 := hfr.2.1; show Fb 5 = Fa 5; omega
            have e15_Fb : Fb 15 = Fa 15 := by have h9 := hfr.2.2.1; show Fb 15 = Fa 15; omega
            have e40_Fb : Fb 40 = Fa 40 := by have h9 := hfr.2.2.2; show Fb 40 = Fa 40; omega
            have hH2 : RH B P K S V RV k Fb := RH.fr2 hH1 e3_Fb e5_Fb
            refine zg_blk pok2 X 2 [] (S' := (262, [(5, zI 1), (4, zI 2), (3, zI z3), (2, zI 0), (1, zI z1), (0, zR (m 0))], [zI 1], ((rW m Fb B SS HH NR RV) ++ (qW m RD ST)))) rfl trivial ?_
            refine zg_if X 267 rfl rfl (by unfold zin; omega) (fun g5 => ?_) (fun g5 => ?_)
            · simp only [x_cnd] at g5
              refine zg_blk pok2 X 22 [0, 6, 0, 6, 0, 0, 6] (S' := (299, [(5, zI 1), (4, zI 2), (3, zI z3), (2, zI 0), (1, zI z1), (0, zR (m 0))], [zI 1, zI 2], ((rW m Fb B SS HH NR RV) ++ (qW m (zup (zup (zup RD z1.toNat 2) ((z1 + 1).toNat) z3) ((z1 + 2).toNat) (Fb 18)) ST)))) rfl ⟨rfl, rfl, rfl, (show zidx z1 160 from by unfold zidx; omega), rfl, rfl, rfl, (show zidx (z1 + 1) 160 from by unfold zidx; omega), rfl, rfl, rfl, rfl, (show zidx (z1 + 2) 160 from by unfold zidx; omega), trivial⟩ ?_
              refine zg_icmp X 312 rfl rfl (by unfold zin; omega) (by unfold zin; omega) (fun g6 => ?_) (fun g6 => ?_)
              · simp only [x_cnd] at g6
                refine zg_blk pok2 X 2 [] (S' := (317, [(5, zI 1), (4, zI 2), (3, zI z3), (2, zI 0), (1, zI z1), (0, zR (m 0))], [zI 1], ((rW m Fb B SS HH NR RV) ++ (qW m (zup (zup (zup RD z1.toNat 2) ((z1 + 1).toNat) z3) ((z1 + 2).toNat) (Fb 18)) ST)))) rfl trivial ?_
                refine zg_retb X hR rfl rfl (by decide) (by decide) (by first | exact Or.inl rfl | exact Or.inr rfl) ?_
                have hR9 : R = (0, j + 2) := by
                  rw [← hQ9]
                  unfold bAct
                  rw [if_pos (by omega), hbs, if_pos hn1, if_neg (by omega)]
                exact ⟨_, _, rfl, Or.inl ⟨by rw [hR9], rfl, by rw [hR9]; exact hA2, by rw [hR9]; exact hj2, ⟨by show Fb 3 = F 3; omega, by show Fb 5 = F 5; omega, by show Fb 15 = F 15; omega, by show Fb 40 = F 40; omega⟩⟩⟩
              · exact absurd (show (2 : Int) = (1 : Int) from g6) (by decide)
            · exact absurd (show (1 : Int) = (0 : Int) from g5) (by decide)
          · refine zg_blk pok2 X 2 [] (S' := (262, [(5, zI 0), (4, zI 2), (3, zI z3), (2, zI 0), (1, zI z1), (0, zR (m 0))], [zI 0], ((rW m Fc B SS HH NR RV) ++ (qW m RD ST)))) rfl trivial ?_
            refine zg_if X 267 rfl rfl (by unfold zin; omega) (fun g7 => ?_) (fun g7 => ?_)
            · exact absurd (show ¬ (0 : Int) = (0 : Int) from g7) (by decide)
            · simp only [x_ncd] at g7
              refine zg_blk pok2 X 1 [] (S' := (266, [(5, zI 0), (4, zI 2), (3, zI z3), (2, zI 0), (1, zI z1), (0, zR (m 0))], [zI 0], ((rW m Fc B SS HH NR RV) ++ (qW m RD ST)))) rfl trivial ?_
              refine zg_retb X hR rfl rfl (by decide) (by decide) (by first | exact Or.inl rfl | exact Or.inr rfl) ?_
              have hR9 : R = (tdF K V CN NM 2 (j + 1), j + 1) := by
                rw [← hQ9]
                unfold bAct
                rw [if_pos (by omega), hbs, if_neg hn1]
              exact ⟨_, _, rfl, Or.inr ⟨rfl, Or.inl ⟨by rw [hR9]; exact hn1, by rw [hR9]; exact hb1⟩⟩⟩
        · exact absurd (show (2 : Int) = (5 : Int) from g4) (by decide)
    · exact absurd (show (2 : Int) = (0 : Int) from g2) (by decide)
  · exact absurd (show (2 : Int) < (0 : Int) from g1) (by decide)
set_option maxHeartbeats 8000000 in
set_option maxRecDepth 4000 in
theorem zr_blT14 {F1 : Nat → Int} {z1 z3 : Int} (hH0 : RH B P K S V RV k F1) (hA0 : rAt P K S V F1 j) (hj0 : j ≤ k) (hRR : RK SS NR CN NM) (hI : INV CN NM x) (hRZ : ∀ q, zin64 (RV q)) (hFr : frB F F1) (hz1 : 0 ≤ z1 ∧ z1 ≤ 156) (hQ9 : bAct K V CN NM t j = R) (hR99 : ¬ R.1 = 99) (hcase : K j = 2 ∧ V j = 14) {r : va_W} {p0 : Program} {e0 : Env} {s0 : State} {m0 : MethodId} {ar0 : Array Value} {be0 : List Frame} {me0 : Method} {c0 : Code} {A0 : Nat → Prop} {Q0 : State → Prop} (X : Cx OW2 (EWX xs) D cy ex mt2_X12_bookLine (mY mt2_X12_bookLine).cls p0 (rmR (3, 0, 0, 68)) s0 m0 ar0 me0 c0 A0 (3, 0, 0, 68) 0 0) (hR : ZRet D cy r mt2_X12_bookLine p0 l e0 (rmR (3, 0, 0, 68)) s0 m0 ar0 be0 me0 c0 A0 Q0 (3, 0, 0, 68) (fun z Y => ∃ F9 RD9, Y = (rW m F9 B SS HH NR RV ++ qW m RD9 ST) ∧ kR P K S V F k R z F9)) : ZG D cy r mt2_X12_bookLine p0 l e0 (rmR (3, 0, 0, 68)) s0 m0 ar0 be0 me0 c0 A0 Q0 0 0 (183, [(3, zI z3), (2, zI 0), (1, zI z1), (0, zR (m 0))], [zI 3], ((rW m F1 B SS HH NR RV) ++ (qW m RD ST))) := by
  obtain ⟨e3, e5, e15, e40⟩ := hFr
  have hbs : bSt (V j) = 2 := by
    unfold bSt
    rw [if_neg (by omega), if_neg (by omega)]
  refine zg_blk pok2 X 2 [] (S' := (187, [(4, zI 3), (3, zI z3), (2, zI 0), (1, zI z1), (0, zR (m 0))], [zI 3], ((rW m F1 B SS HH NR RV) ++ (qW m RD ST)))) rfl trivial ?_
  refine zg_if X 196 rfl rfl (by unfold zin; omega) (fun g1 => ?_) (fun g1 => ?_)
  · simp only [x_cnd] at g1
    refine zg_blk pok2 X 1 [] (S' := (197, [(4, zI 3), (3, zI z3), (2, zI 0), (1, zI z1), (0, zR (m 0))], [zR (m 0)], ((rW m F1 B SS HH NR RV) ++ (qW m RD ST)))) rfl trivial ?_
    have hj1 : j + 1 ≤ k := hH0.len hj0 (by omega) (by omega)
    refine zg_callV pok2 EWX_ok X 0 (vas := []) (vr := []) (Y1 := (rW m F1 B SS HH NR RV)) (Y2 := (qW m RD ST)) rfl rfl (Or.inl rfl) zj_X12_next rfl rfl rfl rfl (Nat.le_of_ble_eq_true rfl) rfl (zr_next (F := F1) hH0.1 hH0.2.1 (by have e4 := hA0.2.2 (by omega) (by omega); have hp := hH0.2.2.2.1.2.2.2.2.2 (j + 1) hj1; show 0 ≤ F1 4 ∧ F1 4 ≤ F1 3; omega) (by have h9 := hH0.2.2.1; show 0 ≤ F1 5 ∧ F1 5 ≤ 1000; omega)) ⟨by decide, by decide, by decide, by decide⟩ (fun z9 Y9 hz => ?_)
    obtain ⟨rfl, Fa, rfl, hrt, hfrt⟩ := hz
    have hA1 : rAt P K S V Fa (j + 1) := rnext_ok (F := F1) (j := j) hH0 hA0 hj1 (by omega) (by omega) hrt
    have hH1 : RH B P K S V RV k Fa := RH.fr2 hH0 (show Fa 3 = F1 3 from hfrt.fr4.1) (show Fa 5 = F1 5 from hfrt.fr4.2.1)
    have e3_Fa : Fa 3 = F1 3 := hfrt 3 (by decide) (by decide) (by decide) (by decide) (by decide) (by decide)
    have e5_Fa : Fa 5 = F1 5 := hfrt 5 (by decide) (by decide) (by decide) (by decide) (by decide) (by decide)
    have e15_Fa : Fa 15 = F1 15 := hfrt 15 (by decide) (by decide) (by decide) (by decide) (by decide) (by decide)
    have e18_Fa : Fa 18 = F1 18 := hfrt 18 (by decide) (by decide) (by decide) (by decide) (by decide) (by decide)
    have e40_Fa : Fa 40 = F1 40 := hfrt 40 (by decide) (by decide) (by decide) (by decide) (by decide) (by decide)
    refine zg_blk pok2 X 1 [] (S' := (202, [(4, zI 3), (3, zI z3), (2, zI 0), (1, zI z1), (0, zR (m 0))], [zI 3], ((rW m Fa B SS HH NR RV) ++ (qW m RD ST)))) rfl trivial ?_
    refine zg_if X 219 rfl rfl (by unfold zin; omega) (fun g2 => ?_) (fun g2 => ?_)
    · simp only [x_cnd] at g2
      refine zg_blk pok2 X 2 [] (S' := (222, [(4, zI 3), (3, zI z3), (2, zI 0), (1, zI z1), (0, zR (m 0))], [zI 1, zI 3], ((rW m Fa B SS HH NR RV) ++ (qW m RD ST)))) rfl trivial ?_
      refine zg_icmp X 231 rfl rfl (by unfold zin; omega) (by unfold zin; omega) (fun g3 => ?_) (fun g3 => ?_)
      · exact absurd (show (3 : Int) = (1 : Int) from g3) (by decide)
      · simp only [x_ncd] at g3
        refine zg_blk pok2 X 2 [] (S' := (228, [(4, zI 3), (3, zI z3), (2, zI 0), (1, zI z1), (0, zR (m 0))], [zI 5, zI 3], ((rW m Fa B SS HH NR RV) ++ (qW m RD ST)))) rfl trivial ?_
        refine zg_icmp X 246 rfl rfl (by unfold zin; omega) (by unfold zin; omega) (fun g4 => ?_) (fun g4 => ?_)
        · simp only [x_cnd] at g4
          refine zg_blk pok2 X 6 [0, 2] (S' := (255, [(4, zI 3), (3, zI z3), (2, zI 0), (1, zI z1), (0, zR (m 0))], [zI (SS 2), zI 14, zR (m 0)], ((rW m Fa B SS HH NR RV) ++ (qW m RD ST)))) rfl ⟨rfl, rfl, rfl, (show zidx 2 269 from by unfold zidx; omega), trivial⟩ ?_
          rw [show SS 2 = (((CN 2).toNat : Nat) : Int) by have h9 := hRR.1 2 (by omega); have h8 := hI.cn 2 (by omega); omega]
          refine zg_callV pok2 EWX_ok X 0 (vas := [zI 14, zI (((CN 2).toNat : Nat) : Int)]) (vr := []) (Y1 := (rW m Fa B SS HH NR RV)) (Y2 := (qW m RD ST)) rfl rfl (Or.inl rfl) zj_X12_takesName rfl rfl rfl rfl (Nat.le_of_ble_eq_true rfl) rfl (zr_takesName0 (sN := 2) (F := Fa) (j := (j + 1)) (by omega) hH1 hA1 hj1 hRR hI hRZ) ⟨by decide, by decide, by decide, by decide⟩ (fun z9 Y9 hz => ?_)
          rcases hz with ⟨hn1, rfl, Fb, rfl, hA2, hj2, hfr, h18⟩ | ⟨hn1, rfl, Fc, rfl, hb1⟩
          · have e3_Fb : Fb 3 = Fa 3 := by have h9 := hfr.1; show Fb 3 = Fa 3; omega
            have e5_Fb : Fb 5 = Fa 5 := by have h9 := hfr.2.1; show Fb 5 = Fa 5; omega
            have e15_Fb : Fb 15 = Fa 15 := by have h9 := hfr.2.2.1; show Fb 15 = Fa 15; omega
            have e40_Fb : Fb 40 = Fa 40 := by have h9 := hfr.2.2.2; show Fb 40 = Fa 40; omega
            have hH2 : RH B P K S V RV k Fb := RH.fr2 hH1 e3_Fb e5_Fb
            refine zg_blk pok2 X 2 [] (S' := (262, [(5, zI 1), (4, zI 3), (3, zI z3), (2, zI 0), (1, zI z1), (0, zR (m 0))], [zI 1], ((rW m Fb B SS HH NR RV) ++ (qW m RD ST)))) rfl trivial ?_
            refine zg_if X 267 rfl rfl (by unfold zin; omega) (fun g5 => ?_) (fun g5 => ?_)
            · simp only [x_cnd] at g5
              refine zg_blk pok2 X 22 [0, 6, 0, 6, 0, 0, 6] (S' := (299, [(5, zI 1), (4, zI 3), (3, zI z3), (2, zI 0), (1, zI z1), (0, zR (m 0))], [zI 1, zI 3], ((rW m Fb B SS HH NR RV) ++ (qW m (zup (zup (zup RD z1.toNat 3) ((z1 + 1).toNat) z3) ((z1 + 2).toNat) (Fb 18)) ST)))) rfl ⟨rfl, rfl, rfl, (show zidx z1 160 from by unfold zidx; omega), rfl, rfl, rfl, (show zidx (z1 + 1) 160 from by unfold zidx; omega), rfl, rfl, rfl, rfl, (show zidx (z1 + 2) 160 from by unfold zidx; omega), trivial⟩ ?_
              refine zg_icmp X 312 rfl rfl (by unfold zin; omega) (by unfold zin; omega) (fun g6 => ?_) (fun g6 => ?_)
              · simp only [x_cnd] at g6
                refine zg_blk pok2 X 2 [] (S' := (317, [(5, zI 1), (4, zI 3), (3, zI z3), (2, zI 0), (1, zI z1), (0, zR (m 0))], [zI 1], ((rW m Fb B SS HH NR RV) ++ (qW m (zup (zup (zup RD z1.toNat 3) ((z1 + 1).toNat) z3) ((z1 + 2).toNat) (Fb 18)) ST)))) rfl trivial ?_
                refine zg_retb X hR rfl rfl (by decide) (by decide) (by first | exact Or.inl rfl | exact Or.inr rfl) ?_
                have hR9 : R = (0, j + 2) := by
                  rw [← hQ9]
                  unfold bAct
                  rw [if_pos (by omega), hbs, if_pos hn1, if_neg (by omega)]
                exact ⟨_, _, rfl, Or.inl ⟨by rw [hR9], rfl, by rw [hR9]; exact hA2, by rw [hR9]; exact hj2, ⟨by show Fb 3 = F 3; omega, by show Fb 5 = F 5; omega, by show Fb 15 = F 15; omega, by show Fb 40 = F 40; omega⟩⟩⟩
              · exact absurd (show (3 : Int) = (1 : Int) from g6) (by decide)
            · exact absurd (show (1 : Int) = (0 : Int) from g5) (by decide)
          · refine zg_blk pok2 X 2 [] (S' := (262, [(5, zI 0), (4, zI 3), (3, zI z3), (2, zI 0), (1, zI z1), (0, zR (m 0))], [zI 0], ((rW m Fc B SS HH NR RV) ++ (qW m RD ST)))) rfl trivial ?_
            refine zg_if X 267 rfl rfl (by unfold zin; omega) (fun g7 => ?_) (fun g7 => ?_)
            · exact absurd (show ¬ (0 : Int) = (0 : Int) from g7) (by decide)
            · simp only [x_ncd] at g7
              refine zg_blk pok2 X 1 [] (S' := (266, [(5, zI 0), (4, zI 3), (3, zI z3), (2, zI 0), (1, zI z1), (0, zR (m 0))], [zI 0], ((rW m Fc B SS HH NR RV) ++ (qW m RD ST)))) rfl trivial ?_
              refine zg_retb X hR rfl rfl (by decide) (by decide) (by first | exact Or.inl rfl | exact Or.inr rfl) ?_
              have hR9 : R = (tdF K V CN NM 2 (j + 1), j + 1) := by
                rw [← hQ9]
                unfold bAct
                rw [if_pos (by omega), hbs, if_neg hn1]
              exact ⟨_, _, rfl, Or.inr ⟨rfl, Or.inl ⟨by rw [hR9]; exact hn1, by rw [hR9]; exact hb1⟩⟩⟩
        · exact absurd (show (3 : Int) = (5 : Int) from g4) (by decide)
    · exact absurd (show (3 : Int) = (0 : Int) from g2) (by decide)
  · exact absurd (show (3 : Int) < (0 : Int) from g1) (by decide)
set_option maxHeartbeats 8000000 in
set_option maxRecDepth 4000 in
theorem zr_blT15 {F1 : Nat → Int} {z1 z3 : Int} (hH0 : RH B P K S V RV k F1) (hA0 : rAt P K S V F1 j) (hj0 : j ≤ k) (hRR : RK SS NR CN NM) (hI : INV CN NM x) (hRZ : ∀ q, zin64 (RV q)) (hFr : frB F F1) (hz1 : 0 ≤ z1 ∧ z1 ≤ 156) (hQ9 : bAct K V CN NM t j = R) (hR99 : ¬ R.1 = 99) (hcase : K j = 2 ∧ V j = 15) {r : va_W} {p0 : Program} {e0 : Env} {s0 : State} {m0 : MethodId} {ar0 : Array Value} {be0 : List Frame} {me0 : Method} {c0 : Code} {A0 : Nat → Prop} {Q0 : State → Prop} (X : Cx OW2 (EWX xs) D cy ex mt2_X12_bookLine (mY mt2_X12_bookLine).cls p0 (rmR (3, 0, 0, 68)) s0 m0 ar0 me0 c0 A0 (3, 0, 0, 68) 0 0) (hR : ZRet D cy r mt2_X12_bookLine p0 l e0 (rmR (3, 0, 0, 68)) s0 m0 ar0 be0 me0 c0 A0 Q0 (3, 0, 0, 68) (fun z Y => ∃ F9 RD9, Y = (rW m F9 B SS HH NR RV ++ qW m RD9 ST) ∧ kR P K S V F k R z F9)) : ZG D cy r mt2_X12_bookLine p0 l e0 (rmR (3, 0, 0, 68)) s0 m0 ar0 be0 me0 c0 A0 Q0 0 0 (183, [(3, zI z3), (2, zI 0), (1, zI z1), (0, zR (m 0))], [zI 4], ((rW m F1 B SS HH NR RV) ++ (qW m RD ST))) := by
  obtain ⟨e3, e5, e15, e40⟩ := hFr
  have hbs : bSt (V j) = 2 := by
    unfold bSt
    rw [if_neg (by omega), if_neg (by omega)]
  refine zg_blk pok2 X 2 [] (S' := (187, [(4, zI 4), (3, zI z3), (2, zI 0), (1, zI z1), (0, zR (m 0))], [zI 4], ((rW m F1 B SS HH NR RV) ++ (qW m RD ST)))) rfl trivial ?_
  refine zg_if X 196 rfl rfl (by unfold zin; omega) (fun g1 => ?_) (fun g1 => ?_)
  · simp only [x_cnd] at g1
    refine zg_blk pok2 X 1 [] (S' := (197, [(4, zI 4), (3, zI z3), (2, zI 0), (1, zI z1), (0, zR (m 0))], [zR (m 0)], ((rW m F1 B SS HH NR RV) ++ (qW m RD ST)))) rfl trivial ?_
    have hj1 : j + 1 ≤ k := hH0.len hj0 (by omega) (by omega)
    refine zg_callV pok2 EWX_ok X 0 (vas := []) (vr := []) (Y1 := (rW m F1 B SS HH NR RV)) (Y2 := (qW m RD ST)) rfl rfl (Or.inl rfl) zj_X12_next rfl rfl rfl rfl (Nat.le_of_ble_eq_true rfl) rfl (zr_next (F := F1) hH0.1 hH0.2.1 (by have e4 := hA0.2.2 (by omega) (by omega); have hp := hH0.2.2.2.1.2.2.2.2.2 (j + 1) hj1; show 0 ≤ F1 4 ∧ F1 4 ≤ F1 3; omega) (by have h9 := hH0.2.2.1; show 0 ≤ F1 5 ∧ F1 5 ≤ 1000; omega)) ⟨by decide, by decide, by decide, by decide⟩ (fun z9 Y9 hz => ?_)
    obtain ⟨rfl, Fa, rfl, hrt, hfrt⟩ := hz
    have hA1 : rAt P K S V Fa (j + 1) := rnext_ok (F := F1) (j := j) hH0 hA0 hj1 (by omega) (by omega) hrt
    have hH1 : RH B P K S V RV k Fa := RH.fr2 hH0 (show Fa 3 = F1 3 from hfrt.fr4.1) (show Fa 5 = F1 5 from hfrt.fr4.2.1)
    have e3_Fa : Fa 3 = F1 3 := hfrt 3 (by decide) (by decide) (by decide) (by decide) (by decide) (by decide)
    have e5_Fa : Fa 5 = F1 5 := hfrt 5 (by decide) (by decide) (by decide) (by decide) (by decide) (by decide)
    have e15_Fa : Fa 15 = F1 15 := hfrt 15 (by decide) (by decide) (by decide) (by decide) (by decide) (by decide)
    have e18_Fa : Fa 18 = F1 18 := hfrt 18 (by decide) (by decide) (by decide) (by decide) (by decide) (by decide)
    have e40_Fa : Fa 40 = F1 40 := hfrt 40 (by decide) (by decide) (by decide) (by decide) (by decide) (by decide)
    refine zg_blk pok2 X 1 [] (S' := (202, [(4, zI 4), (3, zI z3), (2, zI 0), (1, zI z1), (0, zR (m 0))], [zI 4], ((rW m Fa B SS HH NR RV) ++ (qW m RD ST)))) rfl trivial ?_
    refine zg_if X 219 rfl rfl (by unfold zin; omega) (fun g2 => ?_) (fun g2 => ?_)
    · simp only [x_cnd] at g2
      refine zg_blk pok2 X 2 [] (S' := (222, [(4, zI 4), (3, zI z3), (2, zI 0), (1, zI z1), (0, zR (m 0))], [zI 1, zI 4], ((rW m Fa B SS HH NR RV) ++ (qW m RD ST)))) rfl trivial ?_
      refine zg_icmp X 231 rfl rfl (by unfold zin; omega) (by unfold zin; omega) (fun g3 => ?_) (fun g3 => ?_)
      · exact absurd (show (4 : Int) = (1 : Int) from g3) (by decide)
      · simp only [x_ncd] at g3
        refine zg_blk pok2 X 2 [] (S' := (228, [(4, zI 4), (3, zI z3), (2, zI 0), (1, zI z1), (0, zR (m 0))], [zI 5, zI 4], ((rW m Fa B SS HH NR RV) ++ (qW m RD ST)))) rfl trivial ?_
        refine zg_icmp X 246 rfl rfl (by unfold zin; omega) (by unfold zin; omega) (fun g4 => ?_) (fun g4 => ?_)
        · simp only [x_cnd] at g4
          refine zg_blk pok2 X 6 [0, 2] (S' := (255, [(4, zI 4), (3, zI z3), (2, zI 0), (1, zI z1), (0, zR (m 0))], [zI (SS 2), zI 14, zR (m 0)], ((rW m Fa B SS HH NR RV) ++ (qW m RD ST)))) rfl ⟨rfl, rfl, rfl, (show zidx 2 269 from by unfold zidx; omega), trivial⟩ ?_
          rw [show SS 2 = (((CN 2).toNat : Nat) : Int) by have h9 := hRR.1 2 (by omega); have h8 := hI.cn 2 (by omega); omega]
          refine zg_callV pok2 EWX_ok X 0 (vas := [zI 14, zI (((CN 2).toNat : Nat) : Int)]) (vr := []) (Y1 := (rW m Fa B SS HH NR RV)) (Y2 := (qW m RD ST)) rfl rfl (Or.inl rfl) zj_X12_takesName rfl rfl rfl rfl (Nat.le_of_ble_eq_true rfl) rfl (zr_takesName0 (sN := 2) (F := Fa) (j := (j + 1)) (by omega) hH1 hA1 hj1 hRR hI hRZ) ⟨by decide, by decide, by decide, by decide⟩ (fun z9 Y9 hz => ?_)
          rcases hz with ⟨hn1, rfl, Fb, rfl, hA2, hj2, hfr, h18⟩ | ⟨hn1, rfl, Fc, rfl, hb1⟩
          · have e3_Fb : Fb 3 = Fa 3 := by have h9 := hfr.1; show Fb 3 = Fa 3; omega
            have e5_Fb : Fb 5 = Fa 5 := by have h9 := hfr.2.1; show Fb 5 = Fa 5; omega
            have e15_Fb : Fb 15 = Fa 15 := by have h9 := hfr.2.2.1; show Fb 15 = Fa 15; omega
            have e40_Fb : Fb 40 = Fa 40 := by have h9 := hfr.2.2.2; show Fb 40 = Fa 40; omega
            have hH2 : RH B P K S V RV k Fb := RH.fr2 hH1 e3_Fb e5_Fb
            refine zg_blk pok2 X 2 [] (S' := (262, [(5, zI 1), (4, zI 4), (3, zI z3), (2, zI 0), (1, zI z1), (0, zR (m 0))], [zI 1], ((rW m Fb B SS HH NR RV) ++ (qW m RD ST)))) rfl trivial ?_
            refine zg_if X 267 rfl rfl (by unfold zin; omega) (fun g5 => ?_) (fun g5 => ?_)
            · simp only [x_cnd] at g5
              refine zg_blk pok2 X 22 [0, 6, 0, 6, 0, 0, 6] (S' := (299, [(5, zI 1), (4, zI 4), (3, zI z3), (2, zI 0), (1, zI z1), (0, zR (m 0))], [zI 1, zI 4], ((rW m Fb B SS HH NR RV) ++ (qW m (zup (zup (zup RD z1.toNat 4) ((z1 + 1).toNat) z3) ((z1 + 2).toNat) (Fb 18)) ST)))) rfl ⟨rfl, rfl, rfl, (show zidx z1 160 from by unfold zidx; omega), rfl, rfl, rfl, (show zidx (z1 + 1) 160 from by unfold zidx; omega), rfl, rfl, rfl, rfl, (show zidx (z1 + 2) 160 from by unfold zidx; omega), trivial⟩ ?_
              refine zg_icmp X 312 rfl rfl (by unfold zin; omega) (by unfold zin; omega) (fun g6 => ?_) (fun g6 => ?_)
              · simp only [x_cnd] at g6
                refine zg_blk pok2 X 2 [] (S' := (317, [(5, zI 1), (4, zI 4), (3, zI z3), (2, zI 0), (1, zI z1), (0, zR (m 0))], [zI 1], ((rW m Fb B SS HH NR RV) ++ (qW m (zup (zup (zup RD z1.toNat 4) ((z1 + 1).toNat) z3) ((z1 + 2).toNat) (Fb 18)) ST)))) rfl trivial ?_
                refine zg_retb X hR rfl rfl (by decide) (by decide) (by first | exact Or.inl rfl | exact Or.inr rfl) ?_
                have hR9 : R = (0, j + 2) := by
                  rw [← hQ9]
                  unfold bAct
                  rw [if_pos (by omega), hbs, if_pos hn1, if_neg (by omega)]
                exact ⟨_, _, rfl, Or.inl ⟨by rw [hR9], rfl, by rw [hR9]; exact hA2, by rw [hR9]; exact hj2, ⟨by show Fb 3 = F 3; omega, by show Fb 5 = F 5; omega, by show Fb 15 = F 15; omega, by show Fb 40 = F 40; omega⟩⟩⟩
              · exact absurd (show (4 : Int) = (1 : Int) from g6) (by decide)
            · exact absurd (show (1 : Int) = (0 : Int) from g5) (by decide)
          · refine zg_blk pok2 X 2 [] (S' := (262, [(5, zI 0), (4, zI 4), (3, zI z3), (2, zI 0), (1, zI z1), (0, zR (m 0))], [zI 0], ((rW m Fc B SS HH NR RV) ++ (qW m RD ST)))) rfl trivial ?_
            refine zg_if X 267 rfl rfl (by unfold zin; omega) (fun g7 => ?_) (fun g7 => ?_)
            · exact absurd (show ¬ (0 : Int) = (0 : Int) from g7) (by decide)
            · simp only [x_ncd] at g7
              refine zg_blk pok2 X 1 [] (S' := (266, [(5, zI 0), (4, zI 4), (3, zI z3), (2, zI 0), (1, zI z1), (0, zR (m 0))], [zI 0], ((rW m Fc B SS HH NR RV) ++ (qW m RD ST)))) rfl trivial ?_
              refine zg_retb X hR rfl rfl (by decide) (by decide) (by first | exact Or.inl rfl | exact Or.inr rfl) ?_
              have hR9 : R = (tdF K V CN NM 2 (j + 1), j + 1) := by
                rw [← hQ9]
                unfold bAct
                rw [if_pos (by omega), hbs, if_neg hn1]
              exact ⟨_, _, rfl, Or.inr ⟨rfl, Or.inl ⟨by rw [hR9]; exact hn1, by rw [hR9]; exact hb1⟩⟩⟩
        · exact absurd (show (4 : Int) = (5 : Int) from g4) (by decide)
    · exact absurd (show (4 : Int) = (0 : Int) from g2) (by decide)
  · exact absurd (show (4 : Int) < (0 : Int) from g1) (by decide)
set_option maxHeartbeats 8000000 in
set_option maxRecDepth 4000 in
theorem zr_blT16 {F1 : Nat → Int} {z1 z3 : Int} (hH0 : RH B P K S V RV k F1) (hA0 : rAt P K S V F1 j) (hj0 : j ≤ k) (hRR : RK SS NR CN NM) (hI : INV CN NM x) (hRZ : ∀ q, zin64 (RV q)) (hFr : frB F F1) (hz1 : 0 ≤ z1 ∧ z1 ≤ 156) (hQ9 : bAct K V CN NM t j = R) (hR99 : ¬ R.1 = 99) (hcase : K j = 2 ∧ V j = 16) {r : va_W} {p0 : Program} {e0 : Env} {s0 : State} {m0 : MethodId} {ar0 : Array Value} {be0 : List Frame} {me0 : Method} {c0 : Code} {A0 : Nat → Prop} {Q0 : State → Prop} (X : Cx OW2 (EWX xs) D cy ex mt2_X12_bookLine (mY mt2_X12_bookLine).cls p0 (rmR (3, 0, 0, 68)) s0 m0 ar0 me0 c0 A0 (3, 0, 0, 68) 0 0) (hR : ZRet D cy r mt2_X12_bookLine p0 l e0 (rmR (3, 0, 0, 68)) s0 m0 ar0 be0 me0 c0 A0 Q0 (3, 0, 0, 68) (fun z Y => ∃ F9 RD9, Y = (rW m F9 B SS HH NR RV ++ qW m RD9 ST) ∧ kR P K S V F k R z F9)) : ZG D cy r mt2_X12_bookLine p0 l e0 (rmR (3, 0, 0, 68)) s0 m0 ar0 be0 me0 c0 A0 Q0 0 0 (183, [(3, zI z3), (2, zI 0), (1, zI z1), (0, zR (m 0))], [zI 5], ((rW m F1 B SS HH NR RV) ++ (qW m RD ST))) := by
  obtain ⟨e3, e5, e15, e40⟩ := hFr
  have hbs : bSt (V j) = 3 := by
    unfold bSt
    rw [if_neg (by omega), if_pos (by omega)]
  refine zg_blk pok2 X 2 [] (S' := (187, [(4, zI 5), (3, zI z3), (2, zI 0), (1, zI z1), (0, zR (m 0))], [zI 5], ((rW m F1 B SS HH NR RV) ++ (qW m RD ST)))) rfl trivial ?_
  refine zg_if X 196 rfl rfl (by unfold zin; omega) (fun g1 => ?_) (fun g1 => ?_)
  · simp only [x_cnd] at g1
    refine zg_blk pok2 X 1 [] (S' := (197, [(4, zI 5), (3, zI z3), (2, zI 0), (1, zI z1), (0, zR (m 0))], [zR (m 0)], ((rW m F1 B SS HH NR RV) ++ (qW m RD ST)))) rfl trivial ?_
    have hj1 : j + 1 ≤ k := hH0.len hj0 (by omega) (by omega)
    refine zg_callV pok2 EWX_ok X 0 (vas := []) (vr := []) (Y1 := (rW m F1 B SS HH NR RV)) (Y2 := (qW m RD ST)) rfl rfl (Or.inl rfl) zj_X12_next rfl rfl rfl rfl (Nat.le_of_ble_eq_true rfl) rfl (zr_next (F := F1) hH0.1 hH0.2.1 (by have e4 := hA0.2.2 (by omega) (by omega); have hp := hH0.2.2.2.1.2.2.2.2.2 (j + 1) hj1; show 0 ≤ F1 4 ∧ F1 4 ≤ F1 3; omega) (by have h9 := hH0.2.2.1; show 0 ≤ F1 5 ∧ F1 5 ≤ 1000; omega)) ⟨by decide, by decide, by decide, by decide⟩ (fun z9 Y9 hz => ?_)
    obtain ⟨rfl, Fa, rfl, hrt, hfrt⟩ := hz
    have hA1 : rAt P K S V Fa (j + 1) := rnext_ok (F := F1) (j := j) hH0 hA0 hj1 (by omega) (by omega) hrt
    have hH1 : RH B P K S V RV k Fa := RH.fr2 hH0 (show Fa 3 = F1 3 from hfrt.fr4.1) (show Fa 5 = F1 5 from hfrt.fr4.2.1)
    have e3_Fa : Fa 3 = F1 3 := hfrt 3 (by decide) (by decide) (by decide) (by decide) (by decide) (by decide)
    have e5_Fa : Fa 5 = F1 5 := hfrt 5 (by decide) (by decide) (by decide) (by decide) (by decide) (by decide)
    have e15_Fa : Fa 15 = F1 15 := hfrt 15 (by decide) (by decide) (by decide) (by decide) (by decide) (by decide)
    have e18_Fa : Fa 18 = F1 18 := hfrt 18 (by decide) (by decide) (by decide) (by decide) (by decide) (by decide)
    have e40_Fa : Fa 40 = F1 40 := hfrt 40 (by decide) (by decide) (by decide) (by decide) (by decide) (by decide)
    refine zg_blk pok2 X 1 [] (S' := (202, [(4, zI 5), (3, zI z3), (2, zI 0), (1, zI z1), (0, zR (m 0))], [zI 5], ((rW m Fa B SS HH NR RV) ++ (qW m RD ST)))) rfl trivial ?_
    refine zg_if X 219 rfl rfl (by unfold zin; omega) (fun g2 => ?_) (fun g2 => ?_)
    · simp only [x_cnd] at g2
      refine zg_blk pok2 X 2 [] (S' := (222, [(4, zI 5), (3, zI z3), (2, zI 0), (1, zI z1), (0, zR (m 0))], [zI 1, zI 5], ((rW m Fa B SS HH NR RV) ++ (qW m RD ST)))) rfl trivial ?_
      refine zg_icmp X 231 rfl rfl (by unfold zin; omega) (by unfold zin; omega) (fun g3 => ?_) (fun g3 => ?_)
      · exact absurd (show (5 : Int) = (1 : Int) from g3) (by decide)
      · simp only [x_ncd] at g3
        refine zg_blk pok2 X 2 [] (S' := (228, [(4, zI 5), (3, zI z3), (2, zI 0), (1, zI z1), (0, zR (m 0))], [zI 5, zI 5], ((rW m Fa B SS HH NR RV) ++ (qW m RD ST)))) rfl trivial ?_
        refine zg_icmp X 246 rfl rfl (by unfold zin; omega) (by unfold zin; omega) (fun g4 => ?_) (fun g4 => ?_)
        · exact absurd (show ¬ (5 : Int) = (5 : Int) from g4) (by decide)
        · simp only [x_ncd] at g4
          refine zg_blk pok2 X 6 [0, 2] (S' := (240, [(4, zI 5), (3, zI z3), (2, zI 0), (1, zI z1), (0, zR (m 0))], [zI (SS 3), zI 22, zR (m 0)], ((rW m Fa B SS HH NR RV) ++ (qW m RD ST)))) rfl ⟨rfl, rfl, rfl, (show zidx 3 269 from by unfold zidx; omega), trivial⟩ ?_
          rw [show SS 3 = (((CN 3).toNat : Nat) : Int) by have h9 := hRR.1 3 (by omega); have h8 := hI.cn 3 (by omega); omega]
          refine zg_callV pok2 EWX_ok X 0 (vas := [zI 22, zI (((CN 3).toNat : Nat) : Int)]) (vr := []) (Y1 := (rW m Fa B SS HH NR RV)) (Y2 := (qW m RD ST)) rfl rfl (Or.inl rfl) zj_X12_takesName rfl rfl rfl rfl (Nat.le_of_ble_eq_true rfl) rfl (zr_takesName0 (sN := 3) (F := Fa) (j := (j + 1)) (by omega) hH1 hA1 hj1 hRR hI hRZ) ⟨by decide, by decide, by decide, by decide⟩ (fun z9 Y9 hz => ?_)
          rcases hz with ⟨hn1, rfl, Fb, rfl, hA2, hj2, hfr, h18⟩ | ⟨hn1, rfl, Fc, rfl, hb1⟩
          · have e3_Fb : Fb 3 = Fa 3 := by have h9 := hfr.1; show Fb 3 = Fa 3; omega
            have e5_Fb : Fb 5 = Fa 5 := by have h9 := hfr.2.1; show Fb 5 = Fa 5; omega
            have e15_Fb : Fb 15 = Fa 15 := by have h9 := hfr.2.2.1; show Fb 15 = Fa 15; omega
            have e40_Fb : Fb 40 = Fa 40 := by have h9 := hfr.2.2.2; show Fb 40 = Fa 40; omega
            have hH2 : RH B P K S V RV k Fb := RH.fr2 hH1 e3_Fb e5_Fb
            refine zg_blk pok2 X 3 [] (S' := (262, [(5, zI 1), (4, zI 5), (3, zI z3), (2, zI 0), (1, zI z1), (0, zR (m 0))], [zI 1], ((rW m Fb B SS HH NR RV) ++ (qW m RD ST)))) rfl trivial ?_
            refine zg_if X 267 rfl rfl (by unfold zin; omega) (fun g5 => ?_) (fun g5 => ?_)
            · simp only [x_cnd] at g5
              refine zg_blk pok2 X 22 [0, 6, 0, 6, 0, 0, 6] (S' := (299, [(5, zI 1), (4, zI 5), (3, zI z3), (2, zI 0), (1, zI z1), (0, zR (m 0))], [zI 1, zI 5], ((rW m Fb B SS HH NR RV) ++ (qW m (zup (zup (zup RD z1.toNat 5) ((z1 + 1).toNat) z3) ((z1 + 2).toNat) (Fb 18)) ST)))) rfl ⟨rfl, rfl, rfl, (show zidx z1 160 from by unfold zidx; omega), rfl, rfl, rfl, (show zidx (z1 + 1) 160 from by unfold zidx; omega), rfl, rfl, rfl, rfl, (show zidx (z1 + 2) 160 from by unfold zidx; omega), trivial⟩ ?_
              refine zg_icmp X 312 rfl rfl (by unfold zin; omega) (by unfold zin; omega) (fun g6 => ?_) (fun g6 => ?_)
              · simp only [x_cnd] at g6
                refine zg_blk pok2 X 2 [] (S' := (317, [(5, zI 1), (4, zI 5), (3, zI z3), (2, zI 0), (1, zI z1), (0, zR (m 0))], [zI 1], ((rW m Fb B SS HH NR RV) ++ (qW m (zup (zup (zup RD z1.toNat 5) ((z1 + 1).toNat) z3) ((z1 + 2).toNat) (Fb 18)) ST)))) rfl trivial ?_
                refine zg_retb X hR rfl rfl (by decide) (by decide) (by first | exact Or.inl rfl | exact Or.inr rfl) ?_
                have hR9 : R = (0, j + 2) := by
                  rw [← hQ9]
                  unfold bAct
                  rw [if_pos (by omega), hbs, if_pos hn1, if_neg (by omega)]
                exact ⟨_, _, rfl, Or.inl ⟨by rw [hR9], rfl, by rw [hR9]; exact hA2, by rw [hR9]; exact hj2, ⟨by show Fb 3 = F 3; omega, by show Fb 5 = F 5; omega, by show Fb 15 = F 15; omega, by show Fb 40 = F 40; omega⟩⟩⟩
              · exact absurd (show (5 : Int) = (1 : Int) from g6) (by decide)
            · exact absurd (show (1 : Int) = (0 : Int) from g5) (by decide)
          · refine zg_blk pok2 X 3 [] (S' := (262, [(5, zI 0), (4, zI 5), (3, zI z3), (2, zI 0), (1, zI z1), (0, zR (m 0))], [zI 0], ((rW m Fc B SS HH NR RV) ++ (qW m RD ST)))) rfl trivial ?_
            refine zg_if X 267 rfl rfl (by unfold zin; omega) (fun g7 => ?_) (fun g7 => ?_)
            · exact absurd (show ¬ (0 : Int) = (0 : Int) from g7) (by decide)
            · simp only [x_ncd] at g7
              refine zg_blk pok2 X 1 [] (S' := (266, [(5, zI 0), (4, zI 5), (3, zI z3), (2, zI 0), (1, zI z1), (0, zR (m 0))], [zI 0], ((rW m Fc B SS HH NR RV) ++ (qW m RD ST)))) rfl trivial ?_
              refine zg_retb X hR rfl rfl (by decide) (by decide) (by first | exact Or.inl rfl | exact Or.inr rfl) ?_
              have hR9 : R = (tdF K V CN NM 3 (j + 1), j + 1) := by
                rw [← hQ9]
                unfold bAct
                rw [if_pos (by omega), hbs, if_neg hn1]
              exact ⟨_, _, rfl, Or.inr ⟨rfl, Or.inl ⟨by rw [hR9]; exact hn1, by rw [hR9]; exact hb1⟩⟩⟩
    · exact absurd (show (5 : Int) = (0 : Int) from g2) (by decide)
  · exact absurd (show (5 : Int) < (0 : Int) from g1) (by decide)
set_option maxHeartbeats 8000000 in
set_option maxRecDepth 4000 in
theorem zr_blT0 {F1 : Nat → Int} {z1 z3 : Int} (hH0 : RH B P K S V RV k F1) (hA0 : rAt P K S V F1 j) (hj0 : j ≤ k) (hRR : RK SS NR CN NM) (hI : INV CN NM x) (hRZ : ∀ q, zin64 (RV q)) (hFr : frB F F1) (hz1 : 0 ≤ z1 ∧ z1 ≤ 156) (hQ9 : bAct K V CN NM t j = R) (hR99 : ¬ R.1 = 99) (hcase : ¬ (K j = 2 ∧ 11 ≤ V j ∧ V j ≤ 16)) {r : va_W} {p0 : Program} {e0 : Env} {s0 : State} {m0 : MethodId} {ar0 : Array Value} {be0 : List Frame} {me0 : Method} {c0 : Code} {A0 : Nat → Prop} {Q0 : State → Prop} (X : Cx OW2 (EWX xs) D cy ex mt2_X12_bookLine (mY mt2_X12_bookLine).cls p0 (rmR (3, 0, 0, 68)) s0 m0 ar0 me0 c0 A0 (3, 0, 0, 68) 0 0) (hR : ZRet D cy r mt2_X12_bookLine p0 l e0 (rmR (3, 0, 0, 68)) s0 m0 ar0 be0 me0 c0 A0 Q0 (3, 0, 0, 68) (fun z Y => ∃ F9 RD9, Y = (rW m F9 B SS HH NR RV ++ qW m RD9 ST) ∧ kR P K S V F k R z F9)) : ZG D cy r mt2_X12_bookLine p0 l e0 (rmR (3, 0, 0, 68)) s0 m0 ar0 be0 me0 c0 A0 Q0 0 0 (183, [(3, zI z3), (2, zI 0), (1, zI z1), (0, zR (m 0))], [zI (-1)], ((rW m F1 B SS HH NR RV) ++ (qW m RD ST))) := by
  obtain ⟨e3, e5, e15, e40⟩ := hFr
  refine zg_blk pok2 X 2 [] (S' := (187, [(4, zI (-1)), (3, zI z3), (2, zI 0), (1, zI z1), (0, zR (m 0))], [zI (-1)], ((rW m F1 B SS HH NR RV) ++ (qW m RD ST)))) rfl trivial ?_
  refine zg_if X 196 rfl rfl (by unfold zin; omega) (fun g1 => ?_) (fun g1 => ?_)
  · exact absurd (show (0 : Int) ≤ (-1 : Int) from g1) (by decide)
  · simp only [x_ncd] at g1
    refine zg_blk pok2 X 2 [] (S' := (192, [(4, zI (-1)), (3, zI z3), (2, zI 0), (1, zI z1), (0, zR (m 0))], [zI 1, zR (m 0)], ((rW m F1 B SS HH NR RV) ++ (qW m RD ST)))) rfl trivial ?_
    refine zg_callV pok2 EWX_ok X 0 (vas := [zI 1]) (vr := []) (Y1 := (rW m F1 B SS HH NR RV)) (Y2 := (qW m RD ST)) rfl rfl (Or.inl rfl) zj_X12_bad rfl rfl rfl rfl (Nat.le_of_ble_eq_true rfl) rfl (zr_bad (F := F1)) ⟨by decide, by decide, by decide, by decide⟩ (fun z9 Y9 hz => ?_)
    obtain ⟨rfl, rfl⟩ := hz
    refine zg_retb X hR rfl rfl (by decide) (by decide) (by first | exact Or.inl rfl | exact Or.inr rfl) ?_
    have hR9 : R = (1, j) := by
      rw [← hQ9]
      unfold bAct
      rw [if_neg hcase]
    exact ⟨_, _, rfl, Or.inr ⟨rfl, Or.inl ⟨by rw [hR9]; exact (by decide : ¬ (1 : Int) = 0), by rw [hR9]; rfl⟩⟩⟩
set_option maxHeartbeats 16000000 in
set_option maxRecDepth 4000 in
theorem zr_bookLine (hH : RH B P K S V RV k F) (hA : rAt P K S V F j) (hj : j ≤ k) (hRR : RK SS NR CN NM) (hI : INV CN NM x) (hRZ : ∀ q, zin64 (RV q)) (h40 : F 40 = (n : Int)) (hn40 : n ≤ 40) (hQ9 : bLine K V CN NM t n j = R) (hR99 : ¬ R.1 = 99) : ZMet (EWX xs) D cy l ex mt2_X12_bookLine (3, 0, 0, 68) (rW m F B SS HH NR RV ++ qW m RD ST) [zR (m 0)] (fun z Y => ∃ F9 RD9, Y = (rW m F9 B SS HH NR RV ++ qW m RD9 ST) ∧ kR P K S V F k R z F9) := by
  obtain ⟨mok, tok, ow⟩ := pok2.1 _ _ zj_X12_bookLine
  refine met_ofz EWX_ok mok tok ow (Nat.le_of_ble_eq_true rfl) (fun r p0 e0 s0 m0 ar0 be0 me0 c0 A0 Q0 X hR => ?_)
  have hA0 := hA
  have hH0 := hH
  have hj0 := hj
  refine zg_blk pok2 X 7 [0, 0] (S' := (11, [(1, zI (4 * (F 40))), (0, zR (m 0))], [zL 6578553, zR (m 0)], ((rW m F B SS HH NR RV) ++ (qW m RD ST)))) rfl ⟨rfl, trivial⟩ ?_
  refine zg_callV pok2 EWX_ok X 0 (vas := [zL 6578553]) (vr := []) (Y1 := (rW m F B SS HH NR RV)) (Y2 := (qW m RD ST)) rfl rfl (Or.inl rfl) zj_X12_isWord rfl rfl rfl rfl (Nat.le_of_ble_eq_true rfl) rfl (zr_isWord (w := 17) (F := F) (j := j) (by omega) hA0) ⟨by decide, by decide, by decide, by decide⟩ (fun z9 Y9 hz => ?_)
  rcases hz with ⟨hw17, rfl, rfl⟩ | ⟨hw17, rfl, rfl⟩
  · have hw17 : K j = 2 ∧ V j = 17 := hw17
    refine zg_blk pok2 X 2 [] (S' := (16, [(2, zI 1), (1, zI (4 * (F 40))), (0, zR (m 0))], [zI 1], ((rW m F B SS HH NR RV) ++ (qW m RD ST)))) rfl trivial ?_
    refine zg_if X 36 rfl rfl (by unfold zin; omega) (fun g1 => ?_) (fun g1 => ?_)
    · simp only [x_cnd] at g1
      refine zg_blk pok2 X 3 [0] (S' := (42, [(2, zI 1), (1, zI (4 * (F 40))), (0, zR (m 0))], [zI 40, zI (F 40)], ((rW m F B SS HH NR RV) ++ (qW m RD ST)))) rfl ⟨rfl, trivial⟩ ?_
      refine zg_icmp X 51 rfl rfl (by unfold zin; omega) (by unfold zin; omega) (fun g2 => ?_) (fun g2 => ?_)
      · simp only [x_cnd] at g2
        refine zg_blk pok2 X 4 [0] (S' := (57, [(3, zI (F 18)), (2, zI 1), (1, zI (4 * (F 40))), (0, zR (m 0))], [zR (m 0)], ((rW m F B SS HH NR RV) ++ (qW m RD ST)))) rfl ⟨rfl, trivial⟩ ?_
        have hj1 : j + 1 ≤ k := hH0.len hj0 (by omega) (by omega)
        refine zg_callV pok2 EWX_ok X 0 (vas := []) (vr := []) (Y1 := (rW m F B SS HH NR RV)) (Y2 := (qW m RD ST)) rfl rfl (Or.inl rfl) zj_X12_next rfl rfl rfl rfl (Nat.le_of_ble_eq_true rfl) rfl (zr_next (F := F) hH0.1 hH0.2.1 (by have e4 := hA0.2.2 (by omega) (by omega); have hp := hH0.2.2.2.1.2.2.2.2.2 (j + 1) hj1; show 0 ≤ F 4 ∧ F 4 ≤ F 3; omega) (by have h9 := hH0.2.2.1; show 0 ≤ F 5 ∧ F 5 ≤ 1000; omega)) ⟨by decide, by decide, by decide, by decide⟩ (fun z9 Y9 hz => ?_)
        obtain ⟨rfl, Fa, rfl, hrt, hfrt⟩ := hz
        have hA1 : rAt P K S V Fa (j + 1) := rnext_ok (F := F) (j := j) hH0 hA0 hj1 (by omega) (by omega) hrt
        have hH1 : RH B P K S V RV k Fa := RH.fr2 hH0 (show Fa 3 = F 3 from hfrt.fr4.1) (show Fa 5 = F 5 from hfrt.fr4.2.1)
        have e3_Fa : Fa 3 = F 3 := hfrt 3 (by decide) (by decide) (by decide) (by decide) (by decide) (by decide)
        have e5_Fa : Fa 5 = F 5 := hfrt 5 (by decide) (by decide) (by decide) (by decide) (by decide) (by decide)
        have e15_Fa : Fa 15 = F 15 := hfrt 15 (by decide) (by decide) (by decide) (by decide) (by decide) (by decide)
        have e18_Fa : Fa 18 = F 18 := hfrt 18 (by decide) (by decide) (by decide) (by decide) (by decide) (by decide)
        have e40_Fa : Fa 40 = F 40 := hfrt 40 (by decide) (by decide) (by decide) (by decide) (by decide) (by decide)
        refine zg_blk pok2 X 6 [0, 6] (S' := (69, [(3, zI (F 18)), (2, zI 1), (1, zI (4 * (F 40))), (0, zR (m 0))], [zI 1], ((rW m Fa B SS HH NR RV) ++ (qW m (zup RD ((4 * (F 40)).toNat) 6) ST)))) rfl ⟨rfl, rfl, rfl, (show zidx (4 * (F 40)) 160 from by unfold zidx; omega), trivial⟩ ?_
        refine zg_if X 98 rfl rfl (by unfold zin; omega) (fun g3 => ?_) (fun g3 => ?_)
        · exact absurd (show (1 : Int) = (0 : Int) from g3) (by decide)
        · simp only [x_ncd] at g3
          refine zg_blk pok2 X 3 [] (S' := (76, [(3, zI (F 18)), (2, zI 1), (1, zI (4 * (F 40))), (0, zR (m 0))], [zI 60, zI 1, zR (m 0)], ((rW m Fa B SS HH NR RV) ++ (qW m (zup RD ((4 * (F 40)).toNat) 6) ST)))) rfl trivial ?_
          refine zg_callV pok2 EWX_ok X 0 (vas := [zI 1, zI 60]) (vr := []) (Y1 := (rW m Fa B SS HH NR RV)) (Y2 := (qW m (zup RD ((4 * (F 40)).toNat) 6) ST)) rfl rfl (Or.inl rfl) zj_X12_takes rfl rfl rfl rfl (Nat.le_of_ble_eq_true rfl) rfl (zr_takes9 (F := Fa) (j := (j + 1)) (by omega) (by omega) hH1 hA1 hj1) ⟨by decide, by decide, by decide, by decide⟩ (fun z9 Y9 hz => ?_)
          rcases hz with ⟨hnu, rfl, Fb, rfl, hA2, hj2, hfr⟩ | ⟨hnu, rfl, Fc, rfl, hb1⟩
          · have e3_Fb : Fb 3 = Fa 3 := by have h9 := hfr.1; show Fb 3 = Fa 3; omega
            have e5_Fb : Fb 5 = Fa 5 := by have h9 := hfr.2.1; show Fb 5 = Fa 5; omega
            have e15_Fb : Fb 15 = Fa 15 := by have h9 := hfr.2.2.1; show Fb 15 = Fa 15; omega
            have e40_Fb : Fb 40 = Fa 40 := by have h9 := hfr.2.2.2; show Fb 40 = Fa 40; omega
            refine zg_if X 84 rfl rfl (by unfold zin; omega) (fun g4 => ?_) (fun g4 => ?_)
            · simp only [x_cnd] at g4
              refine zg_blk pok2 X 9 [0, 0, 6] (S' := (97, [(3, zI (F 18)), (2, zI 1), (1, zI (4 * (F 40))), (0, zR (m 0))], [zI 1], ((rW m Fb B SS HH NR RV) ++ (qW m (zup (zup RD ((4 * (F 40)).toNat) 6) (((4 * (F 40)) + 1).toNat) (Fb 18)) ST)))) rfl ⟨rfl, rfl, rfl, rfl, (show zidx ((4 * (F 40)) + 1) 160 from by unfold zidx; omega), trivial⟩ ?_
              refine zg_retb X hR rfl rfl (by decide) (by decide) (by first | exact Or.inl rfl | exact Or.inr rfl) ?_
              have hR9 : R = (0, j + 2) := by
                rw [← hQ9, bLine_e, if_pos hw17, if_neg (by omega), if_pos hnu]
              exact ⟨_, _, rfl, Or.inl ⟨by rw [hR9], rfl, by rw [hR9]; exact hA2, by rw [hR9]; exact hj2, ⟨by show Fb 3 = F 3; omega, by show Fb 5 = F 5; omega, by show Fb 15 = F 15; omega, by show Fb 40 = F 40; omega⟩⟩⟩
            · exact absurd (show (1 : Int) = (0 : Int) from g4) (by decide)
          · refine zg_if X 84 rfl rfl (by unfold zin; omega) (fun g5 => ?_) (fun g5 => ?_)
            · exact absurd (show ¬ (0 : Int) = (0 : Int) from g5) (by decide)
            · simp only [x_ncd] at g5
              refine zg_blk pok2 X 1 [] (S' := (83, [(3, zI (F 18)), (2, zI 1), (1, zI (4 * (F 40))), (0, zR (m 0))], [zI 0], ((rW m Fc B SS HH NR RV) ++ (qW m (zup RD ((4 * (F 40)).toNat) 6) ST)))) rfl trivial ?_
              refine zg_retb X hR rfl rfl (by decide) (by decide) (by first | exact Or.inl rfl | exact Or.inr rfl) ?_
              have hR9 : R = (nmF K V 1 60 (j + 1), j + 1) := by
                rw [← hQ9, bLine_e, if_pos hw17, if_neg (by omega), if_neg hnu]
              exact ⟨_, _, rfl, Or.inr ⟨rfl, Or.inl ⟨by rw [hR9]; exact hnu, by rw [hR9]; exact hb1⟩⟩⟩
      · simp only [x_ncd] at g2
        refine zg_blk pok2 X 2 [] (S' := (47, [(2, zI 1), (1, zI (4 * (F 40))), (0, zR (m 0))], [zI 4, zR (m 0)], ((rW m F B SS HH NR RV) ++ (qW m RD ST)))) rfl trivial ?_
        refine zg_callV pok2 EWX_ok X 0 (vas := [zI 4]) (vr := []) (Y1 := (rW m F B SS HH NR RV)) (Y2 := (qW m RD ST)) rfl rfl (Or.inl rfl) zj_X12_bad rfl rfl rfl rfl (Nat.le_of_ble_eq_true rfl) rfl (zr_bad (F := F)) ⟨by decide, by decide, by decide, by decide⟩ (fun z9 Y9 hz => ?_)
        obtain ⟨rfl, rfl⟩ := hz
        refine zg_retb X hR rfl rfl (by decide) (by decide) (by first | exact Or.inl rfl | exact Or.inr rfl) ?_
        have hR9 : R = (4, j) := by
          rw [← hQ9, bLine_e, if_pos hw17, if_pos (by omega)]
        exact ⟨_, _, rfl, Or.inr ⟨rfl, Or.inl ⟨by rw [hR9]; exact (by decide : ¬ (4 : Int) = 0), by rw [hR9]; rfl⟩⟩⟩
    · exact absurd (show (1 : Int) = (0 : Int) from g1) (by decide)
  · have hw17 : ¬ (K j = 2 ∧ V j = 17) := hw17
    refine zg_blk pok2 X 2 [] (S' := (16, [(2, zI 0), (1, zI (4 * (F 40))), (0, zR (m 0))], [zI 0], ((rW m F B SS HH NR RV) ++ (qW m RD ST)))) rfl trivial ?_
    refine zg_if X 36 rfl rfl (by unfold zin; omega) (fun g6 => ?_) (fun g6 => ?_)
    · exact absurd (show ¬ (0 : Int) = (0 : Int) from g6) (by decide)
    · simp only [x_ncd] at g6
      refine zg_blk pok2 X 6 [0, 2] (S' := (28, [(2, zI 0), (1, zI (4 * (F 40))), (0, zR (m 0))], [zI (SS 3), zI 22, zR (m 0)], ((rW m F B SS HH NR RV) ++ (qW m RD ST)))) rfl ⟨rfl, rfl, rfl, (show zidx 3 269 from by unfold zidx; omega), trivial⟩ ?_
      rw [show SS 3 = (((CN 3).toNat : Nat) : Int) by have h9 := hRR.1 3 (by omega); have h8 := hI.cn 3 (by omega); omega]
      refine zg_callV pok2 EWX_ok X 0 (vas := [zI 22, zI (((CN 3).toNat : Nat) : Int)]) (vr := []) (Y1 := (rW m F B SS HH NR RV)) (Y2 := (qW m RD ST)) rfl rfl (Or.inl rfl) zj_X12_looksAt rfl rfl rfl rfl (Nat.le_of_ble_eq_true rfl) rfl (zr_looksAt0 (sN := 3) (F := F) (j := j) (by omega) hH0 hA0 hj0 hRR hI hRZ) ⟨by decide, by decide, by decide, by decide⟩ (fun z9 Y9 hz => ?_)
      rcases hz with ⟨ht0, rfl, rfl⟩ | ⟨ht0, rfl, Fa, rfl, hb1, hb2⟩
      · have hk0 := (td_ne ht0).1
        refine zg_if X 36 rfl rfl (by unfold zin; omega) (fun g7 => ?_) (fun g7 => ?_)
        · simp only [x_cnd] at g7
          refine zg_blk pok2 X 3 [0] (S' := (42, [(2, zI 0), (1, zI (4 * (F 40))), (0, zR (m 0))], [zI 40, zI (F 40)], ((rW m (zup F 18 (lkS CN NM 3 (V j))) B SS HH NR RV) ++ (qW m RD ST)))) rfl ⟨rfl, trivial⟩ ?_
          refine zg_icmp X 51 rfl rfl (by unfold zin; omega) (by unfold zin; omega) (fun g8 => ?_) (fun g8 => ?_)
          · simp only [x_cnd] at g8
            have hlt : ¬ 40 ≤ n := by omega
            have hto : 0 ≤ 4 * F 40 ∧ 4 * F 40 ≤ 156 := by omega
            refine zg_blk pok2 X 4 [0] (S' := (57, [(3, zI (lkS CN NM 3 (V j))), (2, zI 0), (1, zI (4 * (F 40))), (0, zR (m 0))], [zR (m 0)], ((rW m (zup F 18 (lkS CN NM 3 (V j))) B SS HH NR RV) ++ (qW m RD ST)))) rfl ⟨rfl, trivial⟩ ?_
            have hj1 : j + 1 ≤ k := hH0.len hj0 (by omega) (by omega)
            refine zg_callV pok2 EWX_ok X 0 (vas := []) (vr := []) (Y1 := (rW m (zup F 18 (lkS CN NM 3 (V j))) B SS HH NR RV)) (Y2 := (qW m RD ST)) rfl rfl (Or.inl rfl) zj_X12_next rfl rfl rfl rfl (Nat.le_of_ble_eq_true rfl) rfl (zr_next (F := (zup F 18 (lkS CN NM 3 (V j)))) hH0.1 hH0.2.1 (by have e4 := hA0.2.2 (by omega) (by omega); have hp := hH0.2.2.2.1.2.2.2.2.2 (j + 1) hj1; show 0 ≤ F 4 ∧ F 4 ≤ F 3; omega) (by have h9 := hH0.2.2.1; show 0 ≤ F 5 ∧ F 5 ≤ 1000; omega)) ⟨by decide, by decide, by decide, by decide⟩ (fun z9 Y9 hz => ?_)
            obtain ⟨rfl, Fb, rfl, hrt, hfrt⟩ := hz
            have hA1 : rAt P K S V Fb (j + 1) := rnext_ok (F := (zup F 18 (lkS CN NM 3 (V j)))) (j := j) hH0 hA0 hj1 (by omega) (by omega) hrt
            have hH1 : RH B P K S V RV k Fb := RH.fr2 hH0 (show Fb 3 = F 3 from hfrt.fr4.1) (show Fb 5 = F 5 from hfrt.fr4.2.1)
            have e3_Fb : Fb 3 = F 3 := hfrt 3 (by decide) (by decide) (by decide) (by decide) (by decide) (by decide)
            have e5_Fb : Fb 5 = F 5 := hfrt 5 (by decide) (by decide) (by decide) (by decide) (by decide) (by decide)
            have e15_Fb : Fb 15 = F 15 := hfrt 15 (by decide) (by decide) (by decide) (by decide) (by decide) (by decide)
            have e18_Fb : Fb 18 = lkS CN NM 3 (V j) := hfrt 18 (by decide) (by decide) (by decide) (by decide) (by decide) (by decide)
            have e40_Fb : Fb 40 = F 40 := hfrt 40 (by decide) (by decide) (by decide) (by decide) (by decide) (by decide)
            have hfr1 : frB F Fb := ⟨by show Fb 3 = F 3; omega, by show Fb 5 = F 5; omega, by show Fb 15 = F 15; omega, by show Fb 40 = F 40; omega⟩
            refine zg_blk pok2 X 6 [0, 6] (S' := (69, [(3, zI (lkS CN NM 3 (V j))), (2, zI 0), (1, zI (4 * (F 40))), (0, zR (m 0))], [zI 0], ((rW m Fb B SS HH NR RV) ++ (qW m (zup RD ((4 * (F 40)).toNat) 6) ST)))) rfl ⟨rfl, rfl, rfl, (show zidx (4 * (F 40)) 160 from by unfold zidx; omega), trivial⟩ ?_
            refine zg_if X 98 rfl rfl (by unfold zin; omega) (fun g9 => ?_) (fun g9 => ?_)
            · simp only [x_cnd] at g9
              refine zg_blk pok2 X 2 [0] (S' := (102, [(3, zI (lkS CN NM 3 (V j))), (2, zI 0), (1, zI (4 * (F 40))), (0, zR (m 0))], [zL 1735353715, zR (m 0)], ((rW m Fb B SS HH NR RV) ++ (qW m (zup RD ((4 * (F 40)).toNat) 6) ST)))) rfl trivial ?_
              refine zg_callV pok2 EWX_ok X 0 (vas := [zL 1735353715]) (vr := []) (Y1 := (rW m Fb B SS HH NR RV)) (Y2 := (qW m (zup RD ((4 * (F 40)).toNat) 6) ST)) rfl rfl (Or.inl rfl) zj_X12_isWord rfl rfl rfl rfl (Nat.le_of_ble_eq_true rfl) rfl (zr_isWord (w := 11) (F := Fb) (j := (j + 1)) (by omega) hA1) ⟨by decide, by decide, by decide, by decide⟩ (fun z9 Y9 hz => ?_)
              rcases hz with ⟨hw11, rfl, rfl⟩ | ⟨hw11, rfl, rfl⟩
              · have hw11 : K (j + 1) = 2 ∧ V (j + 1) = 11 := hw11
                refine zg_if X 112 rfl rfl (by unfold zin; omega) (fun g10 => ?_) (fun g10 => ?_)
                · exact absurd (show (1 : Int) = (0 : Int) from g10) (by decide)
                · simp only [x_ncd] at g10
                  refine zg_blk pok2 X 2 [] (S' := (183, [(3, zI (lkS CN NM 3 (V j))), (2, zI 0), (1, zI (4 * (F 40))), (0, zR (m 0))], [zI 0], ((rW m Fb B SS HH NR RV) ++ (qW m (zup RD ((4 * (F 40)).toNat) 6) ST)))) rfl trivial ?_
                  have hQ8 : bAct K V CN NM t (j + 1) = R := by
                    rw [← hQ9, bLine_e, if_neg hw17, if_pos ht0, if_neg hlt]
                  exact zr_blT11 (F := F) hH1 hA1 hj1 hRR hI hRZ hfr1 hto hQ8 hR99 hw11 X hR
              · have hw11 : ¬ (K (j + 1) = 2 ∧ V (j + 1) = 11) := hw11
                refine zg_if X 112 rfl rfl (by unfold zin; omega) (fun g11 => ?_) (fun g11 => ?_)
                · simp only [x_cnd] at g11
                  refine zg_blk pok2 X 2 [0] (S' := (116, [(3, zI (lkS CN NM 3 (V j))), (2, zI 0), (1, zI (4 * (F 40))), (0, zR (m 0))], [zL 1634954099, zR (m 0)], ((rW m Fb B SS HH NR RV) ++ (qW m (zup RD ((4 * (F 40)).toNat) 6) ST)))) rfl trivial ?_
                  refine zg_callV pok2 EWX_ok X 0 (vas := [zL 1634954099]) (vr := []) (Y1 := (rW m Fb B SS HH NR RV)) (Y2 := (qW m (zup RD ((4 * (F 40)).toNat) 6) ST)) rfl rfl (Or.inl rfl) zj_X12_isWord rfl rfl rfl rfl (Nat.le_of_ble_eq_true rfl) rfl (zr_isWord (w := 12) (F := Fb) (j := (j + 1)) (by omega) hA1) ⟨by decide, by decide, by decide, by decide⟩ (fun z9 Y9 hz => ?_)
                  rcases hz with ⟨hw12, rfl, rfl⟩ | ⟨hw12, rfl, rfl⟩
                  · have hw12 : K (j + 1) = 2 ∧ V (j + 1) = 12 := hw12
                    refine zg_if X 126 rfl rfl (by unfold zin; omega) (fun g12 => ?_) (fun g12 => ?_)
                    · exact absurd (show (1 : Int) = (0 : Int) from g12) (by decide)
                    · simp only [x_ncd] at g12
                      refine zg_blk pok2 X 2 [] (S' := (183, [(3, zI (lkS CN NM 3 (V j))), (2, zI 0), (1, zI (4 * (F 40))), (0, zR (m 0))], [zI 1], ((rW m Fb B SS HH NR RV) ++ (qW m (zup RD ((4 * (F 40)).toNat) 6) ST)))) rfl trivial ?_
                      have hQ8 : bAct K V CN NM t (j + 1) = R := by
                        rw [← hQ9, bLine_e, if_neg hw17, if_pos ht0, if_neg hlt]
                      exact zr_blT12 (F := F) hH1 hA1 hj1 hRR hI hRZ hfr1 hto hQ8 hR99 hw12 X hR
                  · have hw12 : ¬ (K (j + 1) = 2 ∧ V (j + 1) = 12) := hw12
                    refine zg_if X 126 rfl rfl (by unfold zin; omega) (fun g13 => ?_) (fun g13 => ?_)
                    · simp only [x_cnd] at g13
                      refine zg_blk pok2 X 2 [0] (S' := (130, [(3, zI (lkS CN NM 3 (V j))), (2, zI 0), (1, zI (4 * (F 40))), (0, zR (m 0))], [zL 474080961907, zR (m 0)], ((rW m Fb B SS HH NR RV) ++ (qW m (zup RD ((4 * (F 40)).toNat) 6) ST)))) rfl trivial ?_
                      refine zg_callV pok2 EWX_ok X 0 (vas := [zL 474080961907]) (vr := []) (Y1 := (rW m Fb B SS HH NR RV)) (Y2 := (qW m (zup RD ((4 * (F 40)).toNat) 6) ST)) rfl rfl (Or.inl rfl) zj_X12_isWord rfl rfl rfl rfl (Nat.le_of_ble_eq_true rfl) rfl (zr_isWord (w := 13) (F := Fb) (j := (j + 1)) (by omega) hA1) ⟨by decide, by decide, by decide, by decide⟩ (fun z9 Y9 hz => ?_)
                      rcases hz with ⟨hw13, rfl, rfl⟩ | ⟨hw13, rfl, rfl⟩
                      · have hw13 : K (j + 1) = 2 ∧ V (j + 1) = 13 := hw13
                        refine zg_if X 140 rfl rfl (by unfold zin; omega) (fun g14 => ?_) (fun g14 => ?_)
                        · exact absurd (show (1 : Int) = (0 : Int) from g14) (by decide)
                        · simp only [x_ncd] at g14
                          refine zg_blk pok2 X 2 [] (S' := (183, [(3, zI (lkS CN NM 3 (V j))), (2, zI 0), (1, zI (4 * (F 40))), (0, zR (m 0))], [zI 2], ((rW m Fb B SS HH NR RV) ++ (qW m (zup RD ((4 * (F 40)).toNat) 6) ST)))) rfl trivial ?_
                          have hQ8 : bAct K V CN NM t (j + 1) = R := by
                            rw [← hQ9, bLine_e, if_neg hw17, if_pos ht0, if_neg hlt]
                          exact zr_blT13 (F := F) hH1 hA1 hj1 hRR hI hRZ hfr1 hto hQ8 hR99 hw13 X hR
                      · have hw13 : ¬ (K (j + 1) = 2 ∧ V (j + 1) = 13) := hw13
                        refine zg_if X 140 rfl rfl (by unfold zin; omega) (fun g15 => ?_) (fun g15 => ?_)
                        · simp only [x_cnd] at g15
                          refine zg_blk pok2 X 2 [0] (S' := (144, [(3, zI (lkS CN NM 3 (V j))), (2, zI 0), (1, zI (4 * (F 40))), (0, zR (m 0))], [zL 123623812527219, zR (m 0)], ((rW m Fb B SS HH NR RV) ++ (qW m (zup RD ((4 * (F 40)).toNat) 6) ST)))) rfl trivial ?_
                          refine zg_callV pok2 EWX_ok X 0 (vas := [zL 123623812527219]) (vr := []) (Y1 := (rW m Fb B SS HH NR RV)) (Y2 := (qW m (zup RD ((4 * (F 40)).toNat) 6) ST)) rfl rfl (Or.inl rfl) zj_X12_isWord rfl rfl rfl rfl (Nat.le_of_ble_eq_true rfl) rfl (zr_isWord (w := 14) (F := Fb) (j := (j + 1)) (by omega) hA1) ⟨by decide, by decide, by decide, by decide⟩ (fun z9 Y9 hz => ?_)
                          rcases hz with ⟨hw14, rfl, rfl⟩ | ⟨hw14, rfl, rfl⟩
                          · have hw14 : K (j + 1) = 2 ∧ V (j + 1) = 14 := hw14
                            refine zg_if X 154 rfl rfl (by unfold zin; omega) (fun g16 => ?_) (fun g16 => ?_)
                            · exact absurd (show (1 : Int) = (0 : Int) from g16) (by decide)
                            · simp only [x_ncd] at g16
                              refine zg_blk pok2 X 2 [] (S' := (183, [(3, zI (lkS CN NM 3 (V j))), (2, zI 0), (1, zI (4 * (F 40))), (0, zR (m 0))], [zI 3], ((rW m Fb B SS HH NR RV) ++ (qW m (zup RD ((4 * (F 40)).toNat) 6) ST)))) rfl trivial ?_
                              have hQ8 : bAct K V CN NM t (j + 1) = R := by
                                rw [← hQ9, bLine_e, if_neg hw17, if_pos ht0, if_neg hlt]
                              exact zr_blT14 (F := F) hH1 hA1 hj1 hRR hI hRZ hfr1 hto hQ8 hR99 hw14 X hR
                          · have hw14 : ¬ (K (j + 1) = 2 ∧ V (j + 1) = 14) := hw14
                            refine zg_if X 154 rfl rfl (by unfold zin; omega) (fun g17 => ?_) (fun g17 => ?_)
                            · simp only [x_cnd] at g17
                              refine zg_blk pok2 X 2 [0] (S' := (158, [(3, zI (lkS CN NM 3 (V j))), (2, zI 0), (1, zI (4 * (F 40))), (0, zR (m 0))], [zL 1886745715, zR (m 0)], ((rW m Fb B SS HH NR RV) ++ (qW m (zup RD ((4 * (F 40)).toNat) 6) ST)))) rfl trivial ?_
                              refine zg_callV pok2 EWX_ok X 0 (vas := [zL 1886745715]) (vr := []) (Y1 := (rW m Fb B SS HH NR RV)) (Y2 := (qW m (zup RD ((4 * (F 40)).toNat) 6) ST)) rfl rfl (Or.inl rfl) zj_X12_isWord rfl rfl rfl rfl (Nat.le_of_ble_eq_true rfl) rfl (zr_isWord (w := 15) (F := Fb) (j := (j + 1)) (by omega) hA1) ⟨by decide, by decide, by decide, by decide⟩ (fun z9 Y9 hz => ?_)
                              rcases hz with ⟨hw15, rfl, rfl⟩ | ⟨hw15, rfl, rfl⟩
                              · have hw15 : K (j + 1) = 2 ∧ V (j + 1) = 15 := hw15
                                refine zg_if X 168 rfl rfl (by unfold zin; omega) (fun g18 => ?_) (fun g18 => ?_)
                                · exact absurd (show (1 : Int) = (0 : Int) from g18) (by decide)
                                · simp only [x_ncd] at g18
                                  refine zg_blk pok2 X 2 [] (S' := (183, [(3, zI (lkS CN NM 3 (V j))), (2, zI 0), (1, zI (4 * (F 40))), (0, zR (m 0))], [zI 4], ((rW m Fb B SS HH NR RV) ++ (qW m (zup RD ((4 * (F 40)).toNat) 6) ST)))) rfl trivial ?_
                                  have hQ8 : bAct K V CN NM t (j + 1) = R := by
                                    rw [← hQ9, bLine_e, if_neg hw17, if_pos ht0, if_neg hlt]
                                  exact zr_blT15 (F := F) hH1 hA1 hj1 hRR hI hRZ hfr1 hto hQ8 hR99 hw15 X hR
                              · have hw15 : ¬ (K (j + 1) = 2 ∧ V (j + 1) = 15) := hw15
                                refine zg_if X 168 rfl rfl (by unfold zin; omega) (fun g19 => ?_) (fun g19 => ?_)
                                · simp only [x_cnd] at g19
                                  refine zg_blk pok2 X 2 [0] (S' := (172, [(3, zI (lkS CN NM 3 (V j))), (2, zI 0), (1, zI (4 * (F 40))), (0, zR (m 0))], [zL 119182682386035, zR (m 0)], ((rW m Fb B SS HH NR RV) ++ (qW m (zup RD ((4 * (F 40)).toNat) 6) ST)))) rfl trivial ?_
                                  refine zg_callV pok2 EWX_ok X 0 (vas := [zL 119182682386035]) (vr := []) (Y1 := (rW m Fb B SS HH NR RV)) (Y2 := (qW m (zup RD ((4 * (F 40)).toNat) 6) ST)) rfl rfl (Or.inl rfl) zj_X12_isWord rfl rfl rfl rfl (Nat.le_of_ble_eq_true rfl) rfl (zr_isWord (w := 16) (F := Fb) (j := (j + 1)) (by omega) hA1) ⟨by decide, by decide, by decide, by decide⟩ (fun z9 Y9 hz => ?_)
                                  rcases hz with ⟨hw16, rfl, rfl⟩ | ⟨hw16, rfl, rfl⟩
                                  · have hw16 : K (j + 1) = 2 ∧ V (j + 1) = 16 := hw16
                                    refine zg_if X 182 rfl rfl (by unfold zin; omega) (fun g20 => ?_) (fun g20 => ?_)
                                    · exact absurd (show (1 : Int) = (0 : Int) from g20) (by decide)
                                    · simp only [x_ncd] at g20
                                      refine zg_blk pok2 X 2 [] (S' := (183, [(3, zI (lkS CN NM 3 (V j))), (2, zI 0), (1, zI (4 * (F 40))), (0, zR (m 0))], [zI 5], ((rW m Fb B SS HH NR RV) ++ (qW m (zup RD ((4 * (F 40)).toNat) 6) ST)))) rfl trivial ?_
                                      have hQ8 : bAct K V CN NM t (j + 1) = R := by
                                        rw [← hQ9, bLine_e, if_neg hw17, if_pos ht0, if_neg hlt]
                                      exact zr_blT16 (F := F) hH1 hA1 hj1 hRR hI hRZ hfr1 hto hQ8 hR99 hw16 X hR
                                  · have hw16 : ¬ (K (j + 1) = 2 ∧ V (j + 1) = 16) := hw16
                                    refine zg_if X 182 rfl rfl (by unfold zin; omega) (fun g21 => ?_) (fun g21 => ?_)
                                    · simp only [x_cnd] at g21
                                      refine zg_blk pok2 X 1 [] (S' := (183, [(3, zI (lkS CN NM 3 (V j))), (2, zI 0), (1, zI (4 * (F 40))), (0, zR (m 0))], [zI (-1)], ((rW m Fb B SS HH NR RV) ++ (qW m (zup RD ((4 * (F 40)).toNat) 6) ST)))) rfl trivial ?_
                                      have hQ8 : bAct K V CN NM t (j + 1) = R := by
                                        rw [← hQ9, bLine_e, if_neg hw17, if_pos ht0, if_neg hlt]
                                      exact zr_blT0 (F := F) hH1 hA1 hj1 hRR hI hRZ hfr1 hto hQ8 hR99 (by omega) X hR
                                    · exact absurd (show ¬ (0 : Int) = (0 : Int) from g21) (by decide)
                                · exact absurd (show ¬ (0 : Int) = (0 : Int) from g19) (by decide)
                            · exact absurd (show ¬ (0 : Int) = (0 : Int) from g17) (by decide)
                        · exact absurd (show ¬ (0 : Int) = (0 : Int) from g15) (by decide)
                    · exact absurd (show ¬ (0 : Int) = (0 : Int) from g13) (by decide)
                · exact absurd (show ¬ (0 : Int) = (0 : Int) from g11) (by decide)
            · exact absurd (show ¬ (0 : Int) = (0 : Int) from g9) (by decide)
          · simp only [x_ncd] at g8
            refine zg_blk pok2 X 2 [] (S' := (47, [(2, zI 0), (1, zI (4 * (F 40))), (0, zR (m 0))], [zI 4, zR (m 0)], ((rW m (zup F 18 (lkS CN NM 3 (V j))) B SS HH NR RV) ++ (qW m RD ST)))) rfl trivial ?_
            refine zg_callV pok2 EWX_ok X 0 (vas := [zI 4]) (vr := []) (Y1 := (rW m (zup F 18 (lkS CN NM 3 (V j))) B SS HH NR RV)) (Y2 := (qW m RD ST)) rfl rfl (Or.inl rfl) zj_X12_bad rfl rfl rfl rfl (Nat.le_of_ble_eq_true rfl) rfl (zr_bad (F := (zup F 18 (lkS CN NM 3 (V j))))) ⟨by decide, by decide, by decide, by decide⟩ (fun z9 Y9 hz => ?_)
            obtain ⟨rfl, rfl⟩ := hz
            refine zg_retb X hR rfl rfl (by decide) (by decide) (by first | exact Or.inl rfl | exact Or.inr rfl) ?_
            have hR9 : R = (4, j) := by
              rw [← hQ9, bLine_e, if_neg hw17, if_pos ht0, if_pos (by omega)]
            exact ⟨_, _, rfl, Or.inr ⟨rfl, Or.inl ⟨by rw [hR9]; exact (by decide : ¬ (4 : Int) = 0), by rw [hR9]; rfl⟩⟩⟩
        · exact absurd (show (1 : Int) = (0 : Int) from g7) (by decide)
      · refine zg_if X 36 rfl rfl (by unfold zin; omega) (fun g22 => ?_) (fun g22 => ?_)
        · exact absurd (show ¬ (0 : Int) = (0 : Int) from g22) (by decide)
        · simp only [x_ncd] at g22
          refine zg_blk pok2 X 1 [] (S' := (35, [(2, zI 0), (1, zI (4 * (F 40))), (0, zR (m 0))], [zI 0], ((rW m Fa B SS HH NR RV) ++ (qW m RD ST)))) rfl trivial ?_
          refine zg_retb X hR rfl rfl (by decide) (by decide) (by first | exact Or.inl rfl | exact Or.inr rfl) ?_
          have hR9 : R = (tdF K V CN NM 3 j, j) := by
            rw [← hQ9, bLine_e, if_neg hw17, if_neg ht0]
          exact ⟨_, _, rfl, Or.inr ⟨rfl, Or.inl ⟨by rw [hR9]; exact ht0, by rw [hR9]; exact hb1⟩⟩⟩
end BR9
