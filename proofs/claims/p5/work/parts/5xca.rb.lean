/-! the reference's sentence: what stands behind one (written by wip/p39/r2.py) -/
section RT9
variable {xs : Nat → Int32} {D : va_G} {cy : Nat → ClassId} {l : Launch} {ex : Nat → Nat} {m : Nat → Nat} {F B SS HH NR RV RD ST P K S V CN NM : Nat → Int} {j k : Nat} {x T : Int} {st : List Nat} {d o : Nat}
set_option maxRecDepth 4000 in
theorem zj_X12_behind : PR2[89]? = some mt2_X12_behind := rfl
set_option maxRecDepth 4000 in
theorem zr_behind (hH : RH B P K S V RV k F) (hA : rAt P K S V F j) (hj : j ≤ k) (hRR : RK SS NR CN NM) (hI : INV CN NM x) (hRZ : ∀ q, zin64 (RV q)) (hQ : RQ F ST st d o 1) (hK0 : ¬ K j = 0) : ZMet (EWX xs) D cy l ex mt2_X12_behind (2, 0, 0, 44) (rW m F B SS HH NR RV ++ qW m RD ST) [zR (m 0)] (fun z Y => ∃ F9 RD9 ST9, Y = (rW m F9 B SS HH NR RV ++ qW m RD9 ST9) ∧ oM P K S V F F9 ST9 k z (sBe K V st d j o)) := by
  obtain ⟨mok, tok, ow⟩ := pok2.1 _ _ zj_X12_behind
  refine met_ofz EWX_ok mok tok ow (Nat.le_of_ble_eq_true rfl) (fun r p0 e0 s0 m0 ar0 be0 me0 c0 A0 Q0 X hR => ?_)
  have hA0 := hA
  have hH0 := hH
  have hj0 := hj
  obtain ⟨⟨h46, hs, h47, hdp, h44, hT, hT2⟩, h45, ho, h48, hsum, h15⟩ := hQ
  have hdl := dp_le st
  refine zg_blk pok2 X 1 [] (S' := (1, [(0, zR (m 0))], [zR (m 0)], ((rW m F B SS HH NR RV) ++ (qW m RD ST)))) rfl trivial ?_
  obtain ⟨st1, d1, hN⟩ : ∃ st1 d1, sNots st d = (st1, d1) := ⟨_, _, rfl⟩
  refine zg_callV pok2 EWX_ok X 0 (vas := []) (vr := []) (Y1 := ((rW m F B SS HH NR RV) ++ (qW m RD ST))) (Y2 := []) rfl rfl (Or.inl rfl) zj_X12_nots rfl rfl rfl rfl (Nat.le_of_ble_eq_true rfl) rfl (zr_nots (st := st) (d := d) (T := F 44 + F 46) ⟨h46, hs, h47, hdp, h44, rfl, hT2⟩) ⟨by decide, by decide, by decide, by decide⟩ (fun z9 Y9 hz => ?_)
  obtain ⟨rfl, Fa, RDn, rfl, hqa, hfa⟩ := hz
  rw [hN] at hqa
  obtain ⟨a46, as, a47, adp, a44, aT, aT2⟩ := hqa
  have e3_Fa : Fa 3 = F 3 := hfa 3 (by decide) (by decide) (by decide)
  have e5_Fa : Fa 5 = F 5 := hfa 5 (by decide) (by decide) (by decide)
  have e15_Fa : Fa 15 = F 15 := hfa 15 (by decide) (by decide) (by decide)
  have e45_Fa : Fa 45 = F 45 := hfa 45 (by decide) (by decide) (by decide)
  have e48_Fa : Fa 48 = F 48 := hfa 48 (by decide) (by decide) (by decide)
  have hA0 : rAt P K S V Fa j := hA.frM hfa
  have hH0 : RH B P K S V RV k Fa := RH.fr2 hH e3_Fa e5_Fa
  refine zg_blk pok2 X 2 [0] (S' := (8, [(0, zR (m 0))], [zL 6385252, zR (m 0)], ((rW m Fa B SS HH NR RV) ++ (qW m RDn ST)))) rfl trivial ?_
  refine zg_callV pok2 EWX_ok X 0 (vas := [zL 6385252]) (vr := []) (Y1 := (rW m Fa B SS HH NR RV)) (Y2 := (qW m RDn ST)) rfl rfl (Or.inl rfl) zj_X12_isWord rfl rfl rfl rfl (Nat.le_of_ble_eq_true rfl) rfl (zr_isWord (w := 19) (F := Fa) (j := j) (by omega) hA0) ⟨by decide, by decide, by decide, by decide⟩ (fun z9 Y9 hz => ?_)
  rcases hz with ⟨hw19, rfl, rfl⟩ | ⟨hw19, rfl, rfl⟩
  · have hw19 : K j = 2 ∧ V j = 19 := hw19
    refine zg_if X 24 rfl rfl (by unfold zin; omega) (fun g1 => ?_) (fun g1 => ?_)
    · simp only [x_cnd] at g1
      refine zg_blk pok2 X 3 [0] (S' := (29, [(0, zR (m 0))], [zL 6385252, zR (m 0), zR (m 0)], ((rW m Fa B SS HH NR RV) ++ (qW m RDn ST)))) rfl trivial ?_
      refine zg_callV pok2 EWX_ok X 0 (vas := [zL 6385252]) (vr := [zR (m 0)]) (Y1 := (rW m Fa B SS HH NR RV)) (Y2 := (qW m RDn ST)) rfl rfl (Or.inl rfl) zj_X12_isWord rfl rfl rfl rfl (Nat.le_of_ble_eq_true rfl) rfl (zr_isWord (w := 19) (F := Fa) (j := j) (by omega) hA0) ⟨by decide, by decide, by decide, by decide⟩ (fun z9 Y9 hz => ?_)
      rcases hz with ⟨hw19, rfl, rfl⟩ | ⟨hw19, rfl, rfl⟩
      · have hw19 : K j = 2 ∧ V j = 19 := hw19
        refine zg_if X 40 rfl rfl (by unfold zin; omega) (fun g2 => ?_) (fun g2 => ?_)
        · exact absurd (show (1 : Int) = (0 : Int) from g2) (by decide)
        · simp only [x_ncd] at g2
          refine zg_blk pok2 X 2 [] (S' := (42, [(0, zR (m 0))], [zI 21, zR (m 0)], ((rW m Fa B SS HH NR RV) ++ (qW m RDn ST)))) rfl trivial ?_
          refine zg_callV pok2 EWX_ok X 0 (vas := [zI 21]) (vr := []) (Y1 := ((rW m Fa B SS HH NR RV) ++ (qW m RDn ST))) (Y2 := []) rfl rfl (Or.inl rfl) zj_X12_joins rfl rfl rfl rfl (Nat.le_of_ble_eq_true rfl) rfl (zr_joins1 (st := st1) (d := d1) (T := F 44 + F 46) ⟨a46, as, a47, adp, a44, aT, aT2⟩) ⟨by decide, by decide, by decide, by decide⟩ (fun z9 Y9 hz => ?_)
          obtain ⟨rfl, Fb, RDj, rfl, hqb, hfb⟩ := hz
          obtain ⟨st2, hJ⟩ : ∃ st2, sJoin 1 st1 = st2 := ⟨_, rfl⟩
          rw [hJ] at hqb
          obtain ⟨b46, bs9, b47, bdp, b44, bT, bT2⟩ := hqb
          have e3_Fb : Fb 3 = Fa 3 := hfb 3 (by decide) (by decide) (by decide)
          have e5_Fb : Fb 5 = Fa 5 := hfb 5 (by decide) (by decide) (by decide)
          have e15_Fb : Fb 15 = Fa 15 := hfb 15 (by decide) (by decide) (by decide)
          have e45_Fb : Fb 45 = Fa 45 := hfb 45 (by decide) (by decide) (by decide)
          have e48_Fb : Fb 48 = Fa 48 := hfb 48 (by decide) (by decide) (by decide)
          have hA0 : rAt P K S V Fb j := hA0.frM hfb
          have hH0 : RH B P K S V RV k Fb := RH.fr2 hH0 e3_Fb e5_Fb
          refine zg_blk pok2 X 6 [0, 0, 0] (S' := (57, [(0, zR (m 0))], [zL 6385252, zR (m 0), zI (Fb 46), zR (m 43)], ((rW m Fb B SS HH NR RV) ++ (qW m RDj ST)))) rfl ⟨rfl, rfl, trivial⟩ ?_
          refine zg_callV pok2 EWX_ok X 0 (vas := [zL 6385252]) (vr := [zI (Fb 46), zR (m 43)]) (Y1 := (rW m Fb B SS HH NR RV)) (Y2 := (qW m RDj ST)) rfl rfl (Or.inl rfl) zj_X12_isWord rfl rfl rfl rfl (Nat.le_of_ble_eq_true rfl) rfl (zr_isWord (w := 19) (F := Fb) (j := j) (by omega) hA0) ⟨by decide, by decide, by decide, by decide⟩ (fun z9 Y9 hz => ?_)
          rcases hz with ⟨hw19, rfl, rfl⟩ | ⟨hw19, rfl, rfl⟩
          · have hw19 : K j = 2 ∧ V j = 19 := hw19
            refine zg_if X 68 rfl rfl (by unfold zin; omega) (fun g3 => ?_) (fun g3 => ?_)
            · exact absurd (show (1 : Int) = (0 : Int) from g3) (by decide)
            · simp only [x_ncd] at g3
              refine zg_blk pok2 X 13 [7, 0, 0, 0] (S' := (87, [(0, zR (m 0))], [zR (m 0)], ((rW m (zup (zup Fb 46 ((Fb 46) + 1)) 48 0) B SS HH NR RV) ++ (qW m RDj (zup ST ((Fb 46).toNat) 21))))) rfl ⟨rfl, rfl, (show zidx (Fb 46) 45 from by unfold zidx; omega), rfl, rfl, rfl, rfl, rfl, rfl, rfl, trivial⟩ ?_
              have hj1 : j + 1 ≤ k := hH0.len hj0 (by omega) (by omega)
              refine zg_callV pok2 EWX_ok X 0 (vas := []) (vr := []) (Y1 := (rW m (zup (zup Fb 46 ((Fb 46) + 1)) 48 0) B SS HH NR RV)) (Y2 := (qW m RDj (zup ST ((Fb 46).toNat) 21))) rfl rfl (Or.inl rfl) zj_X12_next rfl rfl rfl rfl (Nat.le_of_ble_eq_true rfl) rfl (zr_next (F := (zup (zup Fb 46 ((Fb 46) + 1)) 48 0)) hH0.1 hH0.2.1 (by have e4 := hA0.2.2 (by omega) (by omega); have hp := hH0.2.2.2.1.2.2.2.2.2 (j + 1) hj1; show 0 ≤ Fb 4 ∧ Fb 4 ≤ Fb 3; omega) (by have h9 := hH0.2.2.1; show 0 ≤ Fb 5 ∧ Fb 5 ≤ 1000; omega)) ⟨by decide, by decide, by decide, by decide⟩ (fun z9 Y9 hz => ?_)
              obtain ⟨rfl, Fc, rfl, hrt, hfrt⟩ := hz
              have hA1 : rAt P K S V Fc (j + 1) := rnext_ok (F := (zup (zup Fb 46 ((Fb 46) + 1)) 48 0)) (j := j) hH0 hA0 hj1 (by omega) (by omega) hrt
              have hH1 : RH B P K S V RV k Fc := RH.fr2 hH0 (show Fc 3 = Fb 3 from hfrt.fr4.1) (show Fc 5 = Fb 5 from hfrt.fr4.2.1)
              have e3_Fc : Fc 3 = Fb 3 := hfrt 3 (by decide) (by decide) (by decide) (by decide) (by decide) (by decide)
              have e5_Fc : Fc 5 = Fb 5 := hfrt 5 (by decide) (by decide) (by decide) (by decide) (by decide) (by decide)
              have e15_Fc : Fc 15 = Fb 15 := hfrt 15 (by decide) (by decide) (by decide) (by decide) (by decide) (by decide)
              have e44_Fc : Fc 44 = Fb 44 := hfrt 44 (by decide) (by decide) (by decide) (by decide) (by decide) (by decide)
              have e45_Fc : Fc 45 = Fb 45 := hfrt 45 (by decide) (by decide) (by decide) (by decide) (by decide) (by decide)
              have e46_Fc : Fc 46 = (Fb 46) + 1 := hfrt 46 (by decide) (by decide) (by decide) (by decide) (by decide) (by decide)
              have e47_Fc : Fc 47 = Fb 47 := hfrt 47 (by decide) (by decide) (by decide) (by decide) (by decide) (by decide)
              have e48_Fc : Fc 48 = 0 := hfrt 48 (by decide) (by decide) (by decide) (by decide) (by decide) (by decide)
              refine zg_blk pok2 X 1 [] (S' := (91, [(0, zR (m 0))], [zI 1], ((rW m Fc B SS HH NR RV) ++ (qW m RDj (zup ST ((Fb 46).toNat) 21))))) rfl trivial ?_
              refine zg_retb X hR rfl rfl (by decide) (by decide) (by first | exact Or.inl rfl | exact Or.inr rfl) ?_
              refine ⟨_, _, _, rfl, ?_⟩
              refine Or.inl ?_
              unfold sBe
              rw [hN]
              dsimp only
              rw [if_pos hw19, hJ]
              try dsimp only
              exact ⟨rfl, rfl, hA1, hj1, ⟨⟨by show (Fc 46) = _; simp only [List.length_cons]; omega, stk_push (x := 1) (by omega) bs9, by show (Fc 47) = _; omega, by show _ = dp st2 + 1; omega, by show 0 ≤ (Fc 44); omega, rfl, by show (Fc 44) + (Fc 46) ≤ 40; omega⟩, by show (Fc 45) = _; omega, by omega, by show (Fc 48) = _; omega, by show (Fc 44) + (Fc 46) + _ ≤ _; omega, by show (Fc 15) = _; omega⟩, by show Fc 3 = F 3; omega, by show Fc 5 = F 5; omega⟩
          · exfalso
            omega
      · exfalso
        omega
    · exact absurd (show (1 : Int) = (0 : Int) from g1) (by decide)
  · have hw19 : ¬ (K j = 2 ∧ V j = 19) := hw19
    refine zg_if X 24 rfl rfl (by unfold zin; omega) (fun g4 => ?_) (fun g4 => ?_)
    · exact absurd (show ¬ (0 : Int) = (0 : Int) from g4) (by decide)
    · simp only [x_ncd] at g4
      refine zg_blk pok2 X 2 [0] (S' := (18, [(0, zR (m 0))], [zL 28530, zR (m 0)], ((rW m Fa B SS HH NR RV) ++ (qW m RDn ST)))) rfl trivial ?_
      refine zg_callV pok2 EWX_ok X 0 (vas := [zL 28530]) (vr := []) (Y1 := (rW m Fa B SS HH NR RV)) (Y2 := (qW m RDn ST)) rfl rfl (Or.inl rfl) zj_X12_isWord rfl rfl rfl rfl (Nat.le_of_ble_eq_true rfl) rfl (zr_isWord (w := 18) (F := Fa) (j := j) (by omega) hA0) ⟨by decide, by decide, by decide, by decide⟩ (fun z9 Y9 hz => ?_)
      rcases hz with ⟨hw18, rfl, rfl⟩ | ⟨hw18, rfl, rfl⟩
      · have hw18 : K j = 2 ∧ V j = 18 := hw18
        refine zg_if X 92 rfl rfl (by unfold zin; omega) (fun g5 => ?_) (fun g5 => ?_)
        · exact absurd (show (1 : Int) = (0 : Int) from g5) (by decide)
        · simp only [x_ncd] at g5
          refine zg_blk pok2 X 3 [0] (S' := (29, [(0, zR (m 0))], [zL 6385252, zR (m 0), zR (m 0)], ((rW m Fa B SS HH NR RV) ++ (qW m RDn ST)))) rfl trivial ?_
          refine zg_callV pok2 EWX_ok X 0 (vas := [zL 6385252]) (vr := [zR (m 0)]) (Y1 := (rW m Fa B SS HH NR RV)) (Y2 := (qW m RDn ST)) rfl rfl (Or.inl rfl) zj_X12_isWord rfl rfl rfl rfl (Nat.le_of_ble_eq_true rfl) rfl (zr_isWord (w := 19) (F := Fa) (j := j) (by omega) hA0) ⟨by decide, by decide, by decide, by decide⟩ (fun z9 Y9 hz => ?_)
          rcases hz with ⟨hw19, rfl, rfl⟩ | ⟨hw19, rfl, rfl⟩
          · exfalso
            omega
          · have hw19 : ¬ (K j = 2 ∧ V j = 19) := hw19
            refine zg_if X 40 rfl rfl (by unfold zin; omega) (fun g6 => ?_) (fun g6 => ?_)
            · simp only [x_cnd] at g6
              refine zg_blk pok2 X 1 [] (S' := (42, [(0, zR (m 0))], [zI 22, zR (m 0)], ((rW m Fa B SS HH NR RV) ++ (qW m RDn ST)))) rfl trivial ?_
              refine zg_callV pok2 EWX_ok X 0 (vas := [zI 22]) (vr := []) (Y1 := ((rW m Fa B SS HH NR RV) ++ (qW m RDn ST))) (Y2 := []) rfl rfl (Or.inl rfl) zj_X12_joins rfl rfl rfl rfl (Nat.le_of_ble_eq_true rfl) rfl (zr_joins2 (st := st1) (d := d1) (T := F 44 + F 46) ⟨a46, as, a47, adp, a44, aT, aT2⟩) ⟨by decide, by decide, by decide, by decide⟩ (fun z9 Y9 hz => ?_)
              obtain ⟨rfl, Fb, RDj, rfl, hqb, hfb⟩ := hz
              obtain ⟨st2, hJ⟩ : ∃ st2, sJoin 2 st1 = st2 := ⟨_, rfl⟩
              rw [hJ] at hqb
              obtain ⟨b46, bs9, b47, bdp, b44, bT, bT2⟩ := hqb
              have e3_Fb : Fb 3 = Fa 3 := hfb 3 (by decide) (by decide) (by decide)
              have e5_Fb : Fb 5 = Fa 5 := hfb 5 (by decide) (by decide) (by decide)
              have e15_Fb : Fb 15 = Fa 15 := hfb 15 (by decide) (by decide) (by decide)
              have e45_Fb : Fb 45 = Fa 45 := hfb 45 (by decide) (by decide) (by decide)
              have e48_Fb : Fb 48 = Fa 48 := hfb 48 (by decide) (by decide) (by decide)
              have hA0 : rAt P K S V Fb j := hA0.frM hfb
              have hH0 : RH B P K S V RV k Fb := RH.fr2 hH0 e3_Fb e5_Fb
              refine zg_blk pok2 X 6 [0, 0, 0] (S' := (57, [(0, zR (m 0))], [zL 6385252, zR (m 0), zI (Fb 46), zR (m 43)], ((rW m Fb B SS HH NR RV) ++ (qW m RDj ST)))) rfl ⟨rfl, rfl, trivial⟩ ?_
              refine zg_callV pok2 EWX_ok X 0 (vas := [zL 6385252]) (vr := [zI (Fb 46), zR (m 43)]) (Y1 := (rW m Fb B SS HH NR RV)) (Y2 := (qW m RDj ST)) rfl rfl (Or.inl rfl) zj_X12_isWord rfl rfl rfl rfl (Nat.le_of_ble_eq_true rfl) rfl (zr_isWord (w := 19) (F := Fb) (j := j) (by omega) hA0) ⟨by decide, by decide, by decide, by decide⟩ (fun z9 Y9 hz => ?_)
              rcases hz with ⟨hw19, rfl, rfl⟩ | ⟨hw19, rfl, rfl⟩
              · exfalso
                omega
              · have hw19 : ¬ (K j = 2 ∧ V j = 19) := hw19
                refine zg_if X 68 rfl rfl (by unfold zin; omega) (fun g7 => ?_) (fun g7 => ?_)
                · simp only [x_cnd] at g7
                  refine zg_blk pok2 X 12 [7, 0, 0, 0] (S' := (87, [(0, zR (m 0))], [zR (m 0)], ((rW m (zup (zup Fb 46 ((Fb 46) + 1)) 48 0) B SS HH NR RV) ++ (qW m RDj (zup ST ((Fb 46).toNat) 22))))) rfl ⟨rfl, rfl, (show zidx (Fb 46) 45 from by unfold zidx; omega), rfl, rfl, rfl, rfl, rfl, rfl, rfl, trivial⟩ ?_
                  have hj1 : j + 1 ≤ k := hH0.len hj0 (by omega) (by omega)
                  refine zg_callV pok2 EWX_ok X 0 (vas := []) (vr := []) (Y1 := (rW m (zup (zup Fb 46 ((Fb 46) + 1)) 48 0) B SS HH NR RV)) (Y2 := (qW m RDj (zup ST ((Fb 46).toNat) 22))) rfl rfl (Or.inl rfl) zj_X12_next rfl rfl rfl rfl (Nat.le_of_ble_eq_true rfl) rfl (zr_next (F := (zup (zup Fb 46 ((Fb 46) + 1)) 48 0)) hH0.1 hH0.2.1 (by have e4 := hA0.2.2 (by omega) (by omega); have hp := hH0.2.2.2.1.2.2.2.2.2 (j + 1) hj1; show 0 ≤ Fb 4 ∧ Fb 4 ≤ Fb 3; omega) (by have h9 := hH0.2.2.1; show 0 ≤ Fb 5 ∧ Fb 5 ≤ 1000; omega)) ⟨by decide, by decide, by decide, by decide⟩ (fun z9 Y9 hz => ?_)
                  obtain ⟨rfl, Fc, rfl, hrt, hfrt⟩ := hz
                  have hA1 : rAt P K S V Fc (j + 1) := rnext_ok (F := (zup (zup Fb 46 ((Fb 46) + 1)) 48 0)) (j := j) hH0 hA0 hj1 (by omega) (by omega) hrt
                  have hH1 : RH B P K S V RV k Fc := RH.fr2 hH0 (show Fc 3 = Fb 3 from hfrt.fr4.1) (show Fc 5 = Fb 5 from hfrt.fr4.2.1)
                  have e3_Fc : Fc 3 = Fb 3 := hfrt 3 (by decide) (by decide) (by decide) (by decide) (by decide) (by decide)
                  have e5_Fc : Fc 5 = Fb 5 := hfrt 5 (by decide) (by decide) (by decide) (by decide) (by decide) (by decide)
                  have e15_Fc : Fc 15 = Fb 15 := hfrt 15 (by decide) (by decide) (by decide) (by decide) (by decide) (by decide)
                  have e44_Fc : Fc 44 = Fb 44 := hfrt 44 (by decide) (by decide) (by decide) (by decide) (by decide) (by decide)
                  have e45_Fc : Fc 45 = Fb 45 := hfrt 45 (by decide) (by decide) (by decide) (by decide) (by decide) (by decide)
                  have e46_Fc : Fc 46 = (Fb 46) + 1 := hfrt 46 (by decide) (by decide) (by decide) (by decide) (by decide) (by decide)
                  have e47_Fc : Fc 47 = Fb 47 := hfrt 47 (by decide) (by decide) (by decide) (by decide) (by decide) (by decide)
                  have e48_Fc : Fc 48 = 0 := hfrt 48 (by decide) (by decide) (by decide) (by decide) (by decide) (by decide)
                  refine zg_blk pok2 X 1 [] (S' := (91, [(0, zR (m 0))], [zI 1], ((rW m Fc B SS HH NR RV) ++ (qW m RDj (zup ST ((Fb 46).toNat) 22))))) rfl trivial ?_
                  refine zg_retb X hR rfl rfl (by decide) (by decide) (by first | exact Or.inl rfl | exact Or.inr rfl) ?_
                  refine ⟨_, _, _, rfl, ?_⟩
                  refine Or.inl ?_
                  unfold sBe
                  rw [hN]
                  dsimp only
                  rw [if_neg hw19, if_pos hw18, hJ]
                  try dsimp only
                  exact ⟨rfl, rfl, hA1, hj1, ⟨⟨by show (Fc 46) = _; simp only [List.length_cons]; omega, stk_push (x := 2) (by omega) bs9, by show (Fc 47) = _; omega, by show _ = dp st2 + 1; omega, by show 0 ≤ (Fc 44); omega, rfl, by show (Fc 44) + (Fc 46) ≤ 40; omega⟩, by show (Fc 45) = _; omega, by omega, by show (Fc 48) = _; omega, by show (Fc 44) + (Fc 46) + _ ≤ _; omega, by show (Fc 15) = _; omega⟩, by show Fc 3 = F 3; omega, by show Fc 5 = F 5; omega⟩
                · exact absurd (show ¬ (0 : Int) = (0 : Int) from g7) (by decide)
            · exact absurd (show ¬ (0 : Int) = (0 : Int) from g6) (by decide)
      · have hw18 : ¬ (K j = 2 ∧ V j = 18) := hw18
        refine zg_if X 92 rfl rfl (by unfold zin; omega) (fun g8 => ?_) (fun g8 => ?_)
        · simp only [x_cnd] at g8
          refine zg_blk pok2 X 2 [] (S' := (95, [(0, zR (m 0))], [zI 22, zR (m 0)], ((rW m Fa B SS HH NR RV) ++ (qW m RDn ST)))) rfl trivial ?_
          refine zg_callV pok2 EWX_ok X 0 (vas := [zI 22]) (vr := []) (Y1 := ((rW m Fa B SS HH NR RV) ++ (qW m RDn ST))) (Y2 := []) rfl rfl (Or.inl rfl) zj_X12_joins rfl rfl rfl rfl (Nat.le_of_ble_eq_true rfl) rfl (zr_joins2 (st := st1) (d := d1) (T := F 44 + F 46) ⟨a46, as, a47, adp, a44, aT, aT2⟩) ⟨by decide, by decide, by decide, by decide⟩ (fun z9 Y9 hz => ?_)
          obtain ⟨rfl, Fb, RDj, rfl, hqb, hfb⟩ := hz
          obtain ⟨st2, hJ⟩ : ∃ st2, sJoin 2 st1 = st2 := ⟨_, rfl⟩
          rw [hJ] at hqb
          obtain ⟨b46, bs9, b47, bdp, b44, bT, bT2⟩ := hqb
          have e3_Fb : Fb 3 = Fa 3 := hfb 3 (by decide) (by decide) (by decide)
          have e5_Fb : Fb 5 = Fa 5 := hfb 5 (by decide) (by decide) (by decide)
          have e15_Fb : Fb 15 = Fa 15 := hfb 15 (by decide) (by decide) (by decide)
          have e45_Fb : Fb 45 = Fa 45 := hfb 45 (by decide) (by decide) (by decide)
          have e48_Fb : Fb 48 = Fa 48 := hfb 48 (by decide) (by decide) (by decide)
          have hA0 : rAt P K S V Fb j := hA0.frM hfb
          have hH0 : RH B P K S V RV k Fb := RH.fr2 hH0 e3_Fb e5_Fb
          refine zg_blk pok2 X 2 [] (S' := (101, [(0, zR (m 0))], [zI 41, zR (m 0)], ((rW m Fb B SS HH NR RV) ++ (qW m RDj ST)))) rfl trivial ?_
          refine zg_callV pok2 EWX_ok X 0 (vas := [zI 41]) (vr := []) (Y1 := (rW m Fb B SS HH NR RV)) (Y2 := (qW m RDj ST)) rfl rfl (Or.inl rfl) zj_X12_isSign rfl rfl rfl rfl (Nat.le_of_ble_eq_true rfl) rfl (zr_isSign (z1 := 41) (F := Fb) (j := j) (by omega) hA0) ⟨by decide, by decide, by decide, by decide⟩ (fun z9 Y9 hz => ?_)
          rcases hz with ⟨hs9, rfl, rfl⟩ | ⟨hs9, rfl, rfl⟩
          · refine zg_if X 114 rfl rfl (by unfold zin; omega) (fun g9 => ?_) (fun g9 => ?_)
            · exact absurd (show (1 : Int) = (0 : Int) from g9) (by decide)
            · simp only [x_ncd] at g9
              refine zg_blk pok2 X 2 [0] (S' := (111, [(0, zR (m 0))], [zI (Fb 46)], ((rW m Fb B SS HH NR RV) ++ (qW m RDj ST)))) rfl ⟨rfl, trivial⟩ ?_
              refine zg_if X 120 rfl rfl (by unfold zin; omega) (fun g10 => ?_) (fun g10 => ?_)
              · simp only [x_cnd] at g10
                refine zg_blk pok2 X 13 [0, 0, 0, 0] (S' := (141, [(0, zR (m 0))], [zR (m 0)], ((rW m (zup (zup Fb 46 ((Fb 46) - 1)) 47 ((Fb 47) - 1)) B SS HH NR RV) ++ (qW m RDj ST)))) rfl ⟨rfl, rfl, rfl, rfl, rfl, rfl, rfl, rfl, trivial⟩ ?_
                have hj1 : j + 1 ≤ k := hH0.len hj0 (by omega) (by omega)
                refine zg_callV pok2 EWX_ok X 0 (vas := []) (vr := []) (Y1 := (rW m (zup (zup Fb 46 ((Fb 46) - 1)) 47 ((Fb 47) - 1)) B SS HH NR RV)) (Y2 := (qW m RDj ST)) rfl rfl (Or.inl rfl) zj_X12_next rfl rfl rfl rfl (Nat.le_of_ble_eq_true rfl) rfl (zr_next (F := (zup (zup Fb 46 ((Fb 46) - 1)) 47 ((Fb 47) - 1))) hH0.1 hH0.2.1 (by have e4 := hA0.2.2 (by omega) (by omega); have hp := hH0.2.2.2.1.2.2.2.2.2 (j + 1) hj1; show 0 ≤ Fb 4 ∧ Fb 4 ≤ Fb 3; omega) (by have h9 := hH0.2.2.1; show 0 ≤ Fb 5 ∧ Fb 5 ≤ 1000; omega)) ⟨by decide, by decide, by decide, by decide⟩ (fun z9 Y9 hz => ?_)
                obtain ⟨rfl, Fc, rfl, hrt, hfrt⟩ := hz
                have hA1 : rAt P K S V Fc (j + 1) := rnext_ok (F := (zup (zup Fb 46 ((Fb 46) - 1)) 47 ((Fb 47) - 1))) (j := j) hH0 hA0 hj1 (by omega) (by omega) hrt
                have hH1 : RH B P K S V RV k Fc := RH.fr2 hH0 (show Fc 3 = Fb 3 from hfrt.fr4.1) (show Fc 5 = Fb 5 from hfrt.fr4.2.1)
                have e3_Fc : Fc 3 = Fb 3 := hfrt 3 (by decide) (by decide) (by decide) (by decide) (by decide) (by decide)
                have e5_Fc : Fc 5 = Fb 5 := hfrt 5 (by decide) (by decide) (by decide) (by decide) (by decide) (by decide)
                have e15_Fc : Fc 15 = Fb 15 := hfrt 15 (by decide) (by decide) (by decide) (by decide) (by decide) (by decide)
                have e44_Fc : Fc 44 = Fb 44 := hfrt 44 (by decide) (by decide) (by decide) (by decide) (by decide) (by decide)
                have e45_Fc : Fc 45 = Fb 45 := hfrt 45 (by decide) (by decide) (by decide) (by decide) (by decide) (by decide)
                have e46_Fc : Fc 46 = (Fb 46) - 1 := hfrt 46 (by decide) (by decide) (by decide) (by decide) (by decide) (by decide)
                have e47_Fc : Fc 47 = (Fb 47) - 1 := hfrt 47 (by decide) (by decide) (by decide) (by decide) (by decide) (by decide)
                have e48_Fc : Fc 48 = Fb 48 := hfrt 48 (by decide) (by decide) (by decide) (by decide) (by decide) (by decide)
                refine zg_blk pok2 X 1 [] (S' := (145, [(0, zR (m 0))], [zI 1], ((rW m Fc B SS HH NR RV) ++ (qW m RDj ST)))) rfl trivial ?_
                refine zg_retb X hR rfl rfl (by decide) (by decide) (by first | exact Or.inl rfl | exact Or.inr rfl) ?_
                refine ⟨_, _, _, rfl, ?_⟩
                obtain ⟨y9, r9, hy9⟩ : ∃ y9 r9, st2 = y9 :: r9 := by
                  cases st2 with
                  | nil => exact absurd (show Fb 46 = 0 from b46) (by omega)
                  | cons a b => exact ⟨a, b, rfl⟩
                have hyy := sJoin2_hd (hJ.trans hy9)
                subst hy9
                have bdp9 : d1 = dp r9 + 1 + 1 := by rw [dp_ne hyy.1 hyy.2] at bdp; exact bdp
                have b46 : Fb 46 = ((r9.length : Nat) : Int) + 1 := by rw [b46]; simp
                refine Or.inl ?_
                unfold sBe
                rw [hN]
                dsimp only
                rw [if_neg hw19, if_neg hw18, if_pos ⟨hs9, by rw [hJ]; simp⟩, hJ]
                dsimp only [List.tail]
                exact ⟨rfl, rfl, hA1, hj1, ⟨⟨by show (Fc 46) = _; omega, bs9.2, by show (Fc 47) = _; omega, by omega, by show 0 ≤ (Fc 44); omega, rfl, by show (Fc 44) + (Fc 46) ≤ 40; omega⟩, by show (Fc 45) = _; omega, by omega, by show (Fc 48) = _; omega, by show (Fc 44) + (Fc 46) + _ ≤ _; omega, by show (Fc 15) = _; omega⟩, by show Fc 3 = F 3; omega, by show Fc 5 = F 5; omega⟩
              · simp only [x_ncd] at g10
                refine zg_blk pok2 X 2 [] (S' := (116, [(0, zR (m 0))], [zI 1, zR (m 0)], ((rW m Fb B SS HH NR RV) ++ (qW m RDj ST)))) rfl trivial ?_
                refine zg_callV pok2 EWX_ok X 0 (vas := [zI 1]) (vr := []) (Y1 := (rW m Fb B SS HH NR RV)) (Y2 := (qW m RDj ST)) rfl rfl (Or.inl rfl) zj_X12_bad rfl rfl rfl rfl (Nat.le_of_ble_eq_true rfl) rfl (zr_bad (F := Fb)) ⟨by decide, by decide, by decide, by decide⟩ (fun z9 Y9 hz => ?_)
                obtain ⟨rfl, rfl⟩ := hz
                refine zg_retb X hR rfl rfl (by decide) (by decide) (by first | exact Or.inl rfl | exact Or.inr rfl) ?_
                refine ⟨_, _, _, rfl, ?_⟩
                refine Or.inr ?_
                unfold sBe
                rw [hN]
                dsimp only
                rw [if_neg hw19, if_neg hw18, if_neg (fun h => h.2 (by rw [hJ]; exact List.eq_nil_of_length_eq_zero (by omega)))]
                exact ⟨show ¬ (1 : Int) = 0 by decide, rfl, rfl, hA0.1⟩
          · refine zg_if X 114 rfl rfl (by unfold zin; omega) (fun g11 => ?_) (fun g11 => ?_)
            · simp only [x_cnd] at g11
              refine zg_blk pok2 X 2 [] (S' := (116, [(0, zR (m 0))], [zI 1, zR (m 0)], ((rW m Fb B SS HH NR RV) ++ (qW m RDj ST)))) rfl trivial ?_
              refine zg_callV pok2 EWX_ok X 0 (vas := [zI 1]) (vr := []) (Y1 := (rW m Fb B SS HH NR RV)) (Y2 := (qW m RDj ST)) rfl rfl (Or.inl rfl) zj_X12_bad rfl rfl rfl rfl (Nat.le_of_ble_eq_true rfl) rfl (zr_bad (F := Fb)) ⟨by decide, by decide, by decide, by decide⟩ (fun z9 Y9 hz => ?_)
              obtain ⟨rfl, rfl⟩ := hz
              refine zg_retb X hR rfl rfl (by decide) (by decide) (by first | exact Or.inl rfl | exact Or.inr rfl) ?_
              refine ⟨_, _, _, rfl, ?_⟩
              refine Or.inr ?_
              unfold sBe
              rw [hN]
              dsimp only
              rw [if_neg hw19, if_neg hw18, if_neg (fun h => hs9 h.1)]
              exact ⟨show ¬ (1 : Int) = 0 by decide, rfl, rfl, hA0.1⟩
            · exact absurd (show ¬ (0 : Int) = (0 : Int) from g11) (by decide)
        · exact absurd (show ¬ (0 : Int) = (0 : Int) from g8) (by decide)
end RT9
