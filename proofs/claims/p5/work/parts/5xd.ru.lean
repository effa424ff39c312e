/-! the reference: a whole sentence (written by wip/p39/r3.py) -/
/-- what a sentence's text is answered -/
def sAns (S : Nat → Int) (R : SR) : Int := if R.1 = 0 then (R.2.2 : Int) else -1 - S R.2.1
def wb (w : Bool) : Int := cond w 1 0
theorem sOp_w {K V CN NM : Nat → Int} {st : List Nat} {d i o : Nat} : (sOp K V CN NM st d i o).2.2.1 = 0 ∨ (sOp K V CN NM st d i o).2.2.1 = 1 := by
  unfold sOp
  split
  · exact Or.inl rfl
  · split
    · exact Or.inl rfl
    · split
      · exact Or.inl rfl
      · split
        · exact Or.inl rfl
        · exact Or.inr rfl
theorem sBe_w {K V : Nat → Int} {st : List Nat} {d i o : Nat} : (sBe K V st d i o).2.2.1 = 0 ∨ (sBe K V st d i o).2.2.1 = 1 := by
  unfold sBe
  split
  · exact Or.inl rfl
  · split
    · exact Or.inl rfl
    · split
      · exact Or.inr rfl
      · exact Or.inr rfl
theorem sA_stop {K V CN NM : Nat → Int} {t : Nat} {st : List Nat} {d i o : Nat} (h0 : K i = 0) : sA K V CN NM (t + 1) true st d i o = (if sJoin 2 (sNots st d).1 = [] then (0, i, o) else (1, i, 0)) := by
  simp only [sA]
  rw [if_pos h0]
section RU9
variable {xs : Nat → Int32} {D : va_G} {cy : Nat → ClassId} {l : Launch} {ex : Nat → Nat} {m : Nat → Nat} {F B SS HH NR RV RD ST P K S V CN NM : Nat → Int} {j k n : Nat} {x : Int} {R : SR}
set_option maxRecDepth 4000 in
theorem zj_X12_sentence : PR2[189]? = some mt2_X12_sentence := rfl
set_option maxRecDepth 4000 in
theorem zr_sentence (hB : ∀ q, -128 ≤ B q ∧ B q ≤ 127) (hn : 0 ≤ F 2 ∧ F 2 ≤ 940) (hO : OpenT (tb B (F 2)) (F 2) 200 k P K S V) (hRV : ∀ q, q < 29 → RV q = RVc q) (hRZ : ∀ q, zin64 (RV q)) (hRR : RK SS NR CN NM) (hI : INV CN NM x) (hA9 : sA K V CN NM n false [] 1 0 0 = R) (hR99 : ¬ R.1 = 99) : ZMet (EWX xs) D cy l ex mt2_X12_sentence (3, 0, 0, 69) (rW m F B SS HH NR RV ++ qW m RD ST) [zR (m 0)] (fun z Y => z = some (zI (sAns S R)) ∧ ∃ F9 SS9 RD9 ST9, Y = (rW m F9 B SS9 HH NR RV ++ qW m RD9 ST9) ∧ F9 15 = R.1) := by
  obtain ⟨mok, tok, ow⟩ := pok2.1 _ _ zj_X12_sentence
  refine met_ofz EWX_ok mok tok ow (Nat.le_of_ble_eq_true rfl) (fun r p0 e0 s0 m0 ar0 be0 me0 c0 A0 Q0 X hR => ?_)
  obtain ⟨v9, hv9⟩ : ∃ v9, sAns S R = v9 := ⟨_, rfl⟩
  rw [hv9] at hR
  have tail9 : ∀ (F RD ST : Nat → Int), 0 ≤ F 44 ∧ F 44 ≤ 40 → F 45 = v9 → F 15 = R.1 → ZG D cy r mt2_X12_sentence p0 l e0 (rmR (3, 0, 0, 69)) s0 m0 ar0 be0 me0 c0 A0 Q0 0 0 (48, [(1, zI 0), (0, zR (m 0))], [], (rW m F B SS HH NR RV ++ qW m RD ST)) := by
    intro F RD ST h44 hv hf15
    have cp : ∀ (t i : Nat) (SS : Nat → Int), (i : Int) ≤ 3 * F 44 → 3 * F 44 - (i : Int) < (t : Int) → ZG D cy r mt2_X12_sentence p0 l e0 (rmR (3, 0, 0, 69)) s0 m0 ar0 be0 me0 c0 A0 Q0 0 0 (145, [(0, zR (m 0)), (1, zI 0), (2, zI (i : Int))], [], (rW m F B SS HH NR RV ++ qW m RD ST)) := by
      intro t
      induction t with
      | zero => intro i SS h1 h2; omega
      | succ t ih =>
        intro i SS h1 h2
        refine zg_blk pok2 X 5 [0] (S' := (152, [(0, zR (m 0)), (1, zI 0), (2, zI (i : Int))], [zI (3 * (F 44)), zI (i : Int)], ((rW m F B SS HH NR RV) ++ (qW m RD ST)))) rfl ⟨rfl, trivial⟩ ?_
        refine zg_icmp X 176 rfl rfl (by unfold zin; omega) (by unfold zin; omega) (fun g1 => ?_) (fun g1 => ?_)
        · simp only [x_cnd] at g1
          refine zg_blk pok2 X 2 [0] (S' := (180, [(0, zR (m 0)), (1, zI 0), (2, zI (i : Int))], [zI (F 45)], ((rW m F B SS HH NR RV) ++ (qW m RD ST)))) rfl ⟨rfl, trivial⟩ ?_
          refine zg_reti X hR rfl rfl (by decide) (by decide) ?_
          exact ⟨by rw [← hv], _, _, _, _, rfl, hf15⟩
        · simp only [x_ncd] at g1
          refine zg_blk pok2 X 12 [0, 0, 6, 2] (S' := (145, [(2, zI ((i : Int) + 1)), (0, zR (m 0)), (1, zI 0)], [], ((rW m F B (zup SS ((89 + (i : Int)).toNat) (RD ((i : Int).toNat))) HH NR RV) ++ (qW m RD ST)))) rfl ⟨rfl, rfl, rfl, rfl, (show zidx (i : Int) 160 from by unfold zidx; omega), rfl, rfl, (show zidx (89 + (i : Int)) 269 from by unfold zidx; omega), trivial⟩ ?_
          have ih9 := ih (i + 1) (zup SS ((89 + (i : Int)).toNat) (RD ((i : Int).toNat))) (by omega) (by omega)
          rw [show (((i + 1 : Nat)) : Int) = (i : Int) + 1 by omega] at ih9
          refine zg_lv _ ?_ ih9
          intro q hq
          simp only [List.mem_cons, List.not_mem_nil, or_false] at hq ⊢
          rcases hq with rfl | rfl | rfl <;> simp
    refine zg_blk pok2 X 1 [] (S' := (49, [(1, zI 0), (0, zR (m 0))], [zI 0], ((rW m F B SS HH NR RV) ++ (qW m RD ST)))) rfl trivial ?_
    refine zg_if X 132 rfl rfl (by unfold zin; omega) (fun g1 => ?_) (fun g1 => ?_)
    · simp only [x_cnd] at g1
      refine zg_blk pok2 X 8 [0, 0, 2] (S' := (145, [(2, zI 0), (1, zI 0), (0, zR (m 0))], [], ((rW m F B (zup SS 88 (F 44)) HH NR RV) ++ (qW m RD ST)))) rfl ⟨rfl, rfl, rfl, rfl, (show zidx 88 269 from by unfold zidx; omega), trivial⟩ ?_
      refine zg_lv _ ?_ (cp 1000 0 (zup SS 88 (F 44)) (by omega) (by omega))
      intro q hq
      simp only [List.mem_cons, List.not_mem_nil, or_false] at hq ⊢
      rcases hq with rfl | rfl | rfl <;> simp
    · exact absurd (show ¬ (0 : Int) = (0 : Int) from g1) (by decide)
  have loop : ∀ (n : Nat) (w : Bool) (st : List Nat) (d o j : Nat) (F RD ST : Nat → Int), RH B P K S V RV k F → rAt P K S V F j → j ≤ k → RQ F ST st d o (wb w) → sA K V CN NM n w st d j o = R → ZG D cy r mt2_X12_sentence p0 l e0 (rmR (3, 0, 0, 69)) s0 m0 ar0 be0 me0 c0 A0 Q0 0 0 (48, [(0, zR (m 0)), (1, zI 1)], [], (rW m F B SS HH NR RV ++ qW m RD ST)) := by
    intro n
    induction n with
    | zero =>
      intro w st d o j F RD ST hH hA hj hQ hrun
      exact absurd (by rw [← hrun]; rfl) hR99
    | succ n ih =>
      intro w st d o j F RD ST hH hA hj hQ hrun
      cases w with
      | false =>
        have hQ : RQ F ST st d o 0 := hQ
        have hQ9 := hQ
        obtain ⟨⟨h46, hs, h47, hdp, h44, hT, hT2⟩, h45, ho, h48, hsum, h15⟩ := hQ9
        refine zg_blk pok2 X 1 [] (S' := (49, [(0, zR (m 0)), (1, zI 1)], [zI 1], ((rW m F B SS HH NR RV) ++ (qW m RD ST)))) rfl trivial ?_
        refine zg_if X 132 rfl rfl (by first | (unfold zin; omega) | (have h9 := hA.2.1.t11; unfold zin; omega)) (fun g1 => ?_) (fun g1 => ?_)
        · exact absurd (show (1 : Int) = (0 : Int) from g1) (by decide)
        · simp only [x_ncd] at g1
          have hst9 := hA.2.1.stop
          refine zg_blk pok2 X 2 [0] (S' := (56, [(0, zR (m 0)), (1, zI 1)], [zI (F 48)], ((rW m F B SS HH NR RV) ++ (qW m RD ST)))) rfl ⟨rfl, trivial⟩ ?_
          refine zg_if X 101 rfl rfl (by first | (unfold zin; omega) | (have h9 := hA.2.1.t11; unfold zin; omega)) (fun g2 => ?_) (fun g2 => ?_)
          · simp only [x_cnd] at g2
            have hst9 := hA.2.1.stop
            refine zg_blk pok2 X 2 [0] (S' := (105, [(0, zR (m 0)), (1, zI 1)], [zI (F 48)], ((rW m F B SS HH NR RV) ++ (qW m RD ST)))) rfl ⟨rfl, trivial⟩ ?_
            refine zg_if X 118 rfl rfl (by first | (unfold zin; omega) | (have h9 := hA.2.1.t11; unfold zin; omega)) (fun g3 => ?_) (fun g3 => ?_)
            · simp only [x_cnd] at g3
              have hst9 := hA.2.1.stop
              refine zg_blk pok2 X 1 [] (S' := (119, [(0, zR (m 0)), (1, zI 1)], [zR (m 0)], ((rW m F B SS HH NR RV) ++ (qW m RD ST)))) rfl trivial ?_
              refine zg_callV pok2 EWX_ok X 0 (vas := []) (vr := []) (Y1 := ((rW m F B SS HH NR RV) ++ (qW m RD ST))) (Y2 := []) rfl rfl (Or.inl rfl) zj_X12_operand rfl rfl rfl rfl (Nat.le_of_ble_eq_true rfl) rfl (zr_operand hH hA hj hRR hI hRZ hQ) ⟨by decide, by decide, by decide, by decide⟩ (fun z9 Y9 hz => ?_)
              obtain ⟨F9, RD9, ST9, rfl, hz⟩ := hz
              have hw9 := sOp_w (K := K) (V := V) (CN := CN) (NM := NM) (st := st) (d := d) (i := j) (o := o)
              obtain ⟨Q, hQ9⟩ : ∃ Q, sOp K V CN NM st d j o = Q := ⟨_, rfl⟩
              rw [sA_op, hQ9] at hrun
              rw [hQ9] at hz hw9
              rcases hz with ⟨q1, rfl, q2, q3, q4, q5, q6⟩ | ⟨q1, rfl, q2, q3⟩
              · refine zg_if X 48 rfl rfl (by first | (unfold zin; omega) | (have h9 := hA.2.1.t11; unfold zin; omega)) (fun g4 => ?_) (fun g4 => ?_)
                · simp only [x_cnd] at g4
                  have hst9 := hA.2.1.stop
                  rw [if_pos q1] at hrun
                  by_cases qw : Q.2.2.1 = 1
                  · rw [if_pos qw] at hrun
                    rw [qw] at q4
                    have ih9 := ih true Q.2.2.2.1 Q.2.2.2.2.1 Q.2.2.2.2.2 Q.2.1 F9 RD9 ST9 (RH.fr2 hH q5 q6) q2 q3 q4 hrun
                    refine zg_lv _ ?_ ih9
                    intro q hq
                    simp only [List.mem_cons, List.not_mem_nil, or_false] at hq ⊢
                    rcases hq with rfl | rfl <;> simp
                  · rw [if_neg qw] at hrun
                    rw [show Q.2.2.1 = 0 by omega] at q4
                    have ih9 := ih false Q.2.2.2.1 Q.2.2.2.2.1 Q.2.2.2.2.2 Q.2.1 F9 RD9 ST9 (RH.fr2 hH q5 q6) q2 q3 q4 hrun
                    refine zg_lv _ ?_ ih9
                    intro q hq
                    simp only [List.mem_cons, List.not_mem_nil, or_false] at hq ⊢
                    rcases hq with rfl | rfl <;> simp
                · exact absurd (show (1 : Int) = (0 : Int) from g4) (by decide)
              · refine zg_if X 48 rfl rfl (by first | (unfold zin; omega) | (have h9 := hA.2.1.t11; unfold zin; omega)) (fun g5 => ?_) (fun g5 => ?_)
                · exact absurd (show ¬ (0 : Int) = (0 : Int) from g5) (by decide)
                · simp only [x_ncd] at g5
                  have hst9 := hA.2.1.stop
                  refine zg_blk pok2 X 4 [0] (S' := (131, [(0, zR (m 0)), (1, zI 1)], [zI ((-1) - (F9 16))], ((rW m F9 B SS HH NR RV) ++ (qW m RD9 ST9)))) rfl ⟨rfl, trivial⟩ ?_
                  refine zg_reti X hR rfl rfl (by decide) (by decide) ?_
                  rw [if_neg q1] at hrun
                  refine ⟨?_, _, _, _, _, rfl, ?_⟩
                  · rw [← hv9, ← hrun]
                    simp only [sAns, if_neg q1, q3]
                  · rw [← hrun]
                    exact q2
            · simp only [x_ncd] at g3
              have hst9 := hA.2.1.stop
              exfalso
              omega
          · simp only [x_ncd] at g2
            have hst9 := hA.2.1.stop
            exfalso
            omega
      | true =>
        have hQ : RQ F ST st d o 1 := hQ
        have hQ9 := hQ
        obtain ⟨⟨h46, hs, h47, hdp, h44, hT, hT2⟩, h45, ho, h48, hsum, h15⟩ := hQ9
        refine zg_blk pok2 X 1 [] (S' := (49, [(0, zR (m 0)), (1, zI 1)], [zI 1], ((rW m F B SS HH NR RV) ++ (qW m RD ST)))) rfl trivial ?_
        refine zg_if X 132 rfl rfl (by first | (unfold zin; omega) | (have h9 := hA.2.1.t11; unfold zin; omega)) (fun g1 => ?_) (fun g1 => ?_)
        · exact absurd (show (1 : Int) = (0 : Int) from g1) (by decide)
        · simp only [x_ncd] at g1
          have hst9 := hA.2.1.stop
          refine zg_blk pok2 X 2 [0] (S' := (56, [(0, zR (m 0)), (1, zI 1)], [zI (F 48)], ((rW m F B SS HH NR RV) ++ (qW m RD ST)))) rfl ⟨rfl, trivial⟩ ?_
          refine zg_if X 101 rfl rfl (by first | (unfold zin; omega) | (have h9 := hA.2.1.t11; unfold zin; omega)) (fun g2 => ?_) (fun g2 => ?_)
          · simp only [x_cnd] at g2
            have hst9 := hA.2.1.stop
            exfalso
            omega
          · simp only [x_ncd] at g2
            have hst9 := hA.2.1.stop
            refine zg_blk pok2 X 2 [0] (S' := (63, [(0, zR (m 0)), (1, zI 1)], [zI (F 11)], ((rW m F B SS HH NR RV) ++ (qW m RD ST)))) rfl ⟨rfl, trivial⟩ ?_
            refine zg_if X 101 rfl rfl (by first | (unfold zin; omega) | (have h9 := hA.2.1.t11; unfold zin; omega)) (fun g3 => ?_) (fun g3 => ?_)
            · simp only [x_cnd] at g3
              have hst9 := hA.2.1.stop
              refine zg_blk pok2 X 2 [0] (S' := (105, [(0, zR (m 0)), (1, zI 1)], [zI (F 48)], ((rW m F B SS HH NR RV) ++ (qW m RD ST)))) rfl ⟨rfl, trivial⟩ ?_
              refine zg_if X 118 rfl rfl (by first | (unfold zin; omega) | (have h9 := hA.2.1.t11; unfold zin; omega)) (fun g4 => ?_) (fun g4 => ?_)
              · simp only [x_cnd] at g4
                have hst9 := hA.2.1.stop
                exfalso
                omega
              · simp only [x_ncd] at g4
                have hst9 := hA.2.1.stop
                refine zg_blk pok2 X 1 [] (S' := (109, [(0, zR (m 0)), (1, zI 1)], [zR (m 0)], ((rW m F B SS HH NR RV) ++ (qW m RD ST)))) rfl trivial ?_
                refine zg_callV pok2 EWX_ok X 0 (vas := []) (vr := []) (Y1 := ((rW m F B SS HH NR RV) ++ (qW m RD ST))) (Y2 := []) rfl rfl (Or.inl rfl) zj_X12_behind rfl rfl rfl rfl (Nat.le_of_ble_eq_true rfl) rfl (zr_behind hH hA hj hRR hI hRZ hQ (by omega)) ⟨by decide, by decide, by decide, by decide⟩ (fun z9 Y9 hz => ?_)
                obtain ⟨F9, RD9, ST9, rfl, hz⟩ := hz
                have hw9 := sBe_w (K := K) (V := V) (st := st) (d := d) (i := j) (o := o)
                obtain ⟨Q, hQ9⟩ : ∃ Q, sBe K V st d j o = Q := ⟨_, rfl⟩
                rw [sA_be (by omega), hQ9] at hrun
                rw [hQ9] at hz hw9
                rcases hz with ⟨q1, rfl, q2, q3, q4, q5, q6⟩ | ⟨q1, rfl, q2, q3⟩
                · refine zg_if X 48 rfl rfl (by first | (unfold zin; omega) | (have h9 := hA.2.1.t11; unfold zin; omega)) (fun g5 => ?_) (fun g5 => ?_)
                  · simp only [x_cnd] at g5
                    have hst9 := hA.2.1.stop
                    rw [if_pos q1] at hrun
                    by_cases qw : Q.2.2.1 = 1
                    · rw [if_pos qw] at hrun
                      rw [qw] at q4
                      have ih9 := ih true Q.2.2.2.1 Q.2.2.2.2.1 Q.2.2.2.2.2 Q.2.1 F9 RD9 ST9 (RH.fr2 hH q5 q6) q2 q3 q4 hrun
                      refine zg_lv _ ?_ ih9
                      intro q hq
                      simp only [List.mem_cons, List.not_mem_nil, or_false] at hq ⊢
                      rcases hq with rfl | rfl <;> simp
                    · rw [if_neg qw] at hrun
                      rw [show Q.2.2.1 = 0 by omega] at q4
                      have ih9 := ih false Q.2.2.2.1 Q.2.2.2.2.1 Q.2.2.2.2.2 Q.2.1 F9 RD9 ST9 (RH.fr2 hH q5 q6) q2 q3 q4 hrun
                      refine zg_lv _ ?_ ih9
                      intro q hq
                      simp only [List.mem_cons, List.not_mem_nil, or_false] at hq ⊢
                      rcases hq with rfl | rfl <;> simp
                  · exact absurd (show (1 : Int) = (0 : Int) from g5) (by decide)
                · refine zg_if X 48 rfl rfl (by first | (unfold zin; omega) | (have h9 := hA.2.1.t11; unfold zin; omega)) (fun g6 => ?_) (fun g6 => ?_)
                  · exact absurd (show ¬ (0 : Int) = (0 : Int) from g6) (by decide)
                  · simp only [x_ncd] at g6
                    have hst9 := hA.2.1.stop
                    refine zg_blk pok2 X 5 [0] (S' := (131, [(0, zR (m 0)), (1, zI 1)], [zI ((-1) - (F9 16))], ((rW m F9 B SS HH NR RV) ++ (qW m RD9 ST9)))) rfl ⟨rfl, trivial⟩ ?_
                    refine zg_reti X hR rfl rfl (by decide) (by decide) ?_
                    rw [if_neg q1] at hrun
                    refine ⟨?_, _, _, _, _, rfl, ?_⟩
                    · rw [← hv9, ← hrun]
                      simp only [sAns, if_neg q1, q3]
                    · rw [← hrun]
                      exact q2
            · simp only [x_ncd] at g3
              have hst9 := hA.2.1.stop
              refine zg_blk pok2 X 1 [] (S' := (67, [(0, zR (m 0)), (1, zI 1)], [zR (m 0)], ((rW m F B SS HH NR RV) ++ (qW m RD ST)))) rfl trivial ?_
              obtain ⟨st1, d1, hN⟩ : ∃ st1 d1, sNots st d = (st1, d1) := ⟨_, _, rfl⟩
              refine zg_callV pok2 EWX_ok X 0 (vas := []) (vr := []) (Y1 := ((rW m F B SS HH NR RV) ++ (qW m RD ST))) (Y2 := []) rfl rfl (Or.inl rfl) zj_X12_nots rfl rfl rfl rfl (Nat.le_of_ble_eq_true rfl) rfl (zr_nots (st := st) (d := d) (T := F 44 + F 46) ⟨h46, hs, h47, hdp, h44, rfl, hT2⟩) ⟨by decide, by decide, by decide, by decide⟩ (fun z9 Y9 hz => ?_)
              obtain ⟨rfl, Fa, RDn, rfl, hqa, hfa⟩ := hz
              rw [hN] at hqa
              obtain ⟨a46, as, a47, adp, a44, aT, aT2⟩ := hqa
              have e3_Fa : Fa 3 = F 3 := hfa 3 (by decide) (by decide) (by decide)
              have e5_Fa : Fa 5 = F 5 := hfa 5 (by decide) (by decide) (by decide)
              have e15_Fa : Fa 15 = F 15 := hfa 15 (by decide) (by decide) (by decide)
              have e45_Fa : Fa 45 = F 45 := hfa 45 (by decide) (by decide) (by decide)
              have e48_Fa : Fa 48 = F 48 := hfa 48 (by decide) (by decide) (by decide)
              have hA0 : rAt P K S V Fa j := hA.frM hfa
              have hH0 : RH B P K S V RV k Fa := RH.fr2 hH e3_Fa e5_Fa
              refine zg_blk pok2 X 2 [] (S' := (73, [(0, zR (m 0)), (1, zI 1)], [zI 22, zR (m 0)], ((rW m Fa B SS HH NR RV) ++ (qW m RDn ST)))) rfl trivial ?_
              refine zg_callV pok2 EWX_ok X 0 (vas := [zI 22]) (vr := []) (Y1 := ((rW m Fa B SS HH NR RV) ++ (qW m RDn ST))) (Y2 := []) rfl rfl (Or.inl rfl) zj_X12_joins rfl rfl rfl rfl (Nat.le_of_ble_eq_true rfl) rfl (zr_joins2 (st := st1) (d := d1) (T := F 44 + F 46) ⟨a46, as, a47, adp, a44, aT, aT2⟩) ⟨by decide, by decide, by decide, by decide⟩ (fun z9 Y9 hz => ?_)
              obtain ⟨rfl, Fb, RDj, rfl, hqb, hfb⟩ := hz
              obtain ⟨st2, hJ⟩ : ∃ st2, sJoin 2 st1 = st2 := ⟨_, rfl⟩
              rw [hJ] at hqb
              obtain ⟨b46, bs9, b47, bdp, b44, bT, bT2⟩ := hqb
              have e3_Fb : Fb 3 = Fa 3 := hfb 3 (by decide) (by decide) (by decide)
              have e5_Fb : Fb 5 = Fa 5 := hfb 5 (by decide) (by decide) (by decide)
              have e15_Fb : Fb 15 = Fa 15 := hfb 15 (by decide) (by decide) (by decide)
              have e45_Fb : Fb 45 = Fa 45 := hfb 45 (by decide) (by decide) (by decide)
              have e48_Fb : Fb 48 = Fa 48 := hfb 48 (by decide) (by decide) (by decide)
              have hA0 : rAt P K S V Fb j := hA0.frM hfb
              have hH0 : RH B P K S V RV k Fb := RH.fr2 hH0 e3_Fb e5_Fb
              refine zg_blk pok2 X 2 [0] (S' := (80, [(0, zR (m 0)), (1, zI 1)], [zI (Fb 46)], ((rW m Fb B SS HH NR RV) ++ (qW m RDj ST)))) rfl ⟨rfl, trivial⟩ ?_
              refine zg_if X 96 rfl rfl (by first | (unfold zin; omega) | (have h9 := hA.2.1.t11; unfold zin; omega)) (fun g7 => ?_) (fun g7 => ?_)
              · simp only [x_cnd] at g7
                have hst9 := hA.2.1.stop
                refine zg_blk pok2 X 3 [] (S' := (48, [(1, zI 0), (0, zR (m 0))], [], ((rW m Fb B SS HH NR RV) ++ (qW m RDj ST)))) rfl trivial ?_
                have hst2 : st2 = [] := List.eq_nil_of_length_eq_zero (by omega)
                rw [sA_stop (by omega), hN, if_pos (hJ.trans hst2)] at hrun
                exact tail9 Fb RDj ST ⟨b44, by omega⟩ (by rw [← hv9, ← hrun]; show Fb 45 = (o : Int); omega) (by rw [← hrun]; show Fb 15 = 0; omega)
              · simp only [x_ncd] at g7
                have hst9 := hA.2.1.stop
                refine zg_blk pok2 X 2 [] (S' := (85, [(0, zR (m 0)), (1, zI 1)], [zI 1, zR (m 0)], ((rW m Fb B SS HH NR RV) ++ (qW m RDj ST)))) rfl trivial ?_
                refine zg_callV pok2 EWX_ok X 0 (vas := [zI 1]) (vr := []) (Y1 := (rW m Fb B SS HH NR RV)) (Y2 := (qW m RDj ST)) rfl rfl (Or.inl rfl) zj_X12_bad rfl rfl rfl rfl (Nat.le_of_ble_eq_true rfl) rfl (zr_bad (F := Fb)) ⟨by decide, by decide, by decide, by decide⟩ (fun z9 Y9 hz => ?_)
                obtain ⟨rfl, rfl⟩ := hz
                refine zg_blk pok2 X 5 [0] (S' := (95, [(0, zR (m 0)), (1, zI 1)], [zI ((-1) - ((zup (zup Fb 15 1) 16 (Fb 12)) 16))], ((rW m (zup (zup Fb 15 1) 16 (Fb 12)) B SS HH NR RV) ++ (qW m RDj ST)))) rfl ⟨rfl, trivial⟩ ?_
                refine zg_reti X hR rfl rfl (by decide) (by decide) ?_
                have hst2 : ¬ st2 = [] := fun h => by rw [h] at b46; have b46 : Fb 46 = 0 := b46; omega
                rw [sA_stop (by omega), hN, if_neg (fun h => hst2 (hJ.symm.trans h))] at hrun
                refine ⟨?_, _, _, _, _, rfl, ?_⟩
                · rw [← hv9, ← hrun]
                  show some (zI (-1 - Fb 12)) = some (zI (-1 - S j))
                  rw [hA0.1]
                · rw [← hrun]
                  rfl
  refine zg_blk pok2 X 5 [0] (S' := (9, [(0, zR (m 0))], [zI 200, zR (m 0)], ((rW m (zup F 0 0) B SS HH NR RV) ++ (qW m RD ST)))) rfl ⟨rfl, rfl, rfl, trivial⟩ ?_
  refine zg_callV pok2 EWX_ok X 0 (vas := [zI 200]) (vr := []) (Y1 := (rW m (zup F 0 0) B SS HH NR RV)) (Y2 := (qW m RD ST)) rfl rfl (Or.inl rfl) zj_X12_taken rfl rfl rfl rfl (Nat.le_of_ble_eq_true rfl) rfl (zr_taken (z1 := 200) (F := (zup F 0 0))) ⟨by decide, by decide, by decide, by decide⟩ (fun z9 Y9 hz => ?_)
  obtain ⟨rfl, rfl⟩ := hz
  refine zg_cv (S2 := (12, [(0, zR (m 0))], [], ((rW m (zup (zup (zup (zup (zup F 0 0) 2 0) 3 (F 2)) 4 0) 5 200) B SS HH NR RV) ++ (qW m RD ST)))) rfl ?_
  refine zg_blk pok2 X 19 [0, 0, 0, 0, 0, 0] (S' := (43, [(0, zR (m 0))], [zR (m 0)], ((rW m (zup (zup (zup (zup (zup (zup (zup (zup (zup (zup (zup F 0 0) 2 0) 3 (F 2)) 4 0) 5 200) 15 0) 44 0) 45 0) 46 0) 47 1) 48 0) B SS HH NR RV) ++ (qW m RD ST)))) rfl ⟨rfl, rfl, rfl, rfl, rfl, rfl, rfl, rfl, rfl, rfl, rfl, rfl, rfl, rfl, rfl, rfl, rfl, rfl, trivial⟩ ?_
  refine zg_callV pok2 EWX_ok X 0 (vas := []) (vr := []) (Y1 := (rW m (zup (zup (zup (zup (zup (zup (zup (zup (zup (zup (zup F 0 0) 2 0) 3 (F 2)) 4 0) 5 200) 15 0) 44 0) 45 0) 46 0) 47 1) 48 0) B SS HH NR RV)) (Y2 := (qW m RD ST)) rfl rfl (Or.inl rfl) zj_X12_next rfl rfl rfl rfl (Nat.le_of_ble_eq_true rfl) rfl (zr_next (F := (zup (zup (zup (zup (zup (zup (zup (zup (zup (zup (zup F 0 0) 2 0) 3 (F 2)) 4 0) 5 200) 15 0) 44 0) 45 0) 46 0) 47 1) 48 0)) hB (show 0 ≤ F 2 ∧ F 2 ≤ 940 from hn) (show 0 ≤ (0 : Int) ∧ (0 : Int) ≤ F 2 by omega) (show 0 ≤ (200 : Int) ∧ (200 : Int) ≤ 1000 by omega)) ⟨by decide, by decide, by decide, by decide⟩ (fun z9 Y9 hz => ?_)
  obtain ⟨rfl, F8, rfl, hrt, hfrt⟩ := hz
  have hA8 : rAt P K S V F8 0 := tok_match (F := F8) (by rw [hO.1]; omega) (by rw [hO.1]; omega) (hO.2.1 0 (Nat.zero_le _)) (by rw [hO.1]; exact hrt)
  have hf8 := hfrt.fr4
  have e15_F8 : F8 15 = 0 := hfrt 15 (by decide) (by decide) (by decide) (by decide) (by decide) (by decide)
  have e44_F8 : F8 44 = 0 := hfrt 44 (by decide) (by decide) (by decide) (by decide) (by decide) (by decide)
  have e45_F8 : F8 45 = 0 := hfrt 45 (by decide) (by decide) (by decide) (by decide) (by decide) (by decide)
  have e46_F8 : F8 46 = 0 := hfrt 46 (by decide) (by decide) (by decide) (by decide) (by decide) (by decide)
  have e47_F8 : F8 47 = 1 := hfrt 47 (by decide) (by decide) (by decide) (by decide) (by decide) (by decide)
  have e48_F8 : F8 48 = 0 := hfrt 48 (by decide) (by decide) (by decide) (by decide) (by decide) (by decide)
  refine zg_blk pok2 X 2 [] (S' := (48, [(1, zI 1), (0, zR (m 0))], [], ((rW m F8 B SS HH NR RV) ++ (qW m RD ST)))) rfl trivial ?_
  have l9 := loop n false [] 1 0 0 F8 RD ST ⟨hB, by rw [hf8.1]; exact hn, by rw [hf8.2.1]; exact ⟨by show (0 : Int) ≤ 200; decide, by show (200 : Int) ≤ 940; decide⟩, by rw [hf8.1, hf8.2.1]; exact hO, hRV⟩ hA8 (Nat.zero_le _) ⟨⟨e46_F8, trivial, e47_F8, rfl, by omega, rfl, by omega⟩, e45_F8, by omega, e48_F8, by show F8 44 + F8 46 + 0 ≤ _; omega, e15_F8⟩ hA9
  refine zg_lv _ ?_ l9
  intro q hq
  simp only [List.mem_cons, List.not_mem_nil, or_false] at hq ⊢
  rcases hq with rfl | rfl <;> simp
end RU9
