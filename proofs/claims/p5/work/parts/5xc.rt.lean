/-! the reference's sentence: steps of the automaton (written by wip/p39/r2.py) -/
/-- what an operand does: fault, where, whole or not, what waits, how deep, how many ones -/
def sOp (K V CN NM : Nat → Int) (st : List Nat) (d i o : Nat) : Int × Nat × Int × List Nat × Nat × Nat := if ¬ K i = 40 ∧ ¬ (K i = 2 ∧ 20 ≤ V i ∧ V i ≤ 28) then (1, i, 0, st, d, o) else if 20 ≤ o ∨ 8 < d then (4, i, 0, st, d, o)
  else if K i = 40 then (0, i + 1, 0, 3 :: st, d + 1, o + 1) else if V i = 20 then (0, i + 1, 0, 0 :: st, d + 1, o + 1) else ((sLeaf K V CN NM i).1, (sLeaf K V CN NM i).2, 1, st, d, o + 1)
/-- what stands behind one -/
def sBe (K V : Nat → Int) (st : List Nat) (d i o : Nat) : Int × Nat × Int × List Nat × Nat × Nat := if sW K V i 19 then (0, i + 1, 0, 1 :: sJoin 1 (sNots st d).1, (sNots st d).2, o) else if sW K V i 18 then (0, i + 1, 0, 2 :: sJoin 2 (sNots st d).1, (sNots st d).2, o)
  else if K i = 41 ∧ ¬ sJoin 2 (sNots st d).1 = [] then (0, i + 1, 1, (sJoin 2 (sNots st d).1).tail, (sNots st d).2 - 1, o) else (1, i, 1, st, d, o)
theorem sA_op {K V CN NM : Nat → Int} {t : Nat} {st : List Nat} {d i o : Nat} : sA K V CN NM (t + 1) false st d i o = (if (sOp K V CN NM st d i o).1 = 0 then (if (sOp K V CN NM st d i o).2.2.1 = 1 then sA K V CN NM t true (sOp K V CN NM st d i o).2.2.2.1 (sOp K V CN NM st d i o).2.2.2.2.1 (sOp K V CN NM st d i o).2.1 (sOp K V CN NM st d i o).2.2.2.2.2 else sA K V CN NM t false (sOp K V CN NM st d i o).2.2.2.1 (sOp K V CN NM st d i o).2.2.2.2.1 (sOp K V CN NM st d i o).2.1 (sOp K V CN NM st d i o).2.2.2.2.2) else ((sOp K V CN NM st d i o).1, (sOp K V CN NM st d i o).2.1, 0)) := by
  simp only [sA]
  unfold sOp
  by_cases c1 : ¬ K i = 40 ∧ ¬ (K i = 2 ∧ 20 ≤ V i ∧ V i ≤ 28)
  · simp only [if_pos c1]
    rfl
  · simp only [if_neg c1]
    by_cases c2 : 20 ≤ o ∨ 8 < d
    · simp only [if_pos c2]
      rfl
    · simp only [if_neg c2]
      by_cases c3 : K i = 40
      · simp only [if_pos c3]
        rfl
      · simp only [if_neg c3]
        by_cases c4 : V i = 20
        · simp only [if_pos c4]
          rfl
        · simp only [if_neg c4, if_true]
theorem sA_be {K V CN NM : Nat → Int} {t : Nat} {st : List Nat} {d i o : Nat} (h0 : ¬ K i = 0) : sA K V CN NM (t + 1) true st d i o = (if (sBe K V st d i o).1 = 0 then (if (sBe K V st d i o).2.2.1 = 1 then sA K V CN NM t true (sBe K V st d i o).2.2.2.1 (sBe K V st d i o).2.2.2.2.1 (sBe K V st d i o).2.1 (sBe K V st d i o).2.2.2.2.2 else sA K V CN NM t false (sBe K V st d i o).2.2.2.1 (sBe K V st d i o).2.2.2.2.1 (sBe K V st d i o).2.1 (sBe K V st d i o).2.2.2.2.2) else ((sBe K V st d i o).1, (sBe K V st d i o).2.1, 0)) := by
  simp only [sA]
  unfold sBe
  rw [if_neg h0]
  by_cases c1 : sW K V i 19
  · simp only [if_pos c1]
    rfl
  · simp only [if_neg c1]
    by_cases c2 : sW K V i 18
    · simp only [if_pos c2]
      rfl
    · simp only [if_neg c2]
      by_cases c3 : K i = 41 ∧ ¬ sJoin 2 (sNots st d).1 = []
      · simp only [if_pos c3]
        rfl
      · simp only [if_neg c3]
        rfl
theorem tokM.cmp {kd val : Int} {F : Nat → Int} (h : tokM kd val F) : (F 11 = 3 ∧ 60 ≤ F 14 ∧ F 14 ≤ 62) ↔ (kd = 60 ∨ kd = 61 ∨ kd = 62) := by
  rcases h with ⟨h0, h⟩ | ⟨h0, h⟩ | ⟨h0, h, -⟩ | ⟨h0, h, -⟩ | ⟨h0, h, -⟩ | ⟨h0, h1, h, h2⟩ <;> omega
theorem tokM.sg14 {kd val : Int} {F : Nat → Int} (h : tokM kd val F) (q : F 11 = 3) : 0 ≤ F 14 ∧ F 14 < 63 := by
  rcases h with ⟨h0, h⟩ | ⟨h0, h⟩ | ⟨h0, h, -⟩ | ⟨h0, h, -⟩ | ⟨h0, h, -⟩ | ⟨h0, h1, h, h2⟩ <;> omega
theorem dp_le : ∀ st : List Nat, dp st ≤ st.length := by
  intro st
  induction st with
  | nil => exact Nat.le_refl _
  | cons x r ih =>
    have h : dp (x :: r) ≤ dp r + 1 := by
      match x with
      | 0 => exact Nat.le_refl _
      | 1 => exact Nat.le_succ _
      | 2 => exact Nat.le_succ _
      | x + 3 => exact Nat.le_refl _
    show dp (x :: r) ≤ r.length + 1
    omega
theorem sJoin2_hd {y : Nat} {r : List Nat} : ∀ {st : List Nat}, sJoin 2 st = y :: r → ¬ y = 1 ∧ ¬ y = 2 := by
  intro st
  induction st with
  | nil => intro h; cases h
  | cons x st ih =>
    intro h
    match x, h with
    | 0, h => cases h; exact ⟨by decide, by decide⟩
    | 1, h => exact ih h
    | 2, h => exact ih h
    | x + 3, h => cases h; exact ⟨by omega, by omega⟩
theorem dp_ne {y : Nat} {r : List Nat} (h1 : ¬ y = 1) (h2 : ¬ y = 2) : dp (y :: r) = dp r + 1 := by
  match y, h1, h2 with
  | 0, _, _ => rfl
  | 1, h, _ => exact absurd rfl h
  | 2, _, h => exact absurd rfl h
  | y + 3, _, _ => rfl
theorem rAt.frM {P K S V F F9 : Nat → Int} {j : Nat} (h : rAt P K S V F j) (e : frM F F9) : rAt P K S V F9 j := by
  unfold rAt tokM
  rw [e 4 (by decide) (by decide) (by decide), e 11 (by decide) (by decide) (by decide), e 12 (by decide) (by decide) (by decide), e 14 (by decide) (by decide) (by decide), e 17 (by decide) (by decide) (by decide)]
  exact h
/-- how a step ends -/
def oM (P K S V F F9 ST9 : Nat → Int) (k : Nat) (z : Option ZV) (R : Int × Nat × Int × List Nat × Nat × Nat) : Prop := (R.1 = 0 ∧ z = some (zI 1) ∧ rAt P K S V F9 R.2.1 ∧ R.2.1 ≤ k ∧ RQ F9 ST9 R.2.2.2.1 R.2.2.2.2.1 R.2.2.2.2.2 R.2.2.1 ∧ F9 3 = F 3 ∧ F9 5 = F 5) ∨ (¬ R.1 = 0 ∧ z = some (zI 0) ∧ F9 15 = R.1 ∧ F9 16 = S R.2.1)
section RT9
variable {xs : Nat → Int32} {D : va_G} {cy : Nat → ClassId} {l : Launch} {ex : Nat → Nat} {m : Nat → Nat} {F B SS HH NR RV RD ST P K S V CN NM : Nat → Int} {j k : Nat} {x T : Int} {st : List Nat} {d o : Nat}
set_option maxRecDepth 4000 in
theorem zj_X12_operand : PR2[167]? = some mt2_X12_operand := rfl
set_option maxHeartbeats 8000000 in
set_option maxRecDepth 4000 in
theorem zr_opTn (hH : RH B P K S V RV k F) (hA : rAt P K S V F j) (hj : j ≤ k) (hRR : RK SS NR CN NM) (hI : INV CN NM x) (hRZ : ∀ q, zin64 (RV q)) (hQ : RQ F ST st d o 0) (hk : K j = 2 ∧ V j = 20) {r : va_W} {p0 : Program} {e0 : Env} {s0 : State} {m0 : MethodId} {ar0 : Array Value} {be0 : List Frame} {me0 : Method} {c0 : Code} {A0 : Nat → Prop} {Q0 : State → Prop} (X : Cx OW2 (EWX xs) D cy ex mt2_X12_operand (mY mt2_X12_operand).cls p0 (rmR (2, 0, 0, 45)) s0 m0 ar0 me0 c0 A0 (2, 0, 0, 45) 0 0) (hR : ZRet D cy r mt2_X12_operand p0 l e0 (rmR (2, 0, 0, 45)) s0 m0 ar0 be0 me0 c0 A0 Q0 (2, 0, 0, 45) (fun z Y => ∃ F9 RD9 ST9, Y = (rW m F9 B SS HH NR RV ++ qW m RD9 ST9) ∧ oM P K S V F F9 ST9 k z (sOp K V CN NM st d j o))) : ZG D cy r mt2_X12_operand p0 l e0 (rmR (2, 0, 0, 45)) s0 m0 ar0 be0 me0 c0 A0 Q0 0 0 (20, [(3, zI (-1)), (2, zI 0), (1, zI 1), (0, zR (m 0))], [], ((rW m F B SS HH NR RV) ++ (qW m RD ST))) := by
  have hA0 := hA
  have hH0 := hH
  have hj0 := hj
  obtain ⟨⟨h46, hs, h47, hdp, h44, hT, hT2⟩, h45, ho, h48, hsum, h15⟩ := hQ
  have hdl := dp_le st
  refine zg_blk pok2 X 1 [] (S' := (21, [(3, zI (-1)), (2, zI 0), (1, zI 1), (0, zR (m 0))], [zI 1], ((rW m F B SS HH NR RV) ++ (qW m RD ST)))) rfl trivial ?_
  refine zg_if X 38 rfl rfl (by first | (unfold zin; omega) | (have h9 := hA1.2.1.t11; unfold zin; omega) | (have h8 := hA1.2.1.sg14 (by omega); unfold zin; omega) | (have h9 := hA2.2.1.t11; unfold zin; omega)) (fun g1 => ?_) (fun g1 => ?_)
  · simp only [x_cnd] at g1
    refine zg_blk pok2 X 3 [0] (S' := (44, [(3, zI (-1)), (2, zI 0), (1, zI 1), (0, zR (m 0))], [zI 20, zI (F 45)], ((rW m F B SS HH NR RV) ++ (qW m RD ST)))) rfl ⟨rfl, trivial⟩ ?_
    refine zg_icmp X 56 rfl rfl (by first | (unfold zin; omega) | (have h9 := hA1.2.1.t11; unfold zin; omega) | (have h8 := hA1.2.1.sg14 (by omega); unfold zin; omega) | (have h9 := hA2.2.1.t11; unfold zin; omega)) (by first | (unfold zin; omega) | (have h9 := hA1.2.1.t11; unfold zin; omega) | (have h8 := hA1.2.1.sg14 (by omega); unfold zin; omega) | (have h9 := hA2.2.1.t11; unfold zin; omega)) (fun g2 => ?_) (fun g2 => ?_)
    · simp only [x_cnd] at g2
      refine zg_blk pok2 X 2 [] (S' := (58, [(3, zI (-1)), (2, zI 0), (1, zI 1), (0, zR (m 0))], [zI 4, zR (m 0)], ((rW m F B SS HH NR RV) ++ (qW m RD ST)))) rfl trivial ?_
      refine zg_callV pok2 EWX_ok X 0 (vas := [zI 4]) (vr := []) (Y1 := (rW m F B SS HH NR RV)) (Y2 := (qW m RD ST)) rfl rfl (Or.inl rfl) zj_X12_bad rfl rfl rfl rfl (Nat.le_of_ble_eq_true rfl) rfl (zr_bad (F := F)) ⟨by decide, by decide, by decide, by decide⟩ (fun z9 Y9 hz => ?_)
      obtain ⟨rfl, rfl⟩ := hz
      refine zg_retb X hR rfl rfl (by decide) (by decide) (by first | exact Or.inl rfl | exact Or.inr rfl) ?_
      refine ⟨_, _, _, rfl, ?_⟩
      refine Or.inr ?_
      unfold sOp
      rw [if_neg (by omega), if_pos (by omega)]
      exact ⟨show ¬ (4 : Int) = 0 by decide, rfl, rfl, hA0.1⟩
    · simp only [x_ncd] at g2
      refine zg_blk pok2 X 3 [0] (S' := (53, [(3, zI (-1)), (2, zI 0), (1, zI 1), (0, zR (m 0))], [zI 8, zI (F 47)], ((rW m F B SS HH NR RV) ++ (qW m RD ST)))) rfl ⟨rfl, trivial⟩ ?_
      refine zg_icmp X 62 rfl rfl (by first | (unfold zin; omega) | (have h9 := hA1.2.1.t11; unfold zin; omega) | (have h8 := hA1.2.1.sg14 (by omega); unfold zin; omega) | (have h9 := hA2.2.1.t11; unfold zin; omega)) (by first | (unfold zin; omega) | (have h9 := hA1.2.1.t11; unfold zin; omega) | (have h8 := hA1.2.1.sg14 (by omega); unfold zin; omega) | (have h9 := hA2.2.1.t11; unfold zin; omega)) (fun g3 => ?_) (fun g3 => ?_)
      · simp only [x_cnd] at g3
        refine zg_blk pok2 X 7 [0, 0] (S' := (73, [(3, zI (-1)), (2, zI 0), (1, zI 1), (0, zR (m 0))], [zR (m 0)], ((rW m (zup F 45 ((F 45) + 1)) B SS HH NR RV) ++ (qW m RD ST)))) rfl ⟨rfl, rfl, rfl, rfl, trivial⟩ ?_
        have hj1 : j + 1 ≤ k := hH0.len hj0 (by omega) (by omega)
        refine zg_callV pok2 EWX_ok X 0 (vas := []) (vr := []) (Y1 := (rW m (zup F 45 ((F 45) + 1)) B SS HH NR RV)) (Y2 := (qW m RD ST)) rfl rfl (Or.inl rfl) zj_X12_next rfl rfl rfl rfl (Nat.le_of_ble_eq_true rfl) rfl (zr_next (F := (zup F 45 ((F 45) + 1))) hH0.1 hH0.2.1 (by have e4 := hA0.2.2 (by omega) (by omega); have hp := hH0.2.2.2.1.2.2.2.2.2 (j + 1) hj1; show 0 ≤ F 4 ∧ F 4 ≤ F 3; omega) (by have h9 := hH0.2.2.1; show 0 ≤ F 5 ∧ F 5 ≤ 1000; omega)) ⟨by decide, by decide, by decide, by decide⟩ (fun z9 Y9 hz => ?_)
        obtain ⟨rfl, Fa, rfl, hrt, hfrt⟩ := hz
        have hA1 : rAt P K S V Fa (j + 1) := rnext_ok (F := (zup F 45 ((F 45) + 1))) (j := j) hH0 hA0 hj1 (by omega) (by omega) hrt
        have hH1 : RH B P K S V RV k Fa := RH.fr2 hH0 (show Fa 3 = F 3 from hfrt.fr4.1) (show Fa 5 = F 5 from hfrt.fr4.2.1)
        have e3_Fa : Fa 3 = F 3 := hfrt 3 (by decide) (by decide) (by decide) (by decide) (by decide) (by decide)
        have e5_Fa : Fa 5 = F 5 := hfrt 5 (by decide) (by decide) (by decide) (by decide) (by decide) (by decide)
        have e15_Fa : Fa 15 = F 15 := hfrt 15 (by decide) (by decide) (by decide) (by decide) (by decide) (by decide)
        have e44_Fa : Fa 44 = F 44 := hfrt 44 (by decide) (by decide) (by decide) (by decide) (by decide) (by decide)
        have e45_Fa : Fa 45 = (F 45) + 1 := hfrt 45 (by decide) (by decide) (by decide) (by decide) (by decide) (by decide)
        have e46_Fa : Fa 46 = F 46 := hfrt 46 (by decide) (by decide) (by decide) (by decide) (by decide) (by decide)
        have e47_Fa : Fa 47 = F 47 := hfrt 47 (by decide) (by decide) (by decide) (by decide) (by decide) (by decide)
        have e48_Fa : Fa 48 = F 48 := hfrt 48 (by decide) (by decide) (by decide) (by decide) (by decide) (by decide)
        refine zg_blk pok2 X 1 [] (S' := (77, [(3, zI (-1)), (2, zI 0), (1, zI 1), (0, zR (m 0))], [zI 1], ((rW m Fa B SS HH NR RV) ++ (qW m RD ST)))) rfl trivial ?_
        refine zg_if X 84 rfl rfl (by first | (unfold zin; omega) | (have h9 := hA1.2.1.t11; unfold zin; omega) | (have h8 := hA1.2.1.sg14 (by omega); unfold zin; omega) | (have h9 := hA2.2.1.t11; unfold zin; omega)) (fun g4 => ?_) (fun g4 => ?_)
        · simp only [x_cnd] at g4
          refine zg_blk pok2 X 5 [0, 0] (S' := (93, [(3, zI (-1)), (2, zI 0), (1, zI 1), (0, zR (m 0))], [zI 1, zI (Fa 46), zR (m 43)], ((rW m Fa B SS HH NR RV) ++ (qW m RD ST)))) rfl ⟨rfl, rfl, trivial⟩ ?_
          refine zg_if X 101 rfl rfl (by first | (unfold zin; omega) | (have h9 := hA1.2.1.t11; unfold zin; omega) | (have h8 := hA1.2.1.sg14 (by omega); unfold zin; omega) | (have h9 := hA2.2.1.t11; unfold zin; omega)) (fun g5 => ?_) (fun g5 => ?_)
          · exact absurd (show (1 : Int) = (0 : Int) from g5) (by decide)
          · simp only [x_ncd] at g5
            refine zg_blk pok2 X 16 [7, 0, 0, 0, 0] (S' := (125, [(3, zI (-1)), (2, zI 0), (1, zI 1), (0, zR (m 0))], [zI 1], ((rW m (zup (zup Fa 46 ((Fa 46) + 1)) 47 ((Fa 47) + 1)) B SS HH NR RV) ++ (qW m RD (zup ST ((Fa 46).toNat) 20))))) rfl ⟨rfl, rfl, (show zidx (Fa 46) 45 from by unfold zidx; omega), rfl, rfl, rfl, rfl, rfl, rfl, rfl, rfl, trivial⟩ ?_
            refine zg_retb X hR rfl rfl (by decide) (by decide) (by first | exact Or.inl rfl | exact Or.inr rfl) ?_
            refine ⟨_, _, _, rfl, ?_⟩
            refine Or.inl ?_
            unfold sOp
            rw [if_neg (by omega), if_neg (by omega), if_neg (by omega), if_pos (by omega)]
            try dsimp only
            exact ⟨rfl, rfl, hA1, hj1, ⟨⟨by show ((Fa 46) + 1) = _; simp only [List.length_cons]; omega, stk_push (x := 0) (by omega) hs, by show ((Fa 47) + 1) = _; omega, by show _ = dp st + 1 + 1; omega, by show 0 ≤ (Fa 44); omega, rfl, by show (Fa 44) + ((Fa 46) + 1) ≤ 40; omega⟩, by show (Fa 45) = _; omega, by omega, by show (Fa 48) = _; omega, by show (Fa 44) + ((Fa 46) + 1) + _ ≤ _; omega, by show (Fa 15) = _; omega⟩, e3_Fa, e5_Fa⟩
        · exact absurd (show (1 : Int) = (0 : Int) from g4) (by decide)
      · simp only [x_ncd] at g3
        refine zg_blk pok2 X 2 [] (S' := (58, [(3, zI (-1)), (2, zI 0), (1, zI 1), (0, zR (m 0))], [zI 4, zR (m 0)], ((rW m F B SS HH NR RV) ++ (qW m RD ST)))) rfl trivial ?_
        refine zg_callV pok2 EWX_ok X 0 (vas := [zI 4]) (vr := []) (Y1 := (rW m F B SS HH NR RV)) (Y2 := (qW m RD ST)) rfl rfl (Or.inl rfl) zj_X12_bad rfl rfl rfl rfl (Nat.le_of_ble_eq_true rfl) rfl (zr_bad (F := F)) ⟨by decide, by decide, by decide, by decide⟩ (fun z9 Y9 hz => ?_)
        obtain ⟨rfl, rfl⟩ := hz
        refine zg_retb X hR rfl rfl (by decide) (by decide) (by first | exact Or.inl rfl | exact Or.inr rfl) ?_
        refine ⟨_, _, _, rfl, ?_⟩
        refine Or.inr ?_
        unfold sOp
        rw [if_neg (by omega), if_pos (by omega)]
        exact ⟨show ¬ (4 : Int) = 0 by decide, rfl, rfl, hA0.1⟩
  · exact absurd (show (1 : Int) = (0 : Int) from g1) (by decide)
set_option maxHeartbeats 8000000 in
set_option maxRecDepth 4000 in
theorem zr_opTo (hH : RH B P K S V RV k F) (hA : rAt P K S V F j) (hj : j ≤ k) (hRR : RK SS NR CN NM) (hI : INV CN NM x) (hRZ : ∀ q, zin64 (RV q)) (hQ : RQ F ST st d o 0) (hk : K j = 40) {r : va_W} {p0 : Program} {e0 : Env} {s0 : State} {m0 : MethodId} {ar0 : Array Value} {be0 : List Frame} {me0 : Method} {c0 : Code} {A0 : Nat → Prop} {Q0 : State → Prop} (X : Cx OW2 (EWX xs) D cy ex mt2_X12_operand (mY mt2_X12_operand).cls p0 (rmR (2, 0, 0, 45)) s0 m0 ar0 me0 c0 A0 (2, 0, 0, 45) 0 0) (hR : ZRet D cy r mt2_X12_operand p0 l e0 (rmR (2, 0, 0, 45)) s0 m0 ar0 be0 me0 c0 A0 Q0 (2, 0, 0, 45) (fun z Y => ∃ F9 RD9 ST9, Y = (rW m F9 B SS HH NR RV ++ qW m RD9 ST9) ∧ oM P K S V F F9 ST9 k z (sOp K V CN NM st d j o))) : ZG D cy r mt2_X12_operand p0 l e0 (rmR (2, 0, 0, 45)) s0 m0 ar0 be0 me0 c0 A0 Q0 0 0 (20, [(3, zI (-1)), (2, zI 1), (1, zI 0), (0, zR (m 0))], [], ((rW m F B SS HH NR RV) ++ (qW m RD ST))) := by
  have hA0 := hA
  have hH0 := hH
  have hj0 := hj
  obtain ⟨⟨h46, hs, h47, hdp, h44, hT, hT2⟩, h45, ho, h48, hsum, h15⟩ := hQ
  have hdl := dp_le st
  refine zg_blk pok2 X 1 [] (S' := (21, [(3, zI (-1)), (2, zI 1), (1, zI 0), (0, zR (m 0))], [zI 0], ((rW m F B SS HH NR RV) ++ (qW m RD ST)))) rfl trivial ?_
  refine zg_if X 38 rfl rfl (by first | (unfold zin; omega) | (have h9 := hA1.2.1.t11; unfold zin; omega) | (have h8 := hA1.2.1.sg14 (by omega); unfold zin; omega) | (have h9 := hA2.2.1.t11; unfold zin; omega)) (fun g1 => ?_) (fun g1 => ?_)
  · exact absurd (show ¬ (0 : Int) = (0 : Int) from g1) (by decide)
  · simp only [x_ncd] at g1
    refine zg_blk pok2 X 1 [] (S' := (25, [(3, zI (-1)), (2, zI 1), (1, zI 0), (0, zR (m 0))], [zI 1], ((rW m F B SS HH NR RV) ++ (qW m RD ST)))) rfl trivial ?_
    refine zg_if X 38 rfl rfl (by first | (unfold zin; omega) | (have h9 := hA1.2.1.t11; unfold zin; omega) | (have h8 := hA1.2.1.sg14 (by omega); unfold zin; omega) | (have h9 := hA2.2.1.t11; unfold zin; omega)) (fun g2 => ?_) (fun g2 => ?_)
    · simp only [x_cnd] at g2
      refine zg_blk pok2 X 3 [0] (S' := (44, [(3, zI (-1)), (2, zI 1), (1, zI 0), (0, zR (m 0))], [zI 20, zI (F 45)], ((rW m F B SS HH NR RV) ++ (qW m RD ST)))) rfl ⟨rfl, trivial⟩ ?_
      refine zg_icmp X 56 rfl rfl (by first | (unfold zin; omega) | (have h9 := hA1.2.1.t11; unfold zin; omega) | (have h8 := hA1.2.1.sg14 (by omega); unfold zin; omega) | (have h9 := hA2.2.1.t11; unfold zin; omega)) (by first | (unfold zin; omega) | (have h9 := hA1.2.1.t11; unfold zin; omega) | (have h8 := hA1.2.1.sg14 (by omega); unfold zin; omega) | (have h9 := hA2.2.1.t11; unfold zin; omega)) (fun g3 => ?_) (fun g3 => ?_)
      · simp only [x_cnd] at g3
        refine zg_blk pok2 X 2 [] (S' := (58, [(3, zI (-1)), (2, zI 1), (1, zI 0), (0, zR (m 0))], [zI 4, zR (m 0)], ((rW m F B SS HH NR RV) ++ (qW m RD ST)))) rfl trivial ?_
        refine zg_callV pok2 EWX_ok X 0 (vas := [zI 4]) (vr := []) (Y1 := (rW m F B SS HH NR RV)) (Y2 := (qW m RD ST)) rfl rfl (Or.inl rfl) zj_X12_bad rfl rfl rfl rfl (Nat.le_of_ble_eq_true rfl) rfl (zr_bad (F := F)) ⟨by decide, by decide, by decide, by decide⟩ (fun z9 Y9 hz => ?_)
        obtain ⟨rfl, rfl⟩ := hz
        refine zg_retb X hR rfl rfl (by decide) (by decide) (by first | exact Or.inl rfl | exact Or.inr rfl) ?_
        refine ⟨_, _, _, rfl, ?_⟩
        refine Or.inr ?_
        unfold sOp
        rw [if_neg (by omega), if_pos (by omega)]
        exact ⟨show ¬ (4 : Int) = 0 by decide, rfl, rfl, hA0.1⟩
      · simp only [x_ncd] at g3
        refine zg_blk pok2 X 3 [0] (S' := (53, [(3, zI (-1)), (2, zI 1), (1, zI 0), (0, zR (m 0))], [zI 8, zI (F 47)], ((rW m F B SS HH NR RV) ++ (qW m RD ST)))) rfl ⟨rfl, trivial⟩ ?_
        refine zg_icmp X 62 rfl rfl (by first | (unfold zin; omega) | (have h9 := hA1.2.1.t11; unfold zin; omega) | (have h8 := hA1.2.1.sg14 (by omega); unfold zin; omega) | (have h9 := hA2.2.1.t11; unfold zin; omega)) (by first | (unfold zin; omega) | (have h9 := hA1.2.1.t11; unfold zin; omega) | (have h8 := hA1.2.1.sg14 (by omega); unfold zin; omega) | (have h9 := hA2.2.1.t11; unfold zin; omega)) (fun g4 => ?_) (fun g4 => ?_)
        · simp only [x_cnd] at g4
          refine zg_blk pok2 X 7 [0, 0] (S' := (73, [(3, zI (-1)), (2, zI 1), (1, zI 0), (0, zR (m 0))], [zR (m 0)], ((rW m (zup F 45 ((F 45) + 1)) B SS HH NR RV) ++ (qW m RD ST)))) rfl ⟨rfl, rfl, rfl, rfl, trivial⟩ ?_
          have hj1 : j + 1 ≤ k := hH0.len hj0 (by omega) (by omega)
          refine zg_callV pok2 EWX_ok X 0 (vas := []) (vr := []) (Y1 := (rW m (zup F 45 ((F 45) + 1)) B SS HH NR RV)) (Y2 := (qW m RD ST)) rfl rfl (Or.inl rfl) zj_X12_next rfl rfl rfl rfl (Nat.le_of_ble_eq_true rfl) rfl (zr_next (F := (zup F 45 ((F 45) + 1))) hH0.1 hH0.2.1 (by have e4 := hA0.2.2 (by omega) (by omega); have hp := hH0.2.2.2.1.2.2.2.2.2 (j + 1) hj1; show 0 ≤ F 4 ∧ F 4 ≤ F 3; omega) (by have h9 := hH0.2.2.1; show 0 ≤ F 5 ∧ F 5 ≤ 1000; omega)) ⟨by decide, by decide, by decide, by decide⟩ (fun z9 Y9 hz => ?_)
          obtain ⟨rfl, Fa, rfl, hrt, hfrt⟩ := hz
          have hA1 : rAt P K S V Fa (j + 1) := rnext_ok (F := (zup F 45 ((F 45) + 1))) (j := j) hH0 hA0 hj1 (by omega) (by omega) hrt
          have hH1 : RH B P K S V RV k Fa := RH.fr2 hH0 (show Fa 3 = F 3 from hfrt.fr4.1) (show Fa 5 = F 5 from hfrt.fr4.2.1)
          have e3_Fa : Fa 3 = F 3 := hfrt 3 (by decide) (by decide) (by decide) (by decide) (by decide) (by decide)
          have e5_Fa : Fa 5 = F 5 := hfrt 5 (by decide) (by decide) (by decide) (by decide) (by decide) (by decide)
          have e15_Fa : Fa 15 = F 15 := hfrt 15 (by decide) (by decide) (by decide) (by decide) (by decide) (by decide)
          have e44_Fa : Fa 44 = F 44 := hfrt 44 (by decide) (by decide) (by decide) (by decide) (by decide) (by decide)
          have e45_Fa : Fa 45 = (F 45) + 1 := hfrt 45 (by decide) (by decide) (by decide) (by decide) (by decide) (by decide)
          have e46_Fa : Fa 46 = F 46 := hfrt 46 (by decide) (by decide) (by decide) (by decide) (by decide) (by decide)
          have e47_Fa : Fa 47 = F 47 := hfrt 47 (by decide) (by decide) (by decide) (by decide) (by decide) (by decide)
          have e48_Fa : Fa 48 = F 48 := hfrt 48 (by decide) (by decide) (by decide) (by decide) (by decide) (by decide)
          refine zg_blk pok2 X 1 [] (S' := (77, [(3, zI (-1)), (2, zI 1), (1, zI 0), (0, zR (m 0))], [zI 0], ((rW m Fa B SS HH NR RV) ++ (qW m RD ST)))) rfl trivial ?_
          refine zg_if X 84 rfl rfl (by first | (unfold zin; omega) | (have h9 := hA1.2.1.t11; unfold zin; omega) | (have h8 := hA1.2.1.sg14 (by omega); unfold zin; omega) | (have h9 := hA2.2.1.t11; unfold zin; omega)) (fun g5 => ?_) (fun g5 => ?_)
          · exact absurd (show ¬ (0 : Int) = (0 : Int) from g5) (by decide)
          · simp only [x_ncd] at g5
            refine zg_blk pok2 X 1 [] (S' := (81, [(3, zI (-1)), (2, zI 1), (1, zI 0), (0, zR (m 0))], [zI 1], ((rW m Fa B SS HH NR RV) ++ (qW m RD ST)))) rfl trivial ?_
            refine zg_if X 126 rfl rfl (by first | (unfold zin; omega) | (have h9 := hA1.2.1.t11; unfold zin; omega) | (have h8 := hA1.2.1.sg14 (by omega); unfold zin; omega) | (have h9 := hA2.2.1.t11; unfold zin; omega)) (fun g6 => ?_) (fun g6 => ?_)
            · exact absurd (show (1 : Int) = (0 : Int) from g6) (by decide)
            · simp only [x_ncd] at g6
              refine zg_blk pok2 X 5 [0, 0] (S' := (93, [(3, zI (-1)), (2, zI 1), (1, zI 0), (0, zR (m 0))], [zI 0, zI (Fa 46), zR (m 43)], ((rW m Fa B SS HH NR RV) ++ (qW m RD ST)))) rfl ⟨rfl, rfl, trivial⟩ ?_
              refine zg_if X 101 rfl rfl (by first | (unfold zin; omega) | (have h9 := hA1.2.1.t11; unfold zin; omega) | (have h8 := hA1.2.1.sg14 (by omega); unfold zin; omega) | (have h9 := hA2.2.1.t11; unfold zin; omega)) (fun g7 => ?_) (fun g7 => ?_)
              · simp only [x_cnd] at g7
                refine zg_blk pok2 X 15 [7, 0, 0, 0, 0] (S' := (125, [(3, zI (-1)), (2, zI 1), (1, zI 0), (0, zR (m 0))], [zI 1], ((rW m (zup (zup Fa 46 ((Fa 46) + 1)) 47 ((Fa 47) + 1)) B SS HH NR RV) ++ (qW m RD (zup ST ((Fa 46).toNat) 23))))) rfl ⟨rfl, rfl, (show zidx (Fa 46) 45 from by unfold zidx; omega), rfl, rfl, rfl, rfl, rfl, rfl, rfl, rfl, trivial⟩ ?_
                refine zg_retb X hR rfl rfl (by decide) (by decide) (by first | exact Or.inl rfl | exact Or.inr rfl) ?_
                refine ⟨_, _, _, rfl, ?_⟩
                refine Or.inl ?_
                unfold sOp
                rw [if_neg (by omega), if_neg (by omega), if_pos (by omega)]
                try dsimp only
                exact ⟨rfl, rfl, hA1, hj1, ⟨⟨by show ((Fa 46) + 1) = _; simp only [List.length_cons]; omega, stk_push (x := 3) (by omega) hs, by show ((Fa 47) + 1) = _; omega, by show _ = dp st + 1 + 1; omega, by show 0 ≤ (Fa 44); omega, rfl, by show (Fa 44) + ((Fa 46) + 1) ≤ 40; omega⟩, by show (Fa 45) = _; omega, by omega, by show (Fa 48) = _; omega, by show (Fa 44) + ((Fa 46) + 1) + _ ≤ _; omega, by show (Fa 15) = _; omega⟩, e3_Fa, e5_Fa⟩
              · exact absurd (show ¬ (0 : Int) = (0 : Int) from g7) (by decide)
        · simp only [x_ncd] at g4
          refine zg_blk pok2 X 2 [] (S' := (58, [(3, zI (-1)), (2, zI 1), (1, zI 0), (0, zR (m 0))], [zI 4, zR (m 0)], ((rW m F B SS HH NR RV) ++ (qW m RD ST)))) rfl trivial ?_
          refine zg_callV pok2 EWX_ok X 0 (vas := [zI 4]) (vr := []) (Y1 := (rW m F B SS HH NR RV)) (Y2 := (qW m RD ST)) rfl rfl (Or.inl rfl) zj_X12_bad rfl rfl rfl rfl (Nat.le_of_ble_eq_true rfl) rfl (zr_bad (F := F)) ⟨by decide, by decide, by decide, by decide⟩ (fun z9 Y9 hz => ?_)
          obtain ⟨rfl, rfl⟩ := hz
          refine zg_retb X hR rfl rfl (by decide) (by decide) (by first | exact Or.inl rfl | exact Or.inr rfl) ?_
          refine ⟨_, _, _, rfl, ?_⟩
          refine Or.inr ?_
          unfold sOp
          rw [if_neg (by omega), if_pos (by omega)]
          exact ⟨show ¬ (4 : Int) = 0 by decide, rfl, rfl, hA0.1⟩
    · exact absurd (show (1 : Int) = (0 : Int) from g2) (by decide)
set_option maxHeartbeats 8000000 in
set_option maxRecDepth 4000 in
theorem zr_opTx (hH : RH B P K S V RV k F) (hA : rAt P K S V F j) (hj : j ≤ k) (hRR : RK SS NR CN NM) (hI : INV CN NM x) (hRZ : ∀ q, zin64 (RV q)) (hQ : RQ F ST st d o 0) (hk : ¬ K j = 40 ∧ ¬ (K j = 2 ∧ 20 ≤ V j ∧ V j ≤ 28)) {r : va_W} {p0 : Program} {e0 : Env} {s0 : State} {m0 : MethodId} {ar0 : Array Value} {be0 : List Frame} {me0 : Method} {c0 : Code} {A0 : Nat → Prop} {Q0 : State → Prop} (X : Cx OW2 (EWX xs) D cy ex mt2_X12_operand (mY mt2_X12_operand).cls p0 (rmR (2, 0, 0, 45)) s0 m0 ar0 me0 c0 A0 (2, 0, 0, 45) 0 0) (hR : ZRet D cy r mt2_X12_operand p0 l e0 (rmR (2, 0, 0, 45)) s0 m0 ar0 be0 me0 c0 A0 Q0 (2, 0, 0, 45) (fun z Y => ∃ F9 RD9 ST9, Y = (rW m F9 B SS HH NR RV ++ qW m RD9 ST9) ∧ oM P K S V F F9 ST9 k z (sOp K V CN NM st d j o))) : ZG D cy r mt2_X12_operand p0 l e0 (rmR (2, 0, 0, 45)) s0 m0 ar0 be0 me0 c0 A0 Q0 0 0 (20, [(3, zI (-1)), (2, zI 0), (1, zI 0), (0, zR (m 0))], [], ((rW m F B SS HH NR RV) ++ (qW m RD ST))) := by
  have hA0 := hA
  have hH0 := hH
  have hj0 := hj
  obtain ⟨⟨h46, hs, h47, hdp, h44, hT, hT2⟩, h45, ho, h48, hsum, h15⟩ := hQ
  have hdl := dp_le st
  refine zg_blk pok2 X 1 [] (S' := (21, [(3, zI (-1)), (2, zI 0), (1, zI 0), (0, zR (m 0))], [zI 0], ((rW m F B SS HH NR RV) ++ (qW m RD ST)))) rfl trivial ?_
  refine zg_if X 38 rfl rfl (by first | (unfold zin; omega) | (have h9 := hA1.2.1.t11; unfold zin; omega) | (have h8 := hA1.2.1.sg14 (by omega); unfold zin; omega) | (have h9 := hA2.2.1.t11; unfold zin; omega)) (fun g1 => ?_) (fun g1 => ?_)
  · exact absurd (show ¬ (0 : Int) = (0 : Int) from g1) (by decide)
  · simp only [x_ncd] at g1
    refine zg_blk pok2 X 1 [] (S' := (25, [(3, zI (-1)), (2, zI 0), (1, zI 0), (0, zR (m 0))], [zI 0], ((rW m F B SS HH NR RV) ++ (qW m RD ST)))) rfl trivial ?_
    refine zg_if X 38 rfl rfl (by first | (unfold zin; omega) | (have h9 := hA1.2.1.t11; unfold zin; omega) | (have h8 := hA1.2.1.sg14 (by omega); unfold zin; omega) | (have h9 := hA2.2.1.t11; unfold zin; omega)) (fun g2 => ?_) (fun g2 => ?_)
    · exact absurd (show ¬ (0 : Int) = (0 : Int) from g2) (by decide)
    · simp only [x_ncd] at g2
      refine zg_blk pok2 X 1 [] (S' := (29, [(3, zI (-1)), (2, zI 0), (1, zI 0), (0, zR (m 0))], [zI (-1)], ((rW m F B SS HH NR RV) ++ (qW m RD ST)))) rfl trivial ?_
      refine zg_if X 38 rfl rfl (by first | (unfold zin; omega) | (have h9 := hA1.2.1.t11; unfold zin; omega) | (have h8 := hA1.2.1.sg14 (by omega); unfold zin; omega) | (have h9 := hA2.2.1.t11; unfold zin; omega)) (fun g3 => ?_) (fun g3 => ?_)
      · exact absurd (show (0 : Int) ≤ (-1 : Int) from g3) (by decide)
      · simp only [x_ncd] at g3
        refine zg_blk pok2 X 2 [] (S' := (34, [(3, zI (-1)), (2, zI 0), (1, zI 0), (0, zR (m 0))], [zI 1, zR (m 0)], ((rW m F B SS HH NR RV) ++ (qW m RD ST)))) rfl trivial ?_
        refine zg_callV pok2 EWX_ok X 0 (vas := [zI 1]) (vr := []) (Y1 := (rW m F B SS HH NR RV)) (Y2 := (qW m RD ST)) rfl rfl (Or.inl rfl) zj_X12_bad rfl rfl rfl rfl (Nat.le_of_ble_eq_true rfl) rfl (zr_bad (F := F)) ⟨by decide, by decide, by decide, by decide⟩ (fun z9 Y9 hz => ?_)
        obtain ⟨rfl, rfl⟩ := hz
        refine zg_retb X hR rfl rfl (by decide) (by decide) (by first | exact Or.inl rfl | exact Or.inr rfl) ?_
        refine ⟨_, _, _, rfl, ?_⟩
        refine Or.inr ?_
        unfold sOp
        rw [if_pos (by omega)]
        exact ⟨show ¬ (1 : Int) = 0 by decide, rfl, rfl, hA0.1⟩
set_option maxHeartbeats 8000000 in
set_option maxRecDepth 4000 in
theorem zr_opT0 (hH : RH B P K S V RV k F) (hA : rAt P K S V F j) (hj : j ≤ k) (hRR : RK SS NR CN NM) (hI : INV CN NM x) (hRZ : ∀ q, zin64 (RV q)) (hQ : RQ F ST st d o 0) (hk : K j = 2 ∧ V j = 21) {r : va_W} {p0 : Program} {e0 : Env} {s0 : State} {m0 : MethodId} {ar0 : Array Value} {be0 : List Frame} {me0 : Method} {c0 : Code} {A0 : Nat → Prop} {Q0 : State → Prop} (X : Cx OW2 (EWX xs) D cy ex mt2_X12_operand (mY mt2_X12_operand).cls p0 (rmR (2, 0, 0, 45)) s0 m0 ar0 me0 c0 A0 (2, 0, 0, 45) 0 0) (hR : ZRet D cy r mt2_X12_operand p0 l e0 (rmR (2, 0, 0, 45)) s0 m0 ar0 be0 me0 c0 A0 Q0 (2, 0, 0, 45) (fun z Y => ∃ F9 RD9 ST9, Y = (rW m F9 B SS HH NR RV ++ qW m RD9 ST9) ∧ oM P K S V F F9 ST9 k z (sOp K V CN NM st d j o))) : ZG D cy r mt2_X12_operand p0 l e0 (rmR (2, 0, 0, 45)) s0 m0 ar0 be0 me0 c0 A0 Q0 0 0 (20, [(3, zI 0), (2, zI 0), (1, zI 0), (0, zR (m 0))], [], ((rW m F B SS HH NR RV) ++ (qW m RD ST))) := by
  have hA0 := hA
  have hH0 := hH
  have hj0 := hj
  obtain ⟨⟨h46, hs, h47, hdp, h44, hT, hT2⟩, h45, ho, h48, hsum, h15⟩ := hQ
  have hdl := dp_le st
  refine zg_blk pok2 X 1 [] (S' := (21, [(3, zI 0), (2, zI 0), (1, zI 0), (0, zR (m 0))], [zI 0], ((rW m F B SS HH NR RV) ++ (qW m RD ST)))) rfl trivial ?_
  refine zg_if X 38 rfl rfl (by first | (unfold zin; omega) | (have h9 := hA1.2.1.t11; unfold zin; omega) | (have h8 := hA1.2.1.sg14 (by omega); unfold zin; omega) | (have h9 := hA2.2.1.t11; unfold zin; omega)) (fun g1 => ?_) (fun g1 => ?_)
  · exact absurd (show ¬ (0 : Int) = (0 : Int) from g1) (by decide)
  · simp only [x_ncd] at g1
    refine zg_blk pok2 X 1 [] (S' := (25, [(3, zI 0), (2, zI 0), (1, zI 0), (0, zR (m 0))], [zI 0], ((rW m F B SS HH NR RV) ++ (qW m RD ST)))) rfl trivial ?_
    refine zg_if X 38 rfl rfl (by first | (unfold zin; omega) | (have h9 := hA1.2.1.t11; unfold zin; omega) | (have h8 := hA1.2.1.sg14 (by omega); unfold zin; omega) | (have h9 := hA2.2.1.t11; unfold zin; omega)) (fun g2 => ?_) (fun g2 => ?_)
    · exact absurd (show ¬ (0 : Int) = (0 : Int) from g2) (by decide)
    · simp only [x_ncd] at g2
      refine zg_blk pok2 X 1 [] (S' := (29, [(3, zI 0), (2, zI 0), (1, zI 0), (0, zR (m 0))], [zI 0], ((rW m F B SS HH NR RV) ++ (qW m RD ST)))) rfl trivial ?_
      refine zg_if X 38 rfl rfl (by first | (unfold zin; omega) | (have h9 := hA1.2.1.t11; unfold zin; omega) | (have h8 := hA1.2.1.sg14 (by omega); unfold zin; omega) | (have h9 := hA2.2.1.t11; unfold zin; omega)) (fun g3 => ?_) (fun g3 => ?_)
      · simp only [x_cnd] at g3
        refine zg_blk pok2 X 3 [0] (S' := (44, [(3, zI 0), (2, zI 0), (1, zI 0), (0, zR (m 0))], [zI 20, zI (F 45)], ((rW m F B SS HH NR RV) ++ (qW m RD ST)))) rfl ⟨rfl, trivial⟩ ?_
        refine zg_icmp X 56 rfl rfl (by first | (unfold zin; omega) | (have h9 := hA1.2.1.t11; unfold zin; omega) | (have h8 := hA1.2.1.sg14 (by omega); unfold zin; omega) | (have h9 := hA2.2.1.t11; unfold zin; omega)) (by first | (unfold zin; omega) | (have h9 := hA1.2.1.t11; unfold zin; omega) | (have h8 := hA1.2.1.sg14 (by omega); unfold zin; omega) | (have h9 := hA2.2.1.t11; unfold zin; omega)) (fun g4 => ?_) (fun g4 => ?_)
        · simp only [x_cnd] at g4
          refine zg_blk pok2 X 2 [] (S' := (58, [(3, zI 0), (2, zI 0), (1, zI 0), (0, zR (m 0))], [zI 4, zR (m 0)], ((rW m F B SS HH NR RV) ++ (qW m RD ST)))) rfl trivial ?_
          refine zg_callV pok2 EWX_ok X 0 (vas := [zI 4]) (vr := []) (Y1 := (rW m F B SS HH NR RV)) (Y2 := (qW m RD ST)) rfl rfl (Or.inl rfl) zj_X12_bad rfl rfl rfl rfl (Nat.le_of_ble_eq_true rfl) rfl (zr_bad (F := F)) ⟨by decide, by decide, by decide, by decide⟩ (fun z9 Y9 hz => ?_)
          obtain ⟨rfl, rfl⟩ := hz
          refine zg_retb X hR rfl rfl (by decide) (by decide) (by first | exact Or.inl rfl | exact Or.inr rfl) ?_
          refine ⟨_, _, _, rfl, ?_⟩
          refine Or.inr ?_
          unfold sOp
          rw [if_neg (by omega), if_pos (by omega)]
          exact ⟨show ¬ (4 : Int) = 0 by decide, rfl, rfl, hA0.1⟩
        · simp only [x_ncd] at g4
          refine zg_blk pok2 X 3 [0] (S' := (53, [(3, zI 0), (2, zI 0), (1, zI 0), (0, zR (m 0))], [zI 8, zI (F 47)], ((rW m F B SS HH NR RV) ++ (qW m RD ST)))) rfl ⟨rfl, trivial⟩ ?_
          refine zg_icmp X 62 rfl rfl (by first | (unfold zin; omega) | (have h9 := hA1.2.1.t11; unfold zin; omega) | (have h8 := hA1.2.1.sg14 (by omega); unfold zin; omega) | (have h9 := hA2.2.1.t11; unfold zin; omega)) (by first | (unfold zin; omega) | (have h9 := hA1.2.1.t11; unfold zin; omega) | (have h8 := hA1.2.1.sg14 (by omega); unfold zin; omega) | (have h9 := hA2.2.1.t11; unfold zin; omega)) (fun g5 => ?_) (fun g5 => ?_)
          · simp only [x_cnd] at g5
            refine zg_blk pok2 X 7 [0, 0] (S' := (73, [(3, zI 0), (2, zI 0), (1, zI 0), (0, zR (m 0))], [zR (m 0)], ((rW m (zup F 45 ((F 45) + 1)) B SS HH NR RV) ++ (qW m RD ST)))) rfl ⟨rfl, rfl, rfl, rfl, trivial⟩ ?_
            have hj1 : j + 1 ≤ k := hH0.len hj0 (by omega) (by omega)
            refine zg_callV pok2 EWX_ok X 0 (vas := []) (vr := []) (Y1 := (rW m (zup F 45 ((F 45) + 1)) B SS HH NR RV)) (Y2 := (qW m RD ST)) rfl rfl (Or.inl rfl) zj_X12_next rfl rfl rfl rfl (Nat.le_of_ble_eq_true rfl) rfl (zr_next (F := (zup F 45 ((F 45) + 1))) hH0.1 hH0.2.1 (by have e4 := hA0.2.2 (by omega) (by omega); have hp := hH0.2.2.2.1.2.2.2.2.2 (j + 1) hj1; show 0 ≤ F 4 ∧ F 4 ≤ F 3; omega) (by have h9 := hH0.2.2.1; show 0 ≤ F 5 ∧ F 5 ≤ 1000; omega)) ⟨by decide, by decide, by decide, by decide⟩ (fun z9 Y9 hz => ?_)
            obtain ⟨rfl, Fa, rfl, hrt, hfrt⟩ := hz
            have hA1 : rAt P K S V Fa (j + 1) := rnext_ok (F := (zup F 45 ((F 45) + 1))) (j := j) hH0 hA0 hj1 (by omega) (by omega) hrt
            have hH1 : RH B P K S V RV k Fa := RH.fr2 hH0 (show Fa 3 = F 3 from hfrt.fr4.1) (show Fa 5 = F 5 from hfrt.fr4.2.1)
            have e3_Fa : Fa 3 = F 3 := hfrt 3 (by decide) (by decide) (by decide) (by decide) (by decide) (by decide)
            have e5_Fa : Fa 5 = F 5 := hfrt 5 (by decide) (by decide) (by decide) (by decide) (by decide) (by decide)
            have e15_Fa : Fa 15 = F 15 := hfrt 15 (by decide) (by decide) (by decide) (by decide) (by decide) (by decide)
            have e44_Fa : Fa 44 = F 44 := hfrt 44 (by decide) (by decide) (by decide) (by decide) (by decide) (by decide)
            have e45_Fa : Fa 45 = (F 45) + 1 := hfrt 45 (by decide) (by decide) (by decide) (by decide) (by decide) (by decide)
            have e46_Fa : Fa 46 = F 46 := hfrt 46 (by decide) (by decide) (by decide) (by decide) (by decide) (by decide)
            have e47_Fa : Fa 47 = F 47 := hfrt 47 (by decide) (by decide) (by decide) (by decide) (by decide) (by decide)
            have e48_Fa : Fa 48 = F 48 := hfrt 48 (by decide) (by decide) (by decide) (by decide) (by decide) (by decide)
            refine zg_blk pok2 X 1 [] (S' := (77, [(3, zI 0), (2, zI 0), (1, zI 0), (0, zR (m 0))], [zI 0], ((rW m Fa B SS HH NR RV) ++ (qW m RD ST)))) rfl trivial ?_
            refine zg_if X 84 rfl rfl (by first | (unfold zin; omega) | (have h9 := hA1.2.1.t11; unfold zin; omega) | (have h8 := hA1.2.1.sg14 (by omega); unfold zin; omega) | (have h9 := hA2.2.1.t11; unfold zin; omega)) (fun g6 => ?_) (fun g6 => ?_)
            · exact absurd (show ¬ (0 : Int) = (0 : Int) from g6) (by decide)
            · simp only [x_ncd] at g6
              refine zg_blk pok2 X 1 [] (S' := (81, [(3, zI 0), (2, zI 0), (1, zI 0), (0, zR (m 0))], [zI 0], ((rW m Fa B SS HH NR RV) ++ (qW m RD ST)))) rfl trivial ?_
              refine zg_if X 126 rfl rfl (by first | (unfold zin; omega) | (have h9 := hA1.2.1.t11; unfold zin; omega) | (have h8 := hA1.2.1.sg14 (by omega); unfold zin; omega) | (have h9 := hA2.2.1.t11; unfold zin; omega)) (fun g7 => ?_) (fun g7 => ?_)
              · simp only [x_cnd] at g7
                refine zg_blk pok2 X 5 [0] (S' := (133, [(3, zI 0), (2, zI 0), (1, zI 0), (0, zR (m 0))], [zI 2, zI 0], ((rW m (zup Fa 48 1) B SS HH NR RV) ++ (qW m RD ST)))) rfl ⟨rfl, rfl, rfl, trivial⟩ ?_
                refine zg_icmp X 145 rfl rfl (by first | (unfold zin; omega) | (have h9 := hA1.2.1.t11; unfold zin; omega) | (have h8 := hA1.2.1.sg14 (by omega); unfold zin; omega) | (have h9 := hA2.2.1.t11; unfold zin; omega)) (by first | (unfold zin; omega) | (have h9 := hA1.2.1.t11; unfold zin; omega) | (have h8 := hA1.2.1.sg14 (by omega); unfold zin; omega) | (have h9 := hA2.2.1.t11; unfold zin; omega)) (fun g8 => ?_) (fun g8 => ?_)
                · exact absurd (show (2 : Int) ≤ (0 : Int) from g8) (by decide)
                · simp only [x_ncd] at g8
                  refine zg_blk pok2 X 4 [] (S' := (140, [(3, zI 0), (2, zI 0), (1, zI 0), (0, zR (m 0))], [zI 0, zI 0, zI 0, zR (m 0)], ((rW m (zup Fa 48 1) B SS HH NR RV) ++ (qW m RD ST)))) rfl trivial ?_
                  refine zg_callV pok2 EWX_ok X 0 (vas := [zI 0, zI 0, zI 0]) (vr := []) (Y1 := ((rW m (zup Fa 48 1) B SS HH NR RV) ++ (qW m RD ST))) (Y2 := []) rfl rfl (Or.inl rfl) zj_X12_code rfl rfl rfl rfl (Nat.le_of_ble_eq_true rfl) rfl (zr_code (F := (zup Fa 48 1)) (show 0 ≤ (Fa 44) ∧ (Fa 44) ≤ 45 by omega)) ⟨by decide, by decide, by decide, by decide⟩ (fun z9 Y9 hz => ?_)
                  obtain ⟨rfl, RDb, rfl⟩ := hz
                  refine zg_cv (S2 := (143, [(3, zI 0), (2, zI 0), (1, zI 0), (0, zR (m 0))], [], ((rW m (zup (zup Fa 44 ((Fa 44) + 1)) 48 1) B SS HH NR RV) ++ (qW m RDb ST)))) rfl ?_
                  refine zg_blk pok2 X 1 [] (S' := (144, [(3, zI 0), (2, zI 0), (1, zI 0), (0, zR (m 0))], [zI 1], ((rW m (zup (zup Fa 44 ((Fa 44) + 1)) 48 1) B SS HH NR RV) ++ (qW m RDb ST)))) rfl trivial ?_
                  refine zg_retb X hR rfl rfl (by decide) (by decide) (by first | exact Or.inl rfl | exact Or.inr rfl) ?_
                  refine ⟨_, _, _, rfl, ?_⟩
                  have e1 : sLeaf K V CN NM j = (0, j + 1) := by
                    unfold sLeaf
                    rw [if_pos (by omega)]
                  refine Or.inl ?_
                  unfold sOp
                  rw [if_neg (by omega), if_neg (by omega), if_neg (by omega), if_neg (by omega)]
                  rw [e1]
                  try dsimp only
                  exact ⟨rfl, rfl, hA1, hj1, ⟨⟨by show (Fa 46) = _; omega, hs, by show (Fa 47) = _; omega, hdp, by show 0 ≤ ((Fa 44) + 1); omega, rfl, by show ((Fa 44) + 1) + (Fa 46) ≤ 40; omega⟩, by show (Fa 45) = _; omega, by omega, by show 1 = _; omega, by show ((Fa 44) + 1) + (Fa 46) + _ ≤ _; omega, by show (Fa 15) = _; omega⟩, by show Fa 3 = F 3; omega, by show Fa 5 = F 5; omega⟩
              · exact absurd (show ¬ (0 : Int) = (0 : Int) from g7) (by decide)
          · simp only [x_ncd] at g5
            refine zg_blk pok2 X 2 [] (S' := (58, [(3, zI 0), (2, zI 0), (1, zI 0), (0, zR (m 0))], [zI 4, zR (m 0)], ((rW m F B SS HH NR RV) ++ (qW m RD ST)))) rfl trivial ?_
            refine zg_callV pok2 EWX_ok X 0 (vas := [zI 4]) (vr := []) (Y1 := (rW m F B SS HH NR RV)) (Y2 := (qW m RD ST)) rfl rfl (Or.inl rfl) zj_X12_bad rfl rfl rfl rfl (Nat.le_of_ble_eq_true rfl) rfl (zr_bad (F := F)) ⟨by decide, by decide, by decide, by decide⟩ (fun z9 Y9 hz => ?_)
            obtain ⟨rfl, rfl⟩ := hz
            refine zg_retb X hR rfl rfl (by decide) (by decide) (by first | exact Or.inl rfl | exact Or.inr rfl) ?_
            refine ⟨_, _, _, rfl, ?_⟩
            refine Or.inr ?_
            unfold sOp
            rw [if_neg (by omega), if_pos (by omega)]
            exact ⟨show ¬ (4 : Int) = 0 by decide, rfl, rfl, hA0.1⟩
      · exact absurd (show (0 : Int) < (0 : Int) from g3) (by decide)
set_option maxHeartbeats 8000000 in
set_option maxRecDepth 4000 in
theorem zr_opT1 (hH : RH B P K S V RV k F) (hA : rAt P K S V F j) (hj : j ≤ k) (hRR : RK SS NR CN NM) (hI : INV CN NM x) (hRZ : ∀ q, zin64 (RV q)) (hQ : RQ F ST st d o 0) (hk : K j = 2 ∧ V j = 22) {r : va_W} {p0 : Program} {e0 : Env} {s0 : State} {m0 : MethodId} {ar0 : Array Value} {be0 : List Frame} {me0 : Method} {c0 : Code} {A0 : Nat → Prop} {Q0 : State → Prop} (X : Cx OW2 (EWX xs) D cy ex mt2_X12_operand (mY mt2_X12_operand).cls p0 (rmR (2, 0, 0, 45)) s0 m0 ar0 me0 c0 A0 (2, 0, 0, 45) 0 0) (hR : ZRet D cy r mt2_X12_operand p0 l e0 (rmR (2, 0, 0, 45)) s0 m0 ar0 be0 me0 c0 A0 Q0 (2, 0, 0, 45) (fun z Y => ∃ F9 RD9 ST9, Y = (rW m F9 B SS HH NR RV ++ qW m RD9 ST9) ∧ oM P K S V F F9 ST9 k z (sOp K V CN NM st d j o))) : ZG D cy r mt2_X12_operand p0 l e0 (rmR (2, 0, 0, 45)) s0 m0 ar0 be0 me0 c0 A0 Q0 0 0 (20, [(3, zI 1), (2, zI 0), (1, zI 0), (0, zR (m 0))], [], ((rW m F B SS HH NR RV) ++ (qW m RD ST))) := by
  have hA0 := hA
  have hH0 := hH
  have hj0 := hj
  obtain ⟨⟨h46, hs, h47, hdp, h44, hT, hT2⟩, h45, ho, h48, hsum, h15⟩ := hQ
  have hdl := dp_le st
  refine zg_blk pok2 X 1 [] (S' := (21, [(3, zI 1), (2, zI 0), (1, zI 0), (0, zR (m 0))], [zI 0], ((rW m F B SS HH NR RV) ++ (qW m RD ST)))) rfl trivial ?_
  refine zg_if X 38 rfl rfl (by first | (unfold zin; omega) | (have h9 := hA1.2.1.t11; unfold zin; omega) | (have h8 := hA1.2.1.sg14 (by omega); unfold zin; omega) | (have h9 := hA2.2.1.t11; unfold zin; omega)) (fun g1 => ?_) (fun g1 => ?_)
  · exact absurd (show ¬ (0 : Int) = (0 : Int) from g1) (by decide)
  · simp only [x_ncd] at g1
    refine zg_blk pok2 X 1 [] (S' := (25, [(3, zI 1), (2, zI 0), (1, zI 0), (0, zR (m 0))], [zI 0], ((rW m F B SS HH NR RV) ++ (qW m RD ST)))) rfl trivial ?_
    refine zg_if X 38 rfl rfl (by first | (unfold zin; omega) | (have h9 := hA1.2.1.t11; unfold zin; omega) | (have h8 := hA1.2.1.sg14 (by omega); unfold zin; omega) | (have h9 := hA2.2.1.t11; unfold zin; omega)) (fun g2 => ?_) (fun g2 => ?_)
    · exact absurd (show ¬ (0 : Int) = (0 : Int) from g2) (by decide)
    · simp only [x_ncd] at g2
      refine zg_blk pok2 X 1 [] (S' := (29, [(3, zI 1), (2, zI 0), (1, zI 0), (0, zR (m 0))], [zI 1], ((rW m F B SS HH NR RV) ++ (qW m RD ST)))) rfl trivial ?_
      refine zg_if X 38 rfl rfl (by first | (unfold zin; omega) | (have h9 := hA1.2.1.t11; unfold zin; omega) | (have h8 := hA1.2.1.sg14 (by omega); unfold zin; omega) | (have h9 := hA2.2.1.t11; unfold zin; omega)) (fun g3 => ?_) (fun g3 => ?_)
      · simp only [x_cnd] at g3
        refine zg_blk pok2 X 3 [0] (S' := (44, [(3, zI 1), (2, zI 0), (1, zI 0), (0, zR (m 0))], [zI 20, zI (F 45)], ((rW m F B SS HH NR RV) ++ (qW m RD ST)))) rfl ⟨rfl, trivial⟩ ?_
        refine zg_icmp X 56 rfl rfl (by first | (unfold zin; omega) | (have h9 := hA1.2.1.t11; unfold zin; omega) | (have h8 := hA1.2.1.sg14 (by omega); unfold zin; omega) | (have h9 := hA2.2.1.t11; unfold zin; omega)) (by first | (unfold zin; omega) | (have h9 := hA1.2.1.t11; unfold zin; omega) | (have h8 := hA1.2.1.sg14 (by omega); unfold zin; omega) | (have h9 := hA2.2.1.t11; unfold zin; omega)) (fun g4 => ?_) (fun g4 => ?_)
        · simp only [x_cnd] at g4
          refine zg_blk pok2 X 2 [] (S' := (58, [(3, zI 1), (2, zI 0), (1, zI 0), (0, zR (m 0))], [zI 4, zR (m 0)], ((rW m F B SS HH NR RV) ++ (qW m RD ST)))) rfl trivial ?_
          refine zg_callV pok2 EWX_ok X 0 (vas := [zI 4]) (vr := []) (Y1 := (rW m F B SS HH NR RV)) (Y2 := (qW m RD ST)) rfl rfl (Or.inl rfl) zj_X12_bad rfl rfl rfl rfl (Nat.le_of_ble_eq_true rfl) rfl (zr_bad (F := F)) ⟨by decide, by decide, by decide, by decide⟩ (fun z9 Y9 hz => ?_)
          obtain ⟨rfl, rfl⟩ := hz
          refine zg_retb X hR rfl rfl (by decide) (by decide) (by first | exact Or.inl rfl | exact Or.inr rfl) ?_
          refine ⟨_, _, _, rfl, ?_⟩
          refine Or.inr ?_
          unfold sOp
          rw [if_neg (by omega), if_pos (by omega)]
          exact ⟨show ¬ (4 : Int) = 0 by decide, rfl, rfl, hA0.1⟩
        · simp only [x_ncd] at g4
          refine zg_blk pok2 X 3 [0] (S' := (53, [(3, zI 1), (2, zI 0), (1, zI 0), (0, zR (m 0))], [zI 8, zI (F 47)], ((rW m F B SS HH NR RV) ++ (qW m RD ST)))) rfl ⟨rfl, trivial⟩ ?_
          refine zg_icmp X 62 rfl rfl (by first | (unfold zin; omega) | (have h9 := hA1.2.1.t11; unfold zin; omega) | (have h8 := hA1.2.1.sg14 (by omega); unfold zin; omega) | (have h9 := hA2.2.1.t11; unfold zin; omega)) (by first | (unfold zin; omega) | (have h9 := hA1.2.1.t11; unfold zin; omega) | (have h8 := hA1.2.1.sg14 (by omega); unfold zin; omega) | (have h9 := hA2.2.1.t11; unfold zin; omega)) (fun g5 => ?_) (fun g5 => ?_)
          · simp only [x_cnd] at g5
            refine zg_blk pok2 X 7 [0, 0] (S' := (73, [(3, zI 1), (2, zI 0), (1, zI 0), (0, zR (m 0))], [zR (m 0)], ((rW m (zup F 45 ((F 45) + 1)) B SS HH NR RV) ++ (qW m RD ST)))) rfl ⟨rfl, rfl, rfl, rfl, trivial⟩ ?_
            have hj1 : j + 1 ≤ k := hH0.len hj0 (by omega) (by omega)
            refine zg_callV pok2 EWX_ok X 0 (vas := []) (vr := []) (Y1 := (rW m (zup F 45 ((F 45) + 1)) B SS HH NR RV)) (Y2 := (qW m RD ST)) rfl rfl (Or.inl rfl) zj_X12_next rfl rfl rfl rfl (Nat.le_of_ble_eq_true rfl) rfl (zr_next (F := (zup F 45 ((F 45) + 1))) hH0.1 hH0.2.1 (by have e4 := hA0.2.2 (by omega) (by omega); have hp := hH0.2.2.2.1.2.2.2.2.2 (j + 1) hj1; show 0 ≤ F 4 ∧ F 4 ≤ F 3; omega) (by have h9 := hH0.2.2.1; show 0 ≤ F 5 ∧ F 5 ≤ 1000; omega)) ⟨by decide, by decide, by decide, by decide⟩ (fun z9 Y9 hz => ?_)
            obtain ⟨rfl, Fa, rfl, hrt, hfrt⟩ := hz
            have hA1 : rAt P K S V Fa (j + 1) := rnext_ok (F := (zup F 45 ((F 45) + 1))) (j := j) hH0 hA0 hj1 (by omega) (by omega) hrt
            have hH1 : RH B P K S V RV k Fa := RH.fr2 hH0 (show Fa 3 = F 3 from hfrt.fr4.1) (show Fa 5 = F 5 from hfrt.fr4.2.1)
            have e3_Fa : Fa 3 = F 3 := hfrt 3 (by decide) (by decide) (by decide) (by decide) (by decide) (by decide)
            have e5_Fa : Fa 5 = F 5 := hfrt 5 (by decide) (by decide) (by decide) (by decide) (by decide) (by decide)
            have e15_Fa : Fa 15 = F 15 := hfrt 15 (by decide) (by decide) (by decide) (by decide) (by decide) (by decide)
            have e44_Fa : Fa 44 = F 44 := hfrt 44 (by decide) (by decide) (by decide) (by decide) (by decide) (by decide)
            have e45_Fa : Fa 45 = (F 45) + 1 := hfrt 45 (by decide) (by decide) (by decide) (by decide) (by decide) (by decide)
            have e46_Fa : Fa 46 = F 46 := hfrt 46 (by decide) (by decide) (by decide) (by decide) (by decide) (by decide)
            have e47_Fa : Fa 47 = F 47 := hfrt 47 (by decide) (by decide) (by decide) (by decide) (by decide) (by decide)
            have e48_Fa : Fa 48 = F 48 := hfrt 48 (by decide) (by decide) (by decide) (by decide) (by decide) (by decide)
            refine zg_blk pok2 X 1 [] (S' := (77, [(3, zI 1), (2, zI 0), (1, zI 0), (0, zR (m 0))], [zI 0], ((rW m Fa B SS HH NR RV) ++ (qW m RD ST)))) rfl trivial ?_
            refine zg_if X 84 rfl rfl (by first | (unfold zin; omega) | (have h9 := hA1.2.1.t11; unfold zin; omega) | (have h8 := hA1.2.1.sg14 (by omega); unfold zin; omega) | (have h9 := hA2.2.1.t11; unfold zin; omega)) (fun g6 => ?_) (fun g6 => ?_)
            · exact absurd (show ¬ (0 : Int) = (0 : Int) from g6) (by decide)
            · simp only [x_ncd] at g6
              refine zg_blk pok2 X 1 [] (S' := (81, [(3, zI 1), (2, zI 0), (1, zI 0), (0, zR (m 0))], [zI 0], ((rW m Fa B SS HH NR RV) ++ (qW m RD ST)))) rfl trivial ?_
              refine zg_if X 126 rfl rfl (by first | (unfold zin; omega) | (have h9 := hA1.2.1.t11; unfold zin; omega) | (have h8 := hA1.2.1.sg14 (by omega); unfold zin; omega) | (have h9 := hA2.2.1.t11; unfold zin; omega)) (fun g7 => ?_) (fun g7 => ?_)
              · simp only [x_cnd] at g7
                refine zg_blk pok2 X 5 [0] (S' := (133, [(3, zI 1), (2, zI 0), (1, zI 0), (0, zR (m 0))], [zI 2, zI 1], ((rW m (zup Fa 48 1) B SS HH NR RV) ++ (qW m RD ST)))) rfl ⟨rfl, rfl, rfl, trivial⟩ ?_
                refine zg_icmp X 145 rfl rfl (by first | (unfold zin; omega) | (have h9 := hA1.2.1.t11; unfold zin; omega) | (have h8 := hA1.2.1.sg14 (by omega); unfold zin; omega) | (have h9 := hA2.2.1.t11; unfold zin; omega)) (by first | (unfold zin; omega) | (have h9 := hA1.2.1.t11; unfold zin; omega) | (have h8 := hA1.2.1.sg14 (by omega); unfold zin; omega) | (have h9 := hA2.2.1.t11; unfold zin; omega)) (fun g8 => ?_) (fun g8 => ?_)
                · exact absurd (show (2 : Int) ≤ (1 : Int) from g8) (by decide)
                · simp only [x_ncd] at g8
                  refine zg_blk pok2 X 4 [] (S' := (140, [(3, zI 1), (2, zI 0), (1, zI 0), (0, zR (m 0))], [zI 0, zI 0, zI 1, zR (m 0)], ((rW m (zup Fa 48 1) B SS HH NR RV) ++ (qW m RD ST)))) rfl trivial ?_
                  refine zg_callV pok2 EWX_ok X 0 (vas := [zI 1, zI 0, zI 0]) (vr := []) (Y1 := ((rW m (zup Fa 48 1) B SS HH NR RV) ++ (qW m RD ST))) (Y2 := []) rfl rfl (Or.inl rfl) zj_X12_code rfl rfl rfl rfl (Nat.le_of_ble_eq_true rfl) rfl (zr_code (F := (zup Fa 48 1)) (show 0 ≤ (Fa 44) ∧ (Fa 44) ≤ 45 by omega)) ⟨by decide, by decide, by decide, by decide⟩ (fun z9 Y9 hz => ?_)
                  obtain ⟨rfl, RDb, rfl⟩ := hz
                  refine zg_cv (S2 := (143, [(3, zI 1), (2, zI 0), (1, zI 0), (0, zR (m 0))], [], ((rW m (zup (zup Fa 44 ((Fa 44) + 1)) 48 1) B SS HH NR RV) ++ (qW m RDb ST)))) rfl ?_
                  refine zg_blk pok2 X 1 [] (S' := (144, [(3, zI 1), (2, zI 0), (1, zI 0), (0, zR (m 0))], [zI 1], ((rW m (zup (zup Fa 44 ((Fa 44) + 1)) 48 1) B SS HH NR RV) ++ (qW m RDb ST)))) rfl trivial ?_
                  refine zg_retb X hR rfl rfl (by decide) (by decide) (by first | exact Or.inl rfl | exact Or.inr rfl) ?_
                  refine ⟨_, _, _, rfl, ?_⟩
                  have e1 : sLeaf K V CN NM j = (0, j + 1) := by
                    unfold sLeaf
                    rw [if_pos (by omega)]
                  refine Or.inl ?_
                  unfold sOp
                  rw [if_neg (by omega), if_neg (by omega), if_neg (by omega), if_neg (by omega)]
                  rw [e1]
                  try dsimp only
                  exact ⟨rfl, rfl, hA1, hj1, ⟨⟨by show (Fa 46) = _; omega, hs, by show (Fa 47) = _; omega, hdp, by show 0 ≤ ((Fa 44) + 1); omega, rfl, by show ((Fa 44) + 1) + (Fa 46) ≤ 40; omega⟩, by show (Fa 45) = _; omega, by omega, by show 1 = _; omega, by show ((Fa 44) + 1) + (Fa 46) + _ ≤ _; omega, by show (Fa 15) = _; omega⟩, by show Fa 3 = F 3; omega, by show Fa 5 = F 5; omega⟩
              · exact absurd (show ¬ (0 : Int) = (0 : Int) from g7) (by decide)
          · simp only [x_ncd] at g5
            refine zg_blk pok2 X 2 [] (S' := (58, [(3, zI 1), (2, zI 0), (1, zI 0), (0, zR (m 0))], [zI 4, zR (m 0)], ((rW m F B SS HH NR RV) ++ (qW m RD ST)))) rfl trivial ?_
            refine zg_callV pok2 EWX_ok X 0 (vas := [zI 4]) (vr := []) (Y1 := (rW m F B SS HH NR RV)) (Y2 := (qW m RD ST)) rfl rfl (Or.inl rfl) zj_X12_bad rfl rfl rfl rfl (Nat.le_of_ble_eq_true rfl) rfl (zr_bad (F := F)) ⟨by decide, by decide, by decide, by decide⟩ (fun z9 Y9 hz => ?_)
            obtain ⟨rfl, rfl⟩ := hz
            refine zg_retb X hR rfl rfl (by decide) (by decide) (by first | exact Or.inl rfl | exact Or.inr rfl) ?_
            refine ⟨_, _, _, rfl, ?_⟩
            refine Or.inr ?_
            unfold sOp
            rw [if_neg (by omega), if_pos (by omega)]
            exact ⟨show ¬ (4 : Int) = 0 by decide, rfl, rfl, hA0.1⟩
      · exact absurd (show (1 : Int) < (0 : Int) from g3) (by decide)
set_option maxHeartbeats 8000000 in
set_option maxRecDepth 4000 in
theorem zr_opT2 (hH : RH B P K S V RV k F) (hA : rAt P K S V F j) (hj : j ≤ k) (hRR : RK SS NR CN NM) (hI : INV CN NM x) (hRZ : ∀ q, zin64 (RV q)) (hQ : RQ F ST st d o 0) (hk : K j = 2 ∧ V j = 23) {r : va_W} {p0 : Program} {e0 : Env} {s0 : State} {m0 : MethodId} {ar0 : Array Value} {be0 : List Frame} {me0 : Method} {c0 : Code} {A0 : Nat → Prop} {Q0 : State → Prop} (X : Cx OW2 (EWX xs) D cy ex mt2_X12_operand (mY mt2_X12_operand).cls p0 (rmR (2, 0, 0, 45)) s0 m0 ar0 me0 c0 A0 (2, 0, 0, 45) 0 0) (hR : ZRet D cy r mt2_X12_operand p0 l e0 (rmR (2, 0, 0, 45)) s0 m0 ar0 be0 me0 c0 A0 Q0 (2, 0, 0, 45) (fun z Y => ∃ F9 RD9 ST9, Y = (rW m F9 B SS HH NR RV ++ qW m RD9 ST9) ∧ oM P K S V F F9 ST9 k z (sOp K V CN NM st d j o))) : ZG D cy r mt2_X12_operand p0 l e0 (rmR (2, 0, 0, 45)) s0 m0 ar0 be0 me0 c0 A0 Q0 0 0 (20, [(3, zI 2), (2, zI 0), (1, zI 0), (0, zR (m 0))], [], ((rW m F B SS HH NR RV) ++ (qW m RD ST))) := by
  have hA0 := hA
  have hH0 := hH
  have hj0 := hj
  obtain ⟨⟨h46, hs, h47, hdp, h44, hT, hT2⟩, h45, ho, h48, hsum, h15⟩ := hQ
  have hdl := dp_le st
  refine zg_blk pok2 X 1 [] (S' := (21, [(3, zI 2), (2, zI 0), (1, zI 0), (0, zR (m 0))], [zI 0], ((rW m F B SS HH NR RV) ++ (qW m RD ST)))) rfl trivial ?_
  refine zg_if X 38 rfl rfl (by first | (unfold zin; omega) | (have h9 := hA1.2.1.t11; unfold zin; omega) | (have h8 := hA1.2.1.sg14 (by omega); unfold zin; omega) | (have h9 := hA2.2.1.t11; unfold zin; omega)) (fun g1 => ?_) (fun g1 => ?_)
  · exact absurd (show ¬ (0 : Int) = (0 : Int) from g1) (by decide)
  · simp only [x_ncd] at g1
    refine zg_blk pok2 X 1 [] (S' := (25, [(3, zI 2), (2, zI 0), (1, zI 0), (0, zR (m 0))], [zI 0], ((rW m F B SS HH NR RV) ++ (qW m RD ST)))) rfl trivial ?_
    refine zg_if X 38 rfl rfl (by first | (unfold zin; omega) | (have h9 := hA1.2.1.t11; unfold zin; omega) | (have h8 := hA1.2.1.sg14 (by omega); unfold zin; omega) | (have h9 := hA2.2.1.t11; unfold zin; omega)) (fun g2 => ?_) (fun g2 => ?_)
    · exact absurd (show ¬ (0 : Int) = (0 : Int) from g2) (by decide)
    · simp only [x_ncd] at g2
      refine zg_blk pok2 X 1 [] (S' := (29, [(3, zI 2), (2, zI 0), (1, zI 0), (0, zR (m 0))], [zI 2], ((rW m F B SS HH NR RV) ++ (qW m RD ST)))) rfl trivial ?_
      refine zg_if X 38 rfl rfl (by first | (unfold zin; omega) | (have h9 := hA1.2.1.t11; unfold zin; omega) | (have h8 := hA1.2.1.sg14 (by omega); unfold zin; omega) | (have h9 := hA2.2.1.t11; unfold zin; omega)) (fun g3 => ?_) (fun g3 => ?_)
      · simp only [x_cnd] at g3
        refine zg_blk pok2 X 3 [0] (S' := (44, [(3, zI 2), (2, zI 0), (1, zI 0), (0, zR (m 0))], [zI 20, zI (F 45)], ((rW m F B SS HH NR RV) ++ (qW m RD ST)))) rfl ⟨rfl, trivial⟩ ?_
        refine zg_icmp X 56 rfl rfl (by first | (unfold zin; omega) | (have h9 := hA1.2.1.t11; unfold zin; omega) | (have h8 := hA1.2.1.sg14 (by omega); unfold zin; omega) | (have h9 := hA2.2.1.t11; unfold zin; omega)) (by first | (unfold zin; omega) | (have h9 := hA1.2.1.t11; unfold zin; omega) | (have h8 := hA1.2.1.sg14 (by omega); unfold zin; omega) | (have h9 := hA2.2.1.t11; unfold zin; omega)) (fun g4 => ?_) (fun g4 => ?_)
        · simp only [x_cnd] at g4
          refine zg_blk pok2 X 2 [] (S' := (58, [(3, zI 2), (2, zI 0), (1, zI 0), (0, zR (m 0))], [zI 4, zR (m 0)], ((rW m F B SS HH NR RV) ++ (qW m RD ST)))) rfl trivial ?_
          refine zg_callV pok2 EWX_ok X 0 (vas := [zI 4]) (vr := []) (Y1 := (rW m F B SS HH NR RV)) (Y2 := (qW m RD ST)) rfl rfl (Or.inl rfl) zj_X12_bad rfl rfl rfl rfl (Nat.le_of_ble_eq_true rfl) rfl (zr_bad (F := F)) ⟨by decide, by decide, by decide, by decide⟩ (fun z9 Y9 hz => ?_)
          obtain ⟨rfl, rfl⟩ := hz
          refine zg_retb X hR rfl rfl (by decide) (by decide) (by first | exact Or.inl rfl | exact Or.inr rfl) ?_
          refine ⟨_, _, _, rfl, ?_⟩
          refine Or.inr ?_
          unfold sOp
          rw [if_neg (by omega), if_pos (by omega)]
          exact ⟨show ¬ (4 : Int) = 0 by decide, rfl, rfl, hA0.1⟩
        · simp only [x_ncd] at g4
          refine zg_blk pok2 X 3 [0] (S' := (53, [(3, zI 2), (2, zI 0), (1, zI 0), (0, zR (m 0))], [zI 8, zI (F 47)], ((rW m F B SS HH NR RV) ++ (qW m RD ST)))) rfl ⟨rfl, trivial⟩ ?_
          refine zg_icmp X 62 rfl rfl (by first | (unfold zin; omega) | (have h9 := hA1.2.1.t11; unfold zin; omega) | (have h8 := hA1.2.1.sg14 (by omega); unfold zin; omega) | (have h9 := hA2.2.1.t11; unfold zin; omega)) (by first | (unfold zin; omega) | (have h9 := hA1.2.1.t11; unfold zin; omega) | (have h8 := hA1.2.1.sg14 (by omega); unfold zin; omega) | (have h9 := hA2.2.1.t11; unfold zin; omega)) (fun g5 => ?_) (fun g5 => ?_)
          · simp only [x_cnd] at g5
            refine zg_blk pok2 X 7 [0, 0] (S' := (73, [(3, zI 2), (2, zI 0), (1, zI 0), (0, zR (m 0))], [zR (m 0)], ((rW m (zup F 45 ((F 45) + 1)) B SS HH NR RV) ++ (qW m RD ST)))) rfl ⟨rfl, rfl, rfl, rfl, trivial⟩ ?_
            have hj1 : j + 1 ≤ k := hH0.len hj0 (by omega) (by omega)
            refine zg_callV pok2 EWX_ok X 0 (vas := []) (vr := []) (Y1 := (rW m (zup F 45 ((F 45) + 1)) B SS HH NR RV)) (Y2 := (qW m RD ST)) rfl rfl (Or.inl rfl) zj_X12_next rfl rfl rfl rfl (Nat.le_of_ble_eq_true rfl) rfl (zr_next (F := (zup F 45 ((F 45) + 1))) hH0.1 hH0.2.1 (by have e4 := hA0.2.2 (by omega) (by omega); have hp := hH0.2.2.2.1.2.2.2.2.2 (j + 1) hj1; show 0 ≤ F 4 ∧ F 4 ≤ F 3; omega) (by have h9 := hH0.2.2.1; show 0 ≤ F 5 ∧ F 5 ≤ 1000; omega)) ⟨by decide, by decide, by decide, by decide⟩ (fun z9 Y9 hz => ?_)
            obtain ⟨rfl, Fa, rfl, hrt, hfrt⟩ := hz
            have hA1 : rAt P K S V Fa (j + 1) := rnext_ok (F := (zup F 45 ((F 45) + 1))) (j := j) hH0 hA0 hj1 (by omega) (by omega) hrt
            have hH1 : RH B P K S V RV k Fa := RH.fr2 hH0 (show Fa 3 = F 3 from hfrt.fr4.1) (show Fa 5 = F 5 from hfrt.fr4.2.1)
            have e3_Fa : Fa 3 = F 3 := hfrt 3 (by decide) (by decide) (by decide) (by decide) (by decide) (by decide)
            have e5_Fa : Fa 5 = F 5 := hfrt 5 (by decide) (by decide) (by decide) (by decide) (by decide) (by decide)
            have e15_Fa : Fa 15 = F 15 := hfrt 15 (by decide) (by decide) (by decide) (by decide) (by decide) (by decide)
            have e44_Fa : Fa 44 = F 44 := hfrt 44 (by decide) (by decide) (by decide) (by decide) (by decide) (by decide)
            have e45_Fa : Fa 45 = (F 45) + 1 := hfrt 45 (by decide) (by decide) (by decide) (by decide) (by decide) (by decide)
            have e46_Fa : Fa 46 = F 46 := hfrt 46 (by decide) (by decide) (by decide) (by decide) (by decide) (by decide)
            have e47_Fa : Fa 47 = F 47 := hfrt 47 (by decide) (by decide) (by decide) (by decide) (by decide) (by decide)
            have e48_Fa : Fa 48 = F 48 := hfrt 48 (by decide) (by decide) (by decide) (by decide) (by decide) (by decide)
            refine zg_blk pok2 X 1 [] (S' := (77, [(3, zI 2), (2, zI 0), (1, zI 0), (0, zR (m 0))], [zI 0], ((rW m Fa B SS HH NR RV) ++ (qW m RD ST)))) rfl trivial ?_
            refine zg_if X 84 rfl rfl (by first | (unfold zin; omega) | (have h9 := hA1.2.1.t11; unfold zin; omega) | (have h8 := hA1.2.1.sg14 (by omega); unfold zin; omega) | (have h9 := hA2.2.1.t11; unfold zin; omega)) (fun g6 => ?_) (fun g6 => ?_)
            · exact absurd (show ¬ (0 : Int) = (0 : Int) from g6) (by decide)
            · simp only [x_ncd] at g6
              refine zg_blk pok2 X 1 [] (S' := (81, [(3, zI 2), (2, zI 0), (1, zI 0), (0, zR (m 0))], [zI 0], ((rW m Fa B SS HH NR RV) ++ (qW m RD ST)))) rfl trivial ?_
              refine zg_if X 126 rfl rfl (by first | (unfold zin; omega) | (have h9 := hA1.2.1.t11; unfold zin; omega) | (have h8 := hA1.2.1.sg14 (by omega); unfold zin; omega) | (have h9 := hA2.2.1.t11; unfold zin; omega)) (fun g7 => ?_) (fun g7 => ?_)
              · simp only [x_cnd] at g7
                refine zg_blk pok2 X 5 [0] (S' := (133, [(3, zI 2), (2, zI 0), (1, zI 0), (0, zR (m 0))], [zI 2, zI 2], ((rW m (zup Fa 48 1) B SS HH NR RV) ++ (qW m RD ST)))) rfl ⟨rfl, rfl, rfl, trivial⟩ ?_
                refine zg_icmp X 145 rfl rfl (by first | (unfold zin; omega) | (have h9 := hA1.2.1.t11; unfold zin; omega) | (have h8 := hA1.2.1.sg14 (by omega); unfold zin; omega) | (have h9 := hA2.2.1.t11; unfold zin; omega)) (by first | (unfold zin; omega) | (have h9 := hA1.2.1.t11; unfold zin; omega) | (have h8 := hA1.2.1.sg14 (by omega); unfold zin; omega) | (have h9 := hA2.2.1.t11; unfold zin; omega)) (fun g8 => ?_) (fun g8 => ?_)
                · simp only [x_cnd] at g8
                  refine zg_blk pok2 X 2 [] (S' := (147, [(3, zI 2), (2, zI 0), (1, zI 0), (0, zR (m 0))], [zI 5, zI 2], ((rW m (zup Fa 48 1) B SS HH NR RV) ++ (qW m RD ST)))) rfl trivial ?_
                  refine zg_icmp X 225 rfl rfl (by first | (unfold zin; omega) | (have h9 := hA1.2.1.t11; unfold zin; omega) | (have h8 := hA1.2.1.sg14 (by omega); unfold zin; omega) | (have h9 := hA2.2.1.t11; unfold zin; omega)) (by first | (unfold zin; omega) | (have h9 := hA1.2.1.t11; unfold zin; omega) | (have h8 := hA1.2.1.sg14 (by omega); unfold zin; omega) | (have h9 := hA2.2.1.t11; unfold zin; omega)) (fun g9 => ?_) (fun g9 => ?_)
                  · exact absurd (show (5 : Int) ≤ (2 : Int) from g9) (by decide)
                  · simp only [x_ncd] at g9
                    refine zg_blk pok2 X 2 [] (S' := (152, [(3, zI 2), (2, zI 0), (1, zI 0), (0, zR (m 0))], [zI 2, zI 2], ((rW m (zup Fa 48 1) B SS HH NR RV) ++ (qW m RD ST)))) rfl trivial ?_
                    refine zg_icmp X 169 rfl rfl (by first | (unfold zin; omega) | (have h9 := hA1.2.1.t11; unfold zin; omega) | (have h8 := hA1.2.1.sg14 (by omega); unfold zin; omega) | (have h9 := hA2.2.1.t11; unfold zin; omega)) (by first | (unfold zin; omega) | (have h9 := hA1.2.1.t11; unfold zin; omega) | (have h8 := hA1.2.1.sg14 (by omega); unfold zin; omega) | (have h9 := hA2.2.1.t11; unfold zin; omega)) (fun g10 => ?_) (fun g10 => ?_)
                    · exact absurd (show ¬ (2 : Int) = (2 : Int) from g10) (by decide)
                    · simp only [x_ncd] at g10
                      refine zg_blk pok2 X 6 [0, 2] (S' := (163, [(3, zI 2), (2, zI 0), (1, zI 0), (0, zR (m 0))], [zI (SS 1), zI 4, zR (m 0)], ((rW m (zup Fa 48 1) B SS HH NR RV) ++ (qW m RD ST)))) rfl ⟨rfl, rfl, rfl, (show zidx 1 269 from by unfold zidx; omega), trivial⟩ ?_
                      rw [show SS 1 = (((CN 1).toNat : Nat) : Int) by have h9 := hRR.1 1 (by omega); have h8 := hI.cn 1 (by omega); omega]
                      refine zg_callV pok2 EWX_ok X 0 (vas := [zI 4, zI (((CN 1).toNat : Nat) : Int)]) (vr := []) (Y1 := (rW m (zup Fa 48 1) B SS HH NR RV)) (Y2 := (qW m RD ST)) rfl rfl (Or.inl rfl) zj_X12_looksAt rfl rfl rfl rfl (Nat.le_of_ble_eq_true rfl) rfl (zr_looksAt0 (sN := 1) (F := (zup Fa 48 1)) (j := (j + 1)) (by omega) hH1 hA1 hj1 hRR hI hRZ) ⟨by decide, by decide, by decide, by decide⟩ (fun z9 Y9 hz => ?_)
                      rcases hz with ⟨ht1, rfl, rfl⟩ | ⟨ht1, rfl, Fb, rfl, hb1, hb2⟩
                      · have hk1 := (td_ne ht1).1
                        refine zg_blk pok2 X 3 [] (S' := (204, [(4, zI 1), (3, zI 2), (2, zI 0), (1, zI 0), (0, zR (m 0))], [zI 1], ((rW m (zup (zup Fa 18 (lkS CN NM 1 (V (j + 1)))) 48 1) B SS HH NR RV) ++ (qW m RD ST)))) rfl trivial ?_
                        refine zg_if X 209 rfl rfl (by first | (unfold zin; omega) | (have h9 := hA1.2.1.t11; unfold zin; omega) | (have h8 := hA1.2.1.sg14 (by omega); unfold zin; omega) | (have h9 := hA2.2.1.t11; unfold zin; omega)) (fun g11 => ?_) (fun g11 => ?_)
                        · simp only [x_cnd] at g11
                          refine zg_blk pok2 X 5 [0] (S' := (216, [(4, zI 1), (3, zI 2), (2, zI 0), (1, zI 0), (0, zR (m 0))], [zI (lkS CN NM 1 (V (j + 1))), zI 0, zI 2, zR (m 0)], ((rW m (zup (zup Fa 18 (lkS CN NM 1 (V (j + 1)))) 48 1) B SS HH NR RV) ++ (qW m RD ST)))) rfl ⟨rfl, trivial⟩ ?_
                          refine zg_callV pok2 EWX_ok X 0 (vas := [zI 2, zI 0, zI (lkS CN NM 1 (V (j + 1)))]) (vr := []) (Y1 := ((rW m (zup (zup Fa 18 (lkS CN NM 1 (V (j + 1)))) 48 1) B SS HH NR RV) ++ (qW m RD ST))) (Y2 := []) rfl rfl (Or.inl rfl) zj_X12_code rfl rfl rfl rfl (Nat.le_of_ble_eq_true rfl) rfl (zr_code (F := (zup (zup Fa 18 (lkS CN NM 1 (V (j + 1)))) 48 1)) (show 0 ≤ (Fa 44) ∧ (Fa 44) ≤ 45 by omega)) ⟨by decide, by decide, by decide, by decide⟩ (fun z9 Y9 hz => ?_)
                          obtain ⟨rfl, RDb, rfl⟩ := hz
                          refine zg_cv (S2 := (219, [(4, zI 1), (3, zI 2), (2, zI 0), (1, zI 0), (0, zR (m 0))], [], ((rW m (zup (zup (zup Fa 18 (lkS CN NM 1 (V (j + 1)))) 44 ((Fa 44) + 1)) 48 1) B SS HH NR RV) ++ (qW m RDb ST)))) rfl ?_
                          refine zg_blk pok2 X 1 [] (S' := (220, [(4, zI 1), (3, zI 2), (2, zI 0), (1, zI 0), (0, zR (m 0))], [zR (m 0)], ((rW m (zup (zup (zup Fa 18 (lkS CN NM 1 (V (j + 1)))) 44 ((Fa 44) + 1)) 48 1) B SS HH NR RV) ++ (qW m RDb ST)))) rfl trivial ?_
                          have hj2 : j + 2 ≤ k := hH1.len hj1 (by omega) (by omega)
                          refine zg_callV pok2 EWX_ok X 0 (vas := []) (vr := []) (Y1 := (rW m (zup (zup (zup Fa 18 (lkS CN NM 1 (V (j + 1)))) 44 ((Fa 44) + 1)) 48 1) B SS HH NR RV)) (Y2 := (qW m RDb ST)) rfl rfl (Or.inl rfl) zj_X12_next rfl rfl rfl rfl (Nat.le_of_ble_eq_true rfl) rfl (zr_next (F := (zup (zup (zup Fa 18 (lkS CN NM 1 (V (j + 1)))) 44 ((Fa 44) + 1)) 48 1)) hH1.1 hH1.2.1 (by have e4 := hA1.2.2 (by omega) (by omega); have hp := hH1.2.2.2.1.2.2.2.2.2 ((j + 1) + 1) hj2; show 0 ≤ Fa 4 ∧ Fa 4 ≤ Fa 3; omega) (by have h9 := hH1.2.2.1; show 0 ≤ Fa 5 ∧ Fa 5 ≤ 1000; omega)) ⟨by decide, by decide, by decide, by decide⟩ (fun z9 Y9 hz => ?_)
                          obtain ⟨rfl, Fc, rfl, hrt, hfrt⟩ := hz
                          have hA2 : rAt P K S V Fc (j + 2) := rnext_ok (F := (zup (zup (zup Fa 18 (lkS CN NM 1 (V (j + 1)))) 44 ((Fa 44) + 1)) 48 1)) (j := (j + 1)) hH1 hA1 hj2 (by omega) (by omega) hrt
                          have hH2 : RH B P K S V RV k Fc := RH.fr2 hH1 (show Fc 3 = Fa 3 from hfrt.fr4.1) (show Fc 5 = Fa 5 from hfrt.fr4.2.1)
                          have e3_Fc : Fc 3 = Fa 3 := hfrt 3 (by decide) (by decide) (by decide) (by decide) (by decide) (by decide)
                          have e5_Fc : Fc 5 = Fa 5 := hfrt 5 (by decide) (by decide) (by decide) (by decide) (by decide) (by decide)
                          have e15_Fc : Fc 15 = Fa 15 := hfrt 15 (by decide) (by decide) (by decide) (by decide) (by decide) (by decide)
                          have e44_Fc : Fc 44 = (Fa 44) + 1 := hfrt 44 (by decide) (by decide) (by decide) (by decide) (by decide) (by decide)
                          have e45_Fc : Fc 45 = Fa 45 := hfrt 45 (by decide) (by decide) (by decide) (by decide) (by decide) (by decide)
                          have e46_Fc : Fc 46 = Fa 46 := hfrt 46 (by decide) (by decide) (by decide) (by decide) (by decide) (by decide)
                          have e47_Fc : Fc 47 = Fa 47 := hfrt 47 (by decide) (by decide) (by decide) (by decide) (by decide) (by decide)
                          have e48_Fc : Fc 48 = 1 := hfrt 48 (by decide) (by decide) (by decide) (by decide) (by decide) (by decide)
                          refine zg_blk pok2 X 1 [] (S' := (224, [(4, zI 1), (3, zI 2), (2, zI 0), (1, zI 0), (0, zR (m 0))], [zI 1], ((rW m Fc B SS HH NR RV) ++ (qW m RDb ST)))) rfl trivial ?_
                          refine zg_retb X hR rfl rfl (by decide) (by decide) (by first | exact Or.inl rfl | exact Or.inr rfl) ?_
                          refine ⟨_, _, _, rfl, ?_⟩
                          have e1 : sLeaf K V CN NM j = (0, j + 2) := by
                            unfold sLeaf
                            rw [if_neg (by omega), if_pos (by omega), if_pos ht1]
                          refine Or.inl ?_
                          unfold sOp
                          rw [if_neg (by omega), if_neg (by omega), if_neg (by omega), if_neg (by omega)]
                          rw [e1]
                          try dsimp only
                          exact ⟨rfl, rfl, hA2, hj2, ⟨⟨by show (Fc 46) = _; omega, hs, by show (Fc 47) = _; omega, hdp, by show 0 ≤ (Fc 44); omega, rfl, by show (Fc 44) + (Fc 46) ≤ 40; omega⟩, by show (Fc 45) = _; omega, by omega, by show (Fc 48) = _; omega, by show (Fc 44) + (Fc 46) + _ ≤ _; omega, by show (Fc 15) = _; omega⟩, by show Fc 3 = F 3; omega, by show Fc 5 = F 5; omega⟩
                        · exact absurd (show (1 : Int) = (0 : Int) from g11) (by decide)
                      · refine zg_blk pok2 X 3 [] (S' := (204, [(4, zI 0), (3, zI 2), (2, zI 0), (1, zI 0), (0, zR (m 0))], [zI 0], ((rW m Fb B SS HH NR RV) ++ (qW m RD ST)))) rfl trivial ?_
                        refine zg_if X 209 rfl rfl (by first | (unfold zin; omega) | (have h9 := hA1.2.1.t11; unfold zin; omega) | (have h8 := hA1.2.1.sg14 (by omega); unfold zin; omega) | (have h9 := hA2.2.1.t11; unfold zin; omega)) (fun g12 => ?_) (fun g12 => ?_)
                        · exact absurd (show ¬ (0 : Int) = (0 : Int) from g12) (by decide)
                        · simp only [x_ncd] at g12
                          refine zg_blk pok2 X 1 [] (S' := (208, [(4, zI 0), (3, zI 2), (2, zI 0), (1, zI 0), (0, zR (m 0))], [zI 0], ((rW m Fb B SS HH NR RV) ++ (qW m RD ST)))) rfl trivial ?_
                          refine zg_retb X hR rfl rfl (by decide) (by decide) (by first | exact Or.inl rfl | exact Or.inr rfl) ?_
                          refine ⟨_, _, _, rfl, ?_⟩
                          have e1 : sLeaf K V CN NM j = (tdF K V CN NM 1 (j + 1), j + 1) := by
                            unfold sLeaf
                            rw [if_neg (by omega), if_pos (by omega), if_neg ht1]
                          refine Or.inr ?_
                          unfold sOp
                          rw [if_neg (by omega), if_neg (by omega), if_neg (by omega), if_neg (by omega)]
                          rw [e1]
                          exact ⟨ht1, rfl, hb1, hb2⟩
                · exact absurd (show (2 : Int) < (2 : Int) from g8) (by decide)
              · exact absurd (show ¬ (0 : Int) = (0 : Int) from g7) (by decide)
          · simp only [x_ncd] at g5
            refine zg_blk pok2 X 2 [] (S' := (58, [(3, zI 2), (2, zI 0), (1, zI 0), (0, zR (m 0))], [zI 4, zR (m 0)], ((rW m F B SS HH NR RV) ++ (qW m RD ST)))) rfl trivial ?_
            refine zg_callV pok2 EWX_ok X 0 (vas := [zI 4]) (vr := []) (Y1 := (rW m F B SS HH NR RV)) (Y2 := (qW m RD ST)) rfl rfl (Or.inl rfl) zj_X12_bad rfl rfl rfl rfl (Nat.le_of_ble_eq_true rfl) rfl (zr_bad (F := F)) ⟨by decide, by decide, by decide, by decide⟩ (fun z9 Y9 hz => ?_)
            obtain ⟨rfl, rfl⟩ := hz
            refine zg_retb X hR rfl rfl (by decide) (by decide) (by first | exact Or.inl rfl | exact Or.inr rfl) ?_
            refine ⟨_, _, _, rfl, ?_⟩
            refine Or.inr ?_
            unfold sOp
            rw [if_neg (by omega), if_pos (by omega)]
            exact ⟨show ¬ (4 : Int) = 0 by decide, rfl, rfl, hA0.1⟩
      · exact absurd (show (2 : Int) < (0 : Int) from g3) (by decide)
set_option maxHeartbeats 8000000 in
set_option maxRecDepth 4000 in
theorem zr_opT3 (hH : RH B P K S V RV k F) (hA : rAt P K S V F j) (hj : j ≤ k) (hRR : RK SS NR CN NM) (hI : INV CN NM x) (hRZ : ∀ q, zin64 (RV q)) (hQ : RQ F ST st d o 0) (hk : K j = 2 ∧ V j = 24) {r : va_W} {p0 : Program} {e0 : Env} {s0 : State} {m0 : MethodId} {ar0 : Array Value} {be0 : List Frame} {me0 : Method} {c0 : Code} {A0 : Nat → Prop} {Q0 : State → Prop} (X : Cx OW2 (EWX xs) D cy ex mt2_X12_operand (mY mt2_X12_operand).cls p0 (rmR (2, 0, 0, 45)) s0 m0 ar0 me0 c0 A0 (2, 0, 0, 45) 0 0) (hR : ZRet D cy r mt2_X12_operand p0 l e0 (rmR (2, 0, 0, 45)) s0 m0 ar0 be0 me0 c0 A0 Q0 (2, 0, 0, 45) (fun z Y => ∃ F9 RD9 ST9, Y = (rW m F9 B SS HH NR RV ++ qW m RD9 ST9) ∧ oM P K S V F F9 ST9 k z (sOp K V CN NM st d j o))) : ZG D cy r mt2_X12_operand p0 l e0 (rmR (2, 0, 0, 45)) s0 m0 ar0 be0 me0 c0 A0 Q0 0 0 (20, [(3, zI 3), (2, zI 0), (1, zI 0), (0, zR (m 0))], [], ((rW m F B SS HH NR RV) ++ (qW m RD ST))) := by
  have hA0 := hA
  have hH0 := hH
  have hj0 := hj
  obtain ⟨⟨h46, hs, h47, hdp, h44, hT, hT2⟩, h45, ho, h48, hsum, h15⟩ := hQ
  have hdl := dp_le st
  refine zg_blk pok2 X 1 [] (S' := (21, [(3, zI 3), (2, zI 0), (1, zI 0), (0, zR (m 0))], [zI 0], ((rW m F B SS HH NR RV) ++ (qW m RD ST)))) rfl trivial ?_
  refine zg_if X 38 rfl rfl (by first | (unfold zin; omega) | (have h9 := hA1.2.1.t11; unfold zin; omega) | (have h8 := hA1.2.1.sg14 (by omega); unfold zin; omega) | (have h9 := hA2.2.1.t11; unfold zin; omega)) (fun g1 => ?_) (fun g1 => ?_)
  · exact absurd (show ¬ (0 : Int) = (0 : Int) from g1) (by decide)
  · simp only [x_ncd] at g1
    refine zg_blk pok2 X 1 [] (S' := (25, [(3, zI 3), (2, zI 0), (1, zI 0), (0, zR (m 0))], [zI 0], ((rW m F B SS HH NR RV) ++ (qW m RD ST)))) rfl trivial ?_
    refine zg_if X 38 rfl rfl (by first | (unfold zin; omega) | (have h9 := hA1.2.1.t11; unfold zin; omega) | (have h8 := hA1.2.1.sg14 (by omega); unfold zin; omega) | (have h9 := hA2.2.1.t11; unfold zin; omega)) (fun g2 => ?_) (fun g2 => ?_)
    · exact absurd (show ¬ (0 : Int) = (0 : Int) from g2) (by decide)
    · simp only [x_ncd] at g2
      refine zg_blk pok2 X 1 [] (S' := (29, [(3, zI 3), (2, zI 0), (1, zI 0), (0, zR (m 0))], [zI 3], ((rW m F B SS HH NR RV) ++ (qW m RD ST)))) rfl trivial ?_
      refine zg_if X 38 rfl rfl (by first | (unfold zin; omega) | (have h9 := hA1.2.1.t11; unfold zin; omega) | (have h8 := hA1.2.1.sg14 (by omega); unfold zin; omega) | (have h9 := hA2.2.1.t11; unfold zin; omega)) (fun g3 => ?_) (fun g3 => ?_)
      · simp only [x_cnd] at g3
        refine zg_blk pok2 X 3 [0] (S' := (44, [(3, zI 3), (2, zI 0), (1, zI 0), (0, zR (m 0))], [zI 20, zI (F 45)], ((rW m F B SS HH NR RV) ++ (qW m RD ST)))) rfl ⟨rfl, trivial⟩ ?_
        refine zg_icmp X 56 rfl rfl (by first | (unfold zin; omega) | (have h9 := hA1.2.1.t11; unfold zin; omega) | (have h8 := hA1.2.1.sg14 (by omega); unfold zin; omega) | (have h9 := hA2.2.1.t11; unfold zin; omega)) (by first | (unfold zin; omega) | (have h9 := hA1.2.1.t11; unfold zin; omega) | (have h8 := hA1.2.1.sg14 (by omega); unfold zin; omega) | (have h9 := hA2.2.1.t11; unfold zin; omega)) (fun g4 => ?_) (fun g4 => ?_)
        · simp only [x_cnd] at g4
          refine zg_blk pok2 X 2 [] (S' := (58, [(3, zI 3), (2, zI 0), (1, zI 0), (0, zR (m 0))], [zI 4, zR (m 0)], ((rW m F B SS HH NR RV) ++ (qW m RD ST)))) rfl trivial ?_
          refine zg_callV pok2 EWX_ok X 0 (vas := [zI 4]) (vr := []) (Y1 := (rW m F B SS HH NR RV)) (Y2 := (qW m RD ST)) rfl rfl (Or.inl rfl) zj_X12_bad rfl rfl rfl rfl (Nat.le_of_ble_eq_true rfl) rfl (zr_bad (F := F)) ⟨by decide, by decide, by decide, by decide⟩ (fun z9 Y9 hz => ?_)
          obtain ⟨rfl, rfl⟩ := hz
          refine zg_retb X hR rfl rfl (by decide) (by decide) (by first | exact Or.inl rfl | exact Or.inr rfl) ?_
          refine ⟨_, _, _, rfl, ?_⟩
          refine Or.inr ?_
          unfold sOp
          rw [if_neg (by omega), if_pos (by omega)]
          exact ⟨show ¬ (4 : Int) = 0 by decide, rfl, rfl, hA0.1⟩
        · simp only [x_ncd] at g4
          refine zg_blk pok2 X 3 [0] (S' := (53, [(3, zI 3), (2, zI 0), (1, zI 0), (0, zR (m 0))], [zI 8, zI (F 47)], ((rW m F B SS HH NR RV) ++ (qW m RD ST)))) rfl ⟨rfl, trivial⟩ ?_
          refine zg_icmp X 62 rfl rfl (by first | (unfold zin; omega) | (have h9 := hA1.2.1.t11; unfold zin; omega) | (have h8 := hA1.2.1.sg14 (by omega); unfold zin; omega) | (have h9 := hA2.2.1.t11; unfold zin; omega)) (by first | (unfold zin; omega) | (have h9 := hA1.2.1.t11; unfold zin; omega) | (have h8 := hA1.2.1.sg14 (by omega); unfold zin; omega) | (have h9 := hA2.2.1.t11; unfold zin; omega)) (fun g5 => ?_) (fun g5 => ?_)
          · simp only [x_cnd] at g5
            refine zg_blk pok2 X 7 [0, 0] (S' := (73, [(3, zI 3), (2, zI 0), (1, zI 0), (0, zR (m 0))], [zR (m 0)], ((rW m (zup F 45 ((F 45) + 1)) B SS HH NR RV) ++ (qW m RD ST)))) rfl ⟨rfl, rfl, rfl, rfl, trivial⟩ ?_
            have hj1 : j + 1 ≤ k := hH0.len hj0 (by omega) (by omega)
            refine zg_callV pok2 EWX_ok X 0 (vas := []) (vr := []) (Y1 := (rW m (zup F 45 ((F 45) + 1)) B SS HH NR RV)) (Y2 := (qW m RD ST)) rfl rfl (Or.inl rfl) zj_X12_next rfl rfl rfl rfl (Nat.le_of_ble_eq_true rfl) rfl (zr_next (F := (zup F 45 ((F 45) + 1))) hH0.1 hH0.2.1 (by have e4 := hA0.2.2 (by omega) (by omega); have hp := hH0.2.2.2.1.2.2.2.2.2 (j + 1) hj1; show 0 ≤ F 4 ∧ F 4 ≤ F 3; omega) (by have h9 := hH0.2.2.1; show 0 ≤ F 5 ∧ F 5 ≤ 1000; omega)) ⟨by decide, by decide, by decide, by decide⟩ (fun z9 Y9 hz => ?_)
            obtain ⟨rfl, Fa, rfl, hrt, hfrt⟩ := hz
            have hA1 : rAt P K S V Fa (j + 1) := rnext_ok (F := (zup F 45 ((F 45) + 1))) (j := j) hH0 hA0 hj1 (by omega) (by omega) hrt
            have hH1 : RH B P K S V RV k Fa := RH.fr2 hH0 (show Fa 3 = F 3 from hfrt.fr4.1) (show Fa 5 = F 5 from hfrt.fr4.2.1)
            have e3_Fa : Fa 3 = F 3 := hfrt 3 (by decide) (by decide) (by decide) (by decide) (by decide) (by decide)
            have e5_Fa : Fa 5 = F 5 := hfrt 5 (by decide) (by decide) (by decide) (by decide) (by decide) (by decide)
            have e15_Fa : Fa 15 = F 15 := hfrt 15 (by decide) (by decide) (by decide) (by decide) (by decide) (by decide)
            have e44_Fa : Fa 44 = F 44 := hfrt 44 (by decide) (by decide) (by decide) (by decide) (by decide) (by decide)
            have e45_Fa : Fa 45 = (F 45) + 1 := hfrt 45 (by decide) (by decide) (by decide) (by decide) (by decide) (by decide)
            have e46_Fa : Fa 46 = F 46 := hfrt 46 (by decide) (by decide) (by decide) (by decide) (by decide) (by decide)
            have e47_Fa : Fa 47 = F 47 := hfrt 47 (by decide) (by decide) (by decide) (by decide) (by decide) (by decide)
            have e48_Fa : Fa 48 = F 48 := hfrt 48 (by decide) (by decide) (by decide) (by decide) (by decide) (by decide)
            refine zg_blk pok2 X 1 [] (S' := (77, [(3, zI 3), (2, zI 0), (1, zI 0), (0, zR (m 0))], [zI 0], ((rW m Fa B SS HH NR RV) ++ (qW m RD ST)))) rfl trivial ?_
            refine zg_if X 84 rfl rfl (by first | (unfold zin; omega) | (have h9 := hA1.2.1.t11; unfold zin; omega) | (have h8 := hA1.2.1.sg14 (by omega); unfold zin; omega) | (have h9 := hA2.2.1.t11; unfold zin; omega)) (fun g6 => ?_) (fun g6 => ?_)
            · exact absurd (show ¬ (0 : Int) = (0 : Int) from g6) (by decide)
            · simp only [x_ncd] at g6
              refine zg_blk pok2 X 1 [] (S' := (81, [(3, zI 3), (2, zI 0), (1, zI 0), (0, zR (m 0))], [zI 0], ((rW m Fa B SS HH NR RV) ++ (qW m RD ST)))) rfl trivial ?_
              refine zg_if X 126 rfl rfl (by first | (unfold zin; omega) | (have h9 := hA1.2.1.t11; unfold zin; omega) | (have h8 := hA1.2.1.sg14 (by omega); unfold zin; omega) | (have h9 := hA2.2.1.t11; unfold zin; omega)) (fun g7 => ?_) (fun g7 => ?_)
              · simp only [x_cnd] at g7
                refine zg_blk pok2 X 5 [0] (S' := (133, [(3, zI 3), (2, zI 0), (1, zI 0), (0, zR (m 0))], [zI 2, zI 3], ((rW m (zup Fa 48 1) B SS HH NR RV) ++ (qW m RD ST)))) rfl ⟨rfl, rfl, rfl, trivial⟩ ?_
                refine zg_icmp X 145 rfl rfl (by first | (unfold zin; omega) | (have h9 := hA1.2.1.t11; unfold zin; omega) | (have h8 := hA1.2.1.sg14 (by omega); unfold zin; omega) | (have h9 := hA2.2.1.t11; unfold zin; omega)) (by first | (unfold zin; omega) | (have h9 := hA1.2.1.t11; unfold zin; omega) | (have h8 := hA1.2.1.sg14 (by omega); unfold zin; omega) | (have h9 := hA2.2.1.t11; unfold zin; omega)) (fun g8 => ?_) (fun g8 => ?_)
                · simp only [x_cnd] at g8
                  refine zg_blk pok2 X 2 [] (S' := (147, [(3, zI 3), (2, zI 0), (1, zI 0), (0, zR (m 0))], [zI 5, zI 3], ((rW m (zup Fa 48 1) B SS HH NR RV) ++ (qW m RD ST)))) rfl trivial ?_
                  refine zg_icmp X 225 rfl rfl (by first | (unfold zin; omega) | (have h9 := hA1.2.1.t11; unfold zin; omega) | (have h8 := hA1.2.1.sg14 (by omega); unfold zin; omega) | (have h9 := hA2.2.1.t11; unfold zin; omega)) (by first | (unfold zin; omega) | (have h9 := hA1.2.1.t11; unfold zin; omega) | (have h8 := hA1.2.1.sg14 (by omega); unfold zin; omega) | (have h9 := hA2.2.1.t11; unfold zin; omega)) (fun g9 => ?_) (fun g9 => ?_)
                  · exact absurd (show (5 : Int) ≤ (3 : Int) from g9) (by decide)
                  · simp only [x_ncd] at g9
                    refine zg_blk pok2 X 2 [] (S' := (152, [(3, zI 3), (2, zI 0), (1, zI 0), (0, zR (m 0))], [zI 2, zI 3], ((rW m (zup Fa 48 1) B SS HH NR RV) ++ (qW m RD ST)))) rfl trivial ?_
                    refine zg_icmp X 169 rfl rfl (by first | (unfold zin; omega) | (have h9 := hA1.2.1.t11; unfold zin; omega) | (have h8 := hA1.2.1.sg14 (by omega); unfold zin; omega) | (have h9 := hA2.2.1.t11; unfold zin; omega)) (by first | (unfold zin; omega) | (have h9 := hA1.2.1.t11; unfold zin; omega) | (have h8 := hA1.2.1.sg14 (by omega); unfold zin; omega) | (have h9 := hA2.2.1.t11; unfold zin; omega)) (fun g10 => ?_) (fun g10 => ?_)
                    · simp only [x_cnd] at g10
                      refine zg_blk pok2 X 2 [] (S' := (171, [(3, zI 3), (2, zI 0), (1, zI 0), (0, zR (m 0))], [zI 3, zI 3], ((rW m (zup Fa 48 1) B SS HH NR RV) ++ (qW m RD ST)))) rfl trivial ?_
                      refine zg_icmp X 188 rfl rfl (by first | (unfold zin; omega) | (have h9 := hA1.2.1.t11; unfold zin; omega) | (have h8 := hA1.2.1.sg14 (by omega); unfold zin; omega) | (have h9 := hA2.2.1.t11; unfold zin; omega)) (by first | (unfold zin; omega) | (have h9 := hA1.2.1.t11; unfold zin; omega) | (have h8 := hA1.2.1.sg14 (by omega); unfold zin; omega) | (have h9 := hA2.2.1.t11; unfold zin; omega)) (fun g11 => ?_) (fun g11 => ?_)
                      · exact absurd (show ¬ (3 : Int) = (3 : Int) from g11) (by decide)
                      · simp only [x_ncd] at g11
                        refine zg_blk pok2 X 6 [0, 2] (S' := (182, [(3, zI 3), (2, zI 0), (1, zI 0), (0, zR (m 0))], [zI (SS 0), zI 0, zR (m 0)], ((rW m (zup Fa 48 1) B SS HH NR RV) ++ (qW m RD ST)))) rfl ⟨rfl, rfl, rfl, (show zidx 0 269 from by unfold zidx; omega), trivial⟩ ?_
                        rw [show SS 0 = (((CN 0).toNat : Nat) : Int) by have h9 := hRR.1 0 (by omega); have h8 := hI.cn 0 (by omega); omega]
                        refine zg_callV pok2 EWX_ok X 0 (vas := [zI 0, zI (((CN 0).toNat : Nat) : Int)]) (vr := []) (Y1 := (rW m (zup Fa 48 1) B SS HH NR RV)) (Y2 := (qW m RD ST)) rfl rfl (Or.inl rfl) zj_X12_looksAt rfl rfl rfl rfl (Nat.le_of_ble_eq_true rfl) rfl (zr_looksAt0 (sN := 0) (F := (zup Fa 48 1)) (j := (j + 1)) (by omega) hH1 hA1 hj1 hRR hI hRZ) ⟨by decide, by decide, by decide, by decide⟩ (fun z9 Y9 hz => ?_)
                        rcases hz with ⟨ht1, rfl, rfl⟩ | ⟨ht1, rfl, Fb, rfl, hb1, hb2⟩
                        · have hk1 := (td_ne ht1).1
                          refine zg_blk pok2 X 3 [] (S' := (204, [(4, zI 1), (3, zI 3), (2, zI 0), (1, zI 0), (0, zR (m 0))], [zI 1], ((rW m (zup (zup Fa 18 (lkS CN NM 0 (V (j + 1)))) 48 1) B SS HH NR RV) ++ (qW m RD ST)))) rfl trivial ?_
                          refine zg_if X 209 rfl rfl (by first | (unfold zin; omega) | (have h9 := hA1.2.1.t11; unfold zin; omega) | (have h8 := hA1.2.1.sg14 (by omega); unfold zin; omega) | (have h9 := hA2.2.1.t11; unfold zin; omega)) (fun g12 => ?_) (fun g12 => ?_)
                          · simp only [x_cnd] at g12
                            refine zg_blk pok2 X 5 [0] (S' := (216, [(4, zI 1), (3, zI 3), (2, zI 0), (1, zI 0), (0, zR (m 0))], [zI (lkS CN NM 0 (V (j + 1))), zI 0, zI 3, zR (m 0)], ((rW m (zup (zup Fa 18 (lkS CN NM 0 (V (j + 1)))) 48 1) B SS HH NR RV) ++ (qW m RD ST)))) rfl ⟨rfl, trivial⟩ ?_
                            refine zg_callV pok2 EWX_ok X 0 (vas := [zI 3, zI 0, zI (lkS CN NM 0 (V (j + 1)))]) (vr := []) (Y1 := ((rW m (zup (zup Fa 18 (lkS CN NM 0 (V (j + 1)))) 48 1) B SS HH NR RV) ++ (qW m RD ST))) (Y2 := []) rfl rfl (Or.inl rfl) zj_X12_code rfl rfl rfl rfl (Nat.le_of_ble_eq_true rfl) rfl (zr_code (F := (zup (zup Fa 18 (lkS CN NM 0 (V (j + 1)))) 48 1)) (show 0 ≤ (Fa 44) ∧ (Fa 44) ≤ 45 by omega)) ⟨by decide, by decide, by decide, by decide⟩ (fun z9 Y9 hz => ?_)
                            obtain ⟨rfl, RDb, rfl⟩ := hz
                            refine zg_cv (S2 := (219, [(4, zI 1), (3, zI 3), (2, zI 0), (1, zI 0), (0, zR (m 0))], [], ((rW m (zup (zup (zup Fa 18 (lkS CN NM 0 (V (j + 1)))) 44 ((Fa 44) + 1)) 48 1) B SS HH NR RV) ++ (qW m RDb ST)))) rfl ?_
                            refine zg_blk pok2 X 1 [] (S' := (220, [(4, zI 1), (3, zI 3), (2, zI 0), (1, zI 0), (0, zR (m 0))], [zR (m 0)], ((rW m (zup (zup (zup Fa 18 (lkS CN NM 0 (V (j + 1)))) 44 ((Fa 44) + 1)) 48 1) B SS HH NR RV) ++ (qW m RDb ST)))) rfl trivial ?_
                            have hj2 : j + 2 ≤ k := hH1.len hj1 (by omega) (by omega)
                            refine zg_callV pok2 EWX_ok X 0 (vas := []) (vr := []) (Y1 := (rW m (zup (zup (zup Fa 18 (lkS CN NM 0 (V (j + 1)))) 44 ((Fa 44) + 1)) 48 1) B SS HH NR RV)) (Y2 := (qW m RDb ST)) rfl rfl (Or.inl rfl) zj_X12_next rfl rfl rfl rfl (Nat.le_of_ble_eq_true rfl) rfl (zr_next (F := (zup (zup (zup Fa 18 (lkS CN NM 0 (V (j + 1)))) 44 ((Fa 44) + 1)) 48 1)) hH1.1 hH1.2.1 (by have e4 := hA1.2.2 (by omega) (by omega); have hp := hH1.2.2.2.1.2.2.2.2.2 ((j + 1) + 1) hj2; show 0 ≤ Fa 4 ∧ Fa 4 ≤ Fa 3; omega) (by have h9 := hH1.2.2.1; show 0 ≤ Fa 5 ∧ Fa 5 ≤ 1000; omega)) ⟨by decide, by decide, by decide, by decide⟩ (fun z9 Y9 hz => ?_)
                            obtain ⟨rfl, Fc, rfl, hrt, hfrt⟩ := hz
                            have hA2 : rAt P K S V Fc (j + 2) := rnext_ok (F := (zup (zup (zup Fa 18 (lkS CN NM 0 (V (j + 1)))) 44 ((Fa 44) + 1)) 48 1)) (j := (j + 1)) hH1 hA1 hj2 (by omega) (by omega) hrt
                            have hH2 : RH B P K S V RV k Fc := RH.fr2 hH1 (show Fc 3 = Fa 3 from hfrt.fr4.1) (show Fc 5 = Fa 5 from hfrt.fr4.2.1)
                            have e3_Fc : Fc 3 = Fa 3 := hfrt 3 (by decide) (by decide) (by decide) (by decide) (by decide) (by decide)
                            have e5_Fc : Fc 5 = Fa 5 := hfrt 5 (by decide) (by decide) (by decide) (by decide) (by decide) (by decide)
                            have e15_Fc : Fc 15 = Fa 15 := hfrt 15 (by decide) (by decide) (by decide) (by decide) (by decide) (by decide)
                            have e44_Fc : Fc 44 = (Fa 44) + 1 := hfrt 44 (by decide) (by decide) (by decide) (by decide) (by decide) (by decide)
                            have e45_Fc : Fc 45 = Fa 45 := hfrt 45 (by decide) (by decide) (by decide) (by decide) (by decide) (by decide)
                            have e46_Fc : Fc 46 = Fa 46 := hfrt 46 (by decide) (by decide) (by decide) (by decide) (by decide) (by decide)
                            have e47_Fc : Fc 47 = Fa 47 := hfrt 47 (by decide) (by decide) (by decide) (by decide) (by decide) (by decide)
                            have e48_Fc : Fc 48 = 1 := hfrt 48 (by decide) (by decide) (by decide) (by decide) (by decide) (by decide)
                            refine zg_blk pok2 X 1 [] (S' := (224, [(4, zI 1), (3, zI 3), (2, zI 0), (1, zI 0), (0, zR (m 0))], [zI 1], ((rW m Fc B SS HH NR RV) ++ (qW m RDb ST)))) rfl trivial ?_
                            refine zg_retb X hR rfl rfl (by decide) (by decide) (by first | exact Or.inl rfl | exact Or.inr rfl) ?_
                            refine ⟨_, _, _, rfl, ?_⟩
                            have e1 : sLeaf K V CN NM j = (0, j + 2) := by
                              unfold sLeaf
                              rw [if_neg (by omega), if_neg (by omega), if_pos (by omega), if_pos ht1]
                            refine Or.inl ?_
                            unfold sOp
                            rw [if_neg (by omega), if_neg (by omega), if_neg (by omega), if_neg (by omega)]
                            rw [e1]
                            try dsimp only
                            exact ⟨rfl, rfl, hA2, hj2, ⟨⟨by show (Fc 46) = _; omega, hs, by show (Fc 47) = _; omega, hdp, by show 0 ≤ (Fc 44); omega, rfl, by show (Fc 44) + (Fc 46) ≤ 40; omega⟩, by show (Fc 45) = _; omega, by omega, by show (Fc 48) = _; omega, by show (Fc 44) + (Fc 46) + _ ≤ _; omega, by show (Fc 15) = _; omega⟩, by show Fc 3 = F 3; omega, by show Fc 5 = F 5; omega⟩
                          · exact absurd (show (1 : Int) = (0 : Int) from g12) (by decide)
                        · refine zg_blk pok2 X 3 [] (S' := (204, [(4, zI 0), (3, zI 3), (2, zI 0), (1, zI 0), (0, zR (m 0))], [zI 0], ((rW m Fb B SS HH NR RV) ++ (qW m RD ST)))) rfl trivial ?_
                          refine zg_if X 209 rfl rfl (by first | (unfold zin; omega) | (have h9 := hA1.2.1.t11; unfold zin; omega) | (have h8 := hA1.2.1.sg14 (by omega); unfold zin; omega) | (have h9 := hA2.2.1.t11; unfold zin; omega)) (fun g13 => ?_) (fun g13 => ?_)
                          · exact absurd (show ¬ (0 : Int) = (0 : Int) from g13) (by decide)
                          · simp only [x_ncd] at g13
                            refine zg_blk pok2 X 1 [] (S' := (208, [(4, zI 0), (3, zI 3), (2, zI 0), (1, zI 0), (0, zR (m 0))], [zI 0], ((rW m Fb B SS HH NR RV) ++ (qW m RD ST)))) rfl trivial ?_
                            refine zg_retb X hR rfl rfl (by decide) (by decide) (by first | exact Or.inl rfl | exact Or.inr rfl) ?_
                            refine ⟨_, _, _, rfl, ?_⟩
                            have e1 : sLeaf K V CN NM j = (tdF K V CN NM 0 (j + 1), j + 1) := by
                              unfold sLeaf
                              rw [if_neg (by omega), if_neg (by omega), if_pos (by omega), if_neg ht1]
                            refine Or.inr ?_
                            unfold sOp
                            rw [if_neg (by omega), if_neg (by omega), if_neg (by omega), if_neg (by omega)]
                            rw [e1]
                            exact ⟨ht1, rfl, hb1, hb2⟩
                    · exact absurd (show (3 : Int) = (2 : Int) from g10) (by decide)
                · exact absurd (show (3 : Int) < (2 : Int) from g8) (by decide)
              · exact absurd (show ¬ (0 : Int) = (0 : Int) from g7) (by decide)
          · simp only [x_ncd] at g5
            refine zg_blk pok2 X 2 [] (S' := (58, [(3, zI 3), (2, zI 0), (1, zI 0), (0, zR (m 0))], [zI 4, zR (m 0)], ((rW m F B SS HH NR RV) ++ (qW m RD ST)))) rfl trivial ?_
            refine zg_callV pok2 EWX_ok X 0 (vas := [zI 4]) (vr := []) (Y1 := (rW m F B SS HH NR RV)) (Y2 := (qW m RD ST)) rfl rfl (Or.inl rfl) zj_X12_bad rfl rfl rfl rfl (Nat.le_of_ble_eq_true rfl) rfl (zr_bad (F := F)) ⟨by decide, by decide, by decide, by decide⟩ (fun z9 Y9 hz => ?_)
            obtain ⟨rfl, rfl⟩ := hz
            refine zg_retb X hR rfl rfl (by decide) (by decide) (by first | exact Or.inl rfl | exact Or.inr rfl) ?_
            refine ⟨_, _, _, rfl, ?_⟩
            refine Or.inr ?_
            unfold sOp
            rw [if_neg (by omega), if_pos (by omega)]
            exact ⟨show ¬ (4 : Int) = 0 by decide, rfl, rfl, hA0.1⟩
      · exact absurd (show (3 : Int) < (0 : Int) from g3) (by decide)
set_option maxHeartbeats 8000000 in
set_option maxRecDepth 4000 in
theorem zr_opT4 (hH : RH B P K S V RV k F) (hA : rAt P K S V F j) (hj : j ≤ k) (hRR : RK SS NR CN NM) (hI : INV CN NM x) (hRZ : ∀ q, zin64 (RV q)) (hQ : RQ F ST st d o 0) (hk : K j = 2 ∧ V j = 25) {r : va_W} {p0 : Program} {e0 : Env} {s0 : State} {m0 : MethodId} {ar0 : Array Value} {be0 : List Frame} {me0 : Method} {c0 : Code} {A0 : Nat → Prop} {Q0 : State → Prop} (X : Cx OW2 (EWX xs) D cy ex mt2_X12_operand (mY mt2_X12_operand).cls p0 (rmR (2, 0, 0, 45)) s0 m0 ar0 me0 c0 A0 (2, 0, 0, 45) 0 0) (hR : ZRet D cy r mt2_X12_operand p0 l e0 (rmR (2, 0, 0, 45)) s0 m0 ar0 be0 me0 c0 A0 Q0 (2, 0, 0, 45) (fun z Y => ∃ F9 RD9 ST9, Y = (rW m F9 B SS HH NR RV ++ qW m RD9 ST9) ∧ oM P K S V F F9 ST9 k z (sOp K V CN NM st d j o))) : ZG D cy r mt2_X12_operand p0 l e0 (rmR (2, 0, 0, 45)) s0 m0 ar0 be0 me0 c0 A0 Q0 0 0 (20, [(3, zI 4), (2, zI 0), (1, zI 0), (0, zR (m 0))], [], ((rW m F B SS HH NR RV) ++ (qW m RD ST))) := by
  have hA0 := hA
  have hH0 := hH
  have hj0 := hj
  obtain ⟨⟨h46, hs, h47, hdp, h44, hT, hT2⟩, h45, ho, h48, hsum, h15⟩ := hQ
  have hdl := dp_le st
  refine zg_blk pok2 X 1 [] (S' := (21, [(3, zI 4), (2, zI 0), (1, zI 0), (0, zR (m 0))], [zI 0], ((rW m F B SS HH NR RV) ++ (qW m RD ST)))) rfl trivial ?_
  refine zg_if X 38 rfl rfl (by first | (unfold zin; omega) | (have h9 := hA1.2.1.t11; unfold zin; omega) | (have h8 := hA1.2.1.sg14 (by omega); unfold zin; omega) | (have h9 := hA2.2.1.t11; unfold zin; omega)) (fun g1 => ?_) (fun g1 => ?_)
  · exact absurd (show ¬ (0 : Int) = (0 : Int) from g1) (by decide)
  · simp only [x_ncd] at g1
    refine zg_blk pok2 X 1 [] (S' := (25, [(3, zI 4), (2, zI 0), (1, zI 0), (0, zR (m 0))], [zI 0], ((rW m F B SS HH NR RV) ++ (qW m RD ST)))) rfl trivial ?_
    refine zg_if X 38 rfl rfl (by first | (unfold zin; omega) | (have h9 := hA1.2.1.t11; unfold zin; omega) | (have h8 := hA1.2.1.sg14 (by omega); unfold zin; omega) | (have h9 := hA2.2.1.t11; unfold zin; omega)) (fun g2 => ?_) (fun g2 => ?_)
    · exact absurd (show ¬ (0 : Int) = (0 : Int) from g2) (by decide)
    · simp only [x_ncd] at g2
      refine zg_blk pok2 X 1 [] (S' := (29, [(3, zI 4), (2, zI 0), (1, zI 0), (0, zR (m 0))], [zI 4], ((rW m F B SS HH NR RV) ++ (qW m RD ST)))) rfl trivial ?_
      refine zg_if X 38 rfl rfl (by first | (unfold zin; omega) | (have h9 := hA1.2.1.t11; unfold zin; omega) | (have h8 := hA1.2.1.sg14 (by omega); unfold zin; omega) | (have h9 := hA2.2.1.t11; unfold zin; omega)) (fun g3 => ?_) (fun g3 => ?_)
      · simp only [x_cnd] at g3
        refine zg_blk pok2 X 3 [0] (S' := (44, [(3, zI 4), (2, zI 0), (1, zI 0), (0, zR (m 0))], [zI 20, zI (F 45)], ((rW m F B SS HH NR RV) ++ (qW m RD ST)))) rfl ⟨rfl, trivial⟩ ?_
        refine zg_icmp X 56 rfl rfl (by first | (unfold zin; omega) | (have h9 := hA1.2.1.t11; unfold zin; omega) | (have h8 := hA1.2.1.sg14 (by omega); unfold zin; omega) | (have h9 := hA2.2.1.t11; unfold zin; omega)) (by first | (unfold zin; omega) | (have h9 := hA1.2.1.t11; unfold zin; omega) | (have h8 := hA1.2.1.sg14 (by omega); unfold zin; omega) | (have h9 := hA2.2.1.t11; unfold zin; omega)) (fun g4 => ?_) (fun g4 => ?_)
        · simp only [x_cnd] at g4
          refine zg_blk pok2 X 2 [] (S' := (58, [(3, zI 4), (2, zI 0), (1, zI 0), (0, zR (m 0))], [zI 4, zR (m 0)], ((rW m F B SS HH NR RV) ++ (qW m RD ST)))) rfl trivial ?_
          refine zg_callV pok2 EWX_ok X 0 (vas := [zI 4]) (vr := []) (Y1 := (rW m F B SS HH NR RV)) (Y2 := (qW m RD ST)) rfl rfl (Or.inl rfl) zj_X12_bad rfl rfl rfl rfl (Nat.le_of_ble_eq_true rfl) rfl (zr_bad (F := F)) ⟨by decide, by decide, by decide, by decide⟩ (fun z9 Y9 hz => ?_)
          obtain ⟨rfl, rfl⟩ := hz
          refine zg_retb X hR rfl rfl (by decide) (by decide) (by first | exact Or.inl rfl | exact Or.inr rfl) ?_
          refine ⟨_, _, _, rfl, ?_⟩
          refine Or.inr ?_
          unfold sOp
          rw [if_neg (by omega), if_pos (by omega)]
          exact ⟨show ¬ (4 : Int) = 0 by decide, rfl, rfl, hA0.1⟩
        · simp only [x_ncd] at g4
          refine zg_blk pok2 X 3 [0] (S' := (53, [(3, zI 4), (2, zI 0), (1, zI 0), (0, zR (m 0))], [zI 8, zI (F 47)], ((rW m F B SS HH NR RV) ++ (qW m RD ST)))) rfl ⟨rfl, trivial⟩ ?_
          refine zg_icmp X 62 rfl rfl (by first | (unfold zin; omega) | (have h9 := hA1.2.1.t11; unfold zin; omega) | (have h8 := hA1.2.1.sg14 (by omega); unfold zin; omega) | (have h9 := hA2.2.1.t11; unfold zin; omega)) (by first | (unfold zin; omega) | (have h9 := hA1.2.1.t11; unfold zin; omega) | (have h8 := hA1.2.1.sg14 (by omega); unfold zin; omega) | (have h9 := hA2.2.1.t11; unfold zin; omega)) (fun g5 => ?_) (fun g5 => ?_)
          · simp only [x_cnd] at g5
            refine zg_blk pok2 X 7 [0, 0] (S' := (73, [(3, zI 4), (2, zI 0), (1, zI 0), (0, zR (m 0))], [zR (m 0)], ((rW m (zup F 45 ((F 45) + 1)) B SS HH NR RV) ++ (qW m RD ST)))) rfl ⟨rfl, rfl, rfl, rfl, trivial⟩ ?_
            have hj1 : j + 1 ≤ k := hH0.len hj0 (by omega) (by omega)
            refine zg_callV pok2 EWX_ok X 0 (vas := []) (vr := []) (Y1 := (rW m (zup F 45 ((F 45) + 1)) B SS HH NR RV)) (Y2 := (qW m RD ST)) rfl rfl (Or.inl rfl) zj_X12_next rfl rfl rfl rfl (Nat.le_of_ble_eq_true rfl) rfl (zr_next (F := (zup F 45 ((F 45) + 1))) hH0.1 hH0.2.1 (by have e4 := hA0.2.2 (by omega) (by omega); have hp := hH0.2.2.2.1.2.2.2.2.2 (j + 1) hj1; show 0 ≤ F 4 ∧ F 4 ≤ F 3; omega) (by have h9 := hH0.2.2.1; show 0 ≤ F 5 ∧ F 5 ≤ 1000; omega)) ⟨by decide, by decide, by decide, by decide⟩ (fun z9 Y9 hz => ?_)
            obtain ⟨rfl, Fa, rfl, hrt, hfrt⟩ := hz
            have hA1 : rAt P K S V Fa (j + 1) := rnext_ok (F := (zup F 45 ((F 45) + 1))) (j := j) hH0 hA0 hj1 (by omega) (by omega) hrt
            have hH1 : RH B P K S V RV k Fa := RH.fr2 hH0 (show Fa 3 = F 3 from hfrt.fr4.1) (show Fa 5 = F 5 from hfrt.fr4.2.1)
            have e3_Fa : Fa 3 = F 3 := hfrt 3 (by decide) (by decide) (by decide) (by decide) (by decide) (by decide)
            have e5_Fa : Fa 5 = F 5 := hfrt 5 (by decide) (by decide) (by decide) (by decide) (by decide) (by decide)
            have e15_Fa : Fa 15 = F 15 := hfrt 15 (by decide) (by decide) (by decide) (by decide) (by decide) (by decide)
            have e44_Fa : Fa 44 = F 44 := hfrt 44 (by decide) (by decide) (by decide) (by decide) (by decide) (by decide)
            have e45_Fa : Fa 45 = (F 45) + 1 := hfrt 45 (by decide) (by decide) (by decide) (by decide) (by decide) (by decide)
            have e46_Fa : Fa 46 = F 46 := hfrt 46 (by decide) (by decide) (by decide) (by decide) (by decide) (by decide)
            have e47_Fa : Fa 47 = F 47 := hfrt 47 (by decide) (by decide) (by decide) (by decide) (by decide) (by decide)
            have e48_Fa : Fa 48 = F 48 := hfrt 48 (by decide) (by decide) (by decide) (by decide) (by decide) (by decide)
            refine zg_blk pok2 X 1 [] (S' := (77, [(3, zI 4), (2, zI 0), (1, zI 0), (0, zR (m 0))], [zI 0], ((rW m Fa B SS HH NR RV) ++ (qW m RD ST)))) rfl trivial ?_
            refine zg_if X 84 rfl rfl (by first | (unfold zin; omega) | (have h9 := hA1.2.1.t11; unfold zin; omega) | (have h8 := hA1.2.1.sg14 (by omega); unfold zin; omega) | (have h9 := hA2.2.1.t11; unfold zin; omega)) (fun g6 => ?_) (fun g6 => ?_)
            · exact absurd (show ¬ (0 : Int) = (0 : Int) from g6) (by decide)
            · simp only [x_ncd] at g6
              refine zg_blk pok2 X 1 [] (S' := (81, [(3, zI 4), (2, zI 0), (1, zI 0), (0, zR (m 0))], [zI 0], ((rW m Fa B SS HH NR RV) ++ (qW m RD ST)))) rfl trivial ?_
              refine zg_if X 126 rfl rfl (by first | (unfold zin; omega) | (have h9 := hA1.2.1.t11; unfold zin; omega) | (have h8 := hA1.2.1.sg14 (by omega); unfold zin; omega) | (have h9 := hA2.2.1.t11; unfold zin; omega)) (fun g7 => ?_) (fun g7 => ?_)
              · simp only [x_cnd] at g7
                refine zg_blk pok2 X 5 [0] (S' := (133, [(3, zI 4), (2, zI 0), (1, zI 0), (0, zR (m 0))], [zI 2, zI 4], ((rW m (zup Fa 48 1) B SS HH NR RV) ++ (qW m RD ST)))) rfl ⟨rfl, rfl, rfl, trivial⟩ ?_
                refine zg_icmp X 145 rfl rfl (by first | (unfold zin; omega) | (have h9 := hA1.2.1.t11; unfold zin; omega) | (have h8 := hA1.2.1.sg14 (by omega); unfold zin; omega) | (have h9 := hA2.2.1.t11; unfold zin; omega)) (by first | (unfold zin; omega) | (have h9 := hA1.2.1.t11; unfold zin; omega) | (have h8 := hA1.2.1.sg14 (by omega); unfold zin; omega) | (have h9 := hA2.2.1.t11; unfold zin; omega)) (fun g8 => ?_) (fun g8 => ?_)
                · simp only [x_cnd] at g8
                  refine zg_blk pok2 X 2 [] (S' := (147, [(3, zI 4), (2, zI 0), (1, zI 0), (0, zR (m 0))], [zI 5, zI 4], ((rW m (zup Fa 48 1) B SS HH NR RV) ++ (qW m RD ST)))) rfl trivial ?_
                  refine zg_icmp X 225 rfl rfl (by first | (unfold zin; omega) | (have h9 := hA1.2.1.t11; unfold zin; omega) | (have h8 := hA1.2.1.sg14 (by omega); unfold zin; omega) | (have h9 := hA2.2.1.t11; unfold zin; omega)) (by first | (unfold zin; omega) | (have h9 := hA1.2.1.t11; unfold zin; omega) | (have h8 := hA1.2.1.sg14 (by omega); unfold zin; omega) | (have h9 := hA2.2.1.t11; unfold zin; omega)) (fun g9 => ?_) (fun g9 => ?_)
                  · exact absurd (show (5 : Int) ≤ (4 : Int) from g9) (by decide)
                  · simp only [x_ncd] at g9
                    refine zg_blk pok2 X 2 [] (S' := (152, [(3, zI 4), (2, zI 0), (1, zI 0), (0, zR (m 0))], [zI 2, zI 4], ((rW m (zup Fa 48 1) B SS HH NR RV) ++ (qW m RD ST)))) rfl trivial ?_
                    refine zg_icmp X 169 rfl rfl (by first | (unfold zin; omega) | (have h9 := hA1.2.1.t11; unfold zin; omega) | (have h8 := hA1.2.1.sg14 (by omega); unfold zin; omega) | (have h9 := hA2.2.1.t11; unfold zin; omega)) (by first | (unfold zin; omega) | (have h9 := hA1.2.1.t11; unfold zin; omega) | (have h8 := hA1.2.1.sg14 (by omega); unfold zin; omega) | (have h9 := hA2.2.1.t11; unfold zin; omega)) (fun g10 => ?_) (fun g10 => ?_)
                    · simp only [x_cnd] at g10
                      refine zg_blk pok2 X 2 [] (S' := (171, [(3, zI 4), (2, zI 0), (1, zI 0), (0, zR (m 0))], [zI 3, zI 4], ((rW m (zup Fa 48 1) B SS HH NR RV) ++ (qW m RD ST)))) rfl trivial ?_
                      refine zg_icmp X 188 rfl rfl (by first | (unfold zin; omega) | (have h9 := hA1.2.1.t11; unfold zin; omega) | (have h8 := hA1.2.1.sg14 (by omega); unfold zin; omega) | (have h9 := hA2.2.1.t11; unfold zin; omega)) (by first | (unfold zin; omega) | (have h9 := hA1.2.1.t11; unfold zin; omega) | (have h8 := hA1.2.1.sg14 (by omega); unfold zin; omega) | (have h9 := hA2.2.1.t11; unfold zin; omega)) (fun g11 => ?_) (fun g11 => ?_)
                      · simp only [x_cnd] at g11
                        refine zg_blk pok2 X 6 [0, 2] (S' := (197, [(3, zI 4), (2, zI 0), (1, zI 0), (0, zR (m 0))], [zI (SS 3), zI 22, zR (m 0)], ((rW m (zup Fa 48 1) B SS HH NR RV) ++ (qW m RD ST)))) rfl ⟨rfl, rfl, rfl, (show zidx 3 269 from by unfold zidx; omega), trivial⟩ ?_
                        rw [show SS 3 = (((CN 3).toNat : Nat) : Int) by have h9 := hRR.1 3 (by omega); have h8 := hI.cn 3 (by omega); omega]
                        refine zg_callV pok2 EWX_ok X 0 (vas := [zI 22, zI (((CN 3).toNat : Nat) : Int)]) (vr := []) (Y1 := (rW m (zup Fa 48 1) B SS HH NR RV)) (Y2 := (qW m RD ST)) rfl rfl (Or.inl rfl) zj_X12_looksAt rfl rfl rfl rfl (Nat.le_of_ble_eq_true rfl) rfl (zr_looksAt0 (sN := 3) (F := (zup Fa 48 1)) (j := (j + 1)) (by omega) hH1 hA1 hj1 hRR hI hRZ) ⟨by decide, by decide, by decide, by decide⟩ (fun z9 Y9 hz => ?_)
                        rcases hz with ⟨ht1, rfl, rfl⟩ | ⟨ht1, rfl, Fb, rfl, hb1, hb2⟩
                        · have hk1 := (td_ne ht1).1
                          refine zg_blk pok2 X 2 [] (S' := (204, [(4, zI 1), (3, zI 4), (2, zI 0), (1, zI 0), (0, zR (m 0))], [zI 1], ((rW m (zup (zup Fa 18 (lkS CN NM 3 (V (j + 1)))) 48 1) B SS HH NR RV) ++ (qW m RD ST)))) rfl trivial ?_
                          refine zg_if X 209 rfl rfl (by first | (unfold zin; omega) | (have h9 := hA1.2.1.t11; unfold zin; omega) | (have h8 := hA1.2.1.sg14 (by omega); unfold zin; omega) | (have h9 := hA2.2.1.t11; unfold zin; omega)) (fun g12 => ?_) (fun g12 => ?_)
                          · simp only [x_cnd] at g12
                            refine zg_blk pok2 X 5 [0] (S' := (216, [(4, zI 1), (3, zI 4), (2, zI 0), (1, zI 0), (0, zR (m 0))], [zI (lkS CN NM 3 (V (j + 1))), zI 0, zI 4, zR (m 0)], ((rW m (zup (zup Fa 18 (lkS CN NM 3 (V (j + 1)))) 48 1) B SS HH NR RV) ++ (qW m RD ST)))) rfl ⟨rfl, trivial⟩ ?_
                            refine zg_callV pok2 EWX_ok X 0 (vas := [zI 4, zI 0, zI (lkS CN NM 3 (V (j + 1)))]) (vr := []) (Y1 := ((rW m (zup (zup Fa 18 (lkS CN NM 3 (V (j + 1)))) 48 1) B SS HH NR RV) ++ (qW m RD ST))) (Y2 := []) rfl rfl (Or.inl rfl) zj_X12_code rfl rfl rfl rfl (Nat.le_of_ble_eq_true rfl) rfl (zr_code (F := (zup (zup Fa 18 (lkS CN NM 3 (V (j + 1)))) 48 1)) (show 0 ≤ (Fa 44) ∧ (Fa 44) ≤ 45 by omega)) ⟨by decide, by decide, by decide, by decide⟩ (fun z9 Y9 hz => ?_)
                            obtain ⟨rfl, RDb, rfl⟩ := hz
                            refine zg_cv (S2 := (219, [(4, zI 1), (3, zI 4), (2, zI 0), (1, zI 0), (0, zR (m 0))], [], ((rW m (zup (zup (zup Fa 18 (lkS CN NM 3 (V (j + 1)))) 44 ((Fa 44) + 1)) 48 1) B SS HH NR RV) ++ (qW m RDb ST)))) rfl ?_
                            refine zg_blk pok2 X 1 [] (S' := (220, [(4, zI 1), (3, zI 4), (2, zI 0), (1, zI 0), (0, zR (m 0))], [zR (m 0)], ((rW m (zup (zup (zup Fa 18 (lkS CN NM 3 (V (j + 1)))) 44 ((Fa 44) + 1)) 48 1) B SS HH NR RV) ++ (qW m RDb ST)))) rfl trivial ?_
                            have hj2 : j + 2 ≤ k := hH1.len hj1 (by omega) (by omega)
                            refine zg_callV pok2 EWX_ok X 0 (vas := []) (vr := []) (Y1 := (rW m (zup (zup (zup Fa 18 (lkS CN NM 3 (V (j + 1)))) 44 ((Fa 44) + 1)) 48 1) B SS HH NR RV)) (Y2 := (qW m RDb ST)) rfl rfl (Or.inl rfl) zj_X12_next rfl rfl rfl rfl (Nat.le_of_ble_eq_true rfl) rfl (zr_next (F := (zup (zup (zup Fa 18 (lkS CN NM 3 (V (j + 1)))) 44 ((Fa 44) + 1)) 48 1)) hH1.1 hH1.2.1 (by have e4 := hA1.2.2 (by omega) (by omega); have hp := hH1.2.2.2.1.2.2.2.2.2 ((j + 1) + 1) hj2; show 0 ≤ Fa 4 ∧ Fa 4 ≤ Fa 3; omega) (by have h9 := hH1.2.2.1; show 0 ≤ Fa 5 ∧ Fa 5 ≤ 1000; omega)) ⟨by decide, by decide, by decide, by decide⟩ (fun z9 Y9 hz => ?_)
                            obtain ⟨rfl, Fc, rfl, hrt, hfrt⟩ := hz
                            have hA2 : rAt P K S V Fc (j + 2) := rnext_ok (F := (zup (zup (zup Fa 18 (lkS CN NM 3 (V (j + 1)))) 44 ((Fa 44) + 1)) 48 1)) (j := (j + 1)) hH1 hA1 hj2 (by omega) (by omega) hrt
                            have hH2 : RH B P K S V RV k Fc := RH.fr2 hH1 (show Fc 3 = Fa 3 from hfrt.fr4.1) (show Fc 5 = Fa 5 from hfrt.fr4.2.1)
                            have e3_Fc : Fc 3 = Fa 3 := hfrt 3 (by decide) (by decide) (by decide) (by decide) (by decide) (by decide)
                            have e5_Fc : Fc 5 = Fa 5 := hfrt 5 (by decide) (by decide) (by decide) (by decide) (by decide) (by decide)
                            have e15_Fc : Fc 15 = Fa 15 := hfrt 15 (by decide) (by decide) (by decide) (by decide) (by decide) (by decide)
                            have e44_Fc : Fc 44 = (Fa 44) + 1 := hfrt 44 (by decide) (by decide) (by decide) (by decide) (by decide) (by decide)
                            have e45_Fc : Fc 45 = Fa 45 := hfrt 45 (by decide) (by decide) (by decide) (by decide) (by decide) (by decide)
                            have e46_Fc : Fc 46 = Fa 46 := hfrt 46 (by decide) (by decide) (by decide) (by decide) (by decide) (by decide)
                            have e47_Fc : Fc 47 = Fa 47 := hfrt 47 (by decide) (by decide) (by decide) (by decide) (by decide) (by decide)
                            have e48_Fc : Fc 48 = 1 := hfrt 48 (by decide) (by decide) (by decide) (by decide) (by decide) (by decide)
                            refine zg_blk pok2 X 1 [] (S' := (224, [(4, zI 1), (3, zI 4), (2, zI 0), (1, zI 0), (0, zR (m 0))], [zI 1], ((rW m Fc B SS HH NR RV) ++ (qW m RDb ST)))) rfl trivial ?_
                            refine zg_retb X hR rfl rfl (by decide) (by decide) (by first | exact Or.inl rfl | exact Or.inr rfl) ?_
                            refine ⟨_, _, _, rfl, ?_⟩
                            have e1 : sLeaf K V CN NM j = (0, j + 2) := by
                              unfold sLeaf
                              rw [if_neg (by omega), if_neg (by omega), if_neg (by omega), if_pos (by omega), if_pos ht1]
                            refine Or.inl ?_
                            unfold sOp
                            rw [if_neg (by omega), if_neg (by omega), if_neg (by omega), if_neg (by omega)]
                            rw [e1]
                            try dsimp only
                            exact ⟨rfl, rfl, hA2, hj2, ⟨⟨by show (Fc 46) = _; omega, hs, by show (Fc 47) = _; omega, hdp, by show 0 ≤ (Fc 44); omega, rfl, by show (Fc 44) + (Fc 46) ≤ 40; omega⟩, by show (Fc 45) = _; omega, by omega, by show (Fc 48) = _; omega, by show (Fc 44) + (Fc 46) + _ ≤ _; omega, by show (Fc 15) = _; omega⟩, by show Fc 3 = F 3; omega, by show Fc 5 = F 5; omega⟩
                          · exact absurd (show (1 : Int) = (0 : Int) from g12) (by decide)
                        · refine zg_blk pok2 X 2 [] (S' := (204, [(4, zI 0), (3, zI 4), (2, zI 0), (1, zI 0), (0, zR (m 0))], [zI 0], ((rW m Fb B SS HH NR RV) ++ (qW m RD ST)))) rfl trivial ?_
                          refine zg_if X 209 rfl rfl (by first | (unfold zin; omega) | (have h9 := hA1.2.1.t11; unfold zin; omega) | (have h8 := hA1.2.1.sg14 (by omega); unfold zin; omega) | (have h9 := hA2.2.1.t11; unfold zin; omega)) (fun g13 => ?_) (fun g13 => ?_)
                          · exact absurd (show ¬ (0 : Int) = (0 : Int) from g13) (by decide)
                          · simp only [x_ncd] at g13
                            refine zg_blk pok2 X 1 [] (S' := (208, [(4, zI 0), (3, zI 4), (2, zI 0), (1, zI 0), (0, zR (m 0))], [zI 0], ((rW m Fb B SS HH NR RV) ++ (qW m RD ST)))) rfl trivial ?_
                            refine zg_retb X hR rfl rfl (by decide) (by decide) (by first | exact Or.inl rfl | exact Or.inr rfl) ?_
                            refine ⟨_, _, _, rfl, ?_⟩
                            have e1 : sLeaf K V CN NM j = (tdF K V CN NM 3 (j + 1), j + 1) := by
                              unfold sLeaf
                              rw [if_neg (by omega), if_neg (by omega), if_neg (by omega), if_pos (by omega), if_neg ht1]
                            refine Or.inr ?_
                            unfold sOp
                            rw [if_neg (by omega), if_neg (by omega), if_neg (by omega), if_neg (by omega)]
                            rw [e1]
                            exact ⟨ht1, rfl, hb1, hb2⟩
                      · exact absurd (show (4 : Int) = (3 : Int) from g11) (by decide)
                    · exact absurd (show (4 : Int) = (2 : Int) from g10) (by decide)
                · exact absurd (show (4 : Int) < (2 : Int) from g8) (by decide)
              · exact absurd (show ¬ (0 : Int) = (0 : Int) from g7) (by decide)
          · simp only [x_ncd] at g5
            refine zg_blk pok2 X 2 [] (S' := (58, [(3, zI 4), (2, zI 0), (1, zI 0), (0, zR (m 0))], [zI 4, zR (m 0)], ((rW m F B SS HH NR RV) ++ (qW m RD ST)))) rfl trivial ?_
            refine zg_callV pok2 EWX_ok X 0 (vas := [zI 4]) (vr := []) (Y1 := (rW m F B SS HH NR RV)) (Y2 := (qW m RD ST)) rfl rfl (Or.inl rfl) zj_X12_bad rfl rfl rfl rfl (Nat.le_of_ble_eq_true rfl) rfl (zr_bad (F := F)) ⟨by decide, by decide, by decide, by decide⟩ (fun z9 Y9 hz => ?_)
            obtain ⟨rfl, rfl⟩ := hz
            refine zg_retb X hR rfl rfl (by decide) (by decide) (by first | exact Or.inl rfl | exact Or.inr rfl) ?_
            refine ⟨_, _, _, rfl, ?_⟩
            refine Or.inr ?_
            unfold sOp
            rw [if_neg (by omega), if_pos (by omega)]
            exact ⟨show ¬ (4 : Int) = 0 by decide, rfl, rfl, hA0.1⟩
      · exact absurd (show (4 : Int) < (0 : Int) from g3) (by decide)
set_option maxHeartbeats 8000000 in
set_option maxRecDepth 4000 in
theorem zr_opT5 (hH : RH B P K S V RV k F) (hA : rAt P K S V F j) (hj : j ≤ k) (hRR : RK SS NR CN NM) (hI : INV CN NM x) (hRZ : ∀ q, zin64 (RV q)) (hQ : RQ F ST st d o 0) (hk : K j = 2 ∧ V j = 26) {r : va_W} {p0 : Program} {e0 : Env} {s0 : State} {m0 : MethodId} {ar0 : Array Value} {be0 : List Frame} {me0 : Method} {c0 : Code} {A0 : Nat → Prop} {Q0 : State → Prop} (X : Cx OW2 (EWX xs) D cy ex mt2_X12_operand (mY mt2_X12_operand).cls p0 (rmR (2, 0, 0, 45)) s0 m0 ar0 me0 c0 A0 (2, 0, 0, 45) 0 0) (hR : ZRet D cy r mt2_X12_operand p0 l e0 (rmR (2, 0, 0, 45)) s0 m0 ar0 be0 me0 c0 A0 Q0 (2, 0, 0, 45) (fun z Y => ∃ F9 RD9 ST9, Y = (rW m F9 B SS HH NR RV ++ qW m RD9 ST9) ∧ oM P K S V F F9 ST9 k z (sOp K V CN NM st d j o))) : ZG D cy r mt2_X12_operand p0 l e0 (rmR (2, 0, 0, 45)) s0 m0 ar0 be0 me0 c0 A0 Q0 0 0 (20, [(3, zI 5), (2, zI 0), (1, zI 0), (0, zR (m 0))], [], ((rW m F B SS HH NR RV) ++ (qW m RD ST))) := by
  have hA0 := hA
  have hH0 := hH
  have hj0 := hj
  obtain ⟨⟨h46, hs, h47, hdp, h44, hT, hT2⟩, h45, ho, h48, hsum, h15⟩ := hQ
  have hdl := dp_le st
  refine zg_blk pok2 X 1 [] (S' := (21, [(3, zI 5), (2, zI 0), (1, zI 0), (0, zR (m 0))], [zI 0], ((rW m F B SS HH NR RV) ++ (qW m RD ST)))) rfl trivial ?_
  refine zg_if X 38 rfl rfl (by first | (unfold zin; omega) | (have h9 := hA1.2.1.t11; unfold zin; omega) | (have h8 := hA1.2.1.sg14 (by omega); unfold zin; omega) | (have h9 := hA2.2.1.t11; unfold zin; omega)) (fun g1 => ?_) (fun g1 => ?_)
  · exact absurd (show ¬ (0 : Int) = (0 : Int) from g1) (by decide)
  · simp only [x_ncd] at g1
    refine zg_blk pok2 X 1 [] (S' := (25, [(3, zI 5), (2, zI 0), (1, zI 0), (0, zR (m 0))], [zI 0], ((rW m F B SS HH NR RV) ++ (qW m RD ST)))) rfl trivial ?_
    refine zg_if X 38 rfl rfl (by first | (unfold zin; omega) | (have h9 := hA1.2.1.t11; unfold zin; omega) | (have h8 := hA1.2.1.sg14 (by omega); unfold zin; omega) | (have h9 := hA2.2.1.t11; unfold zin; omega)) (fun g2 => ?_) (fun g2 => ?_)
    · exact absurd (show ¬ (0 : Int) = (0 : Int) from g2) (by decide)
    · simp only [x_ncd] at g2
      refine zg_blk pok2 X 1 [] (S' := (29, [(3, zI 5), (2, zI 0), (1, zI 0), (0, zR (m 0))], [zI 5], ((rW m F B SS HH NR RV) ++ (qW m RD ST)))) rfl trivial ?_
      refine zg_if X 38 rfl rfl (by first | (unfold zin; omega) | (have h9 := hA1.2.1.t11; unfold zin; omega) | (have h8 := hA1.2.1.sg14 (by omega); unfold zin; omega) | (have h9 := hA2.2.1.t11; unfold zin; omega)) (fun g3 => ?_) (fun g3 => ?_)
      · simp only [x_cnd] at g3
        refine zg_blk pok2 X 3 [0] (S' := (44, [(3, zI 5), (2, zI 0), (1, zI 0), (0, zR (m 0))], [zI 20, zI (F 45)], ((rW m F B SS HH NR RV) ++ (qW m RD ST)))) rfl ⟨rfl, trivial⟩ ?_
        refine zg_icmp X 56 rfl rfl (by first | (unfold zin; omega) | (have h9 := hA1.2.1.t11; unfold zin; omega) | (have h8 := hA1.2.1.sg14 (by omega); unfold zin; omega) | (have h9 := hA2.2.1.t11; unfold zin; omega)) (by first | (unfold zin; omega) | (have h9 := hA1.2.1.t11; unfold zin; omega) | (have h8 := hA1.2.1.sg14 (by omega); unfold zin; omega) | (have h9 := hA2.2.1.t11; unfold zin; omega)) (fun g4 => ?_) (fun g4 => ?_)
        · simp only [x_cnd] at g4
          refine zg_blk pok2 X 2 [] (S' := (58, [(3, zI 5), (2, zI 0), (1, zI 0), (0, zR (m 0))], [zI 4, zR (m 0)], ((rW m F B SS HH NR RV) ++ (qW m RD ST)))) rfl trivial ?_
          refine zg_callV pok2 EWX_ok X 0 (vas := [zI 4]) (vr := []) (Y1 := (rW m F B SS HH NR RV)) (Y2 := (qW m RD ST)) rfl rfl (Or.inl rfl) zj_X12_bad rfl rfl rfl rfl (Nat.le_of_ble_eq_true rfl) rfl (zr_bad (F := F)) ⟨by decide, by decide, by decide, by decide⟩ (fun z9 Y9 hz => ?_)
          obtain ⟨rfl, rfl⟩ := hz
          refine zg_retb X hR rfl rfl (by decide) (by decide) (by first | exact Or.inl rfl | exact Or.inr rfl) ?_
          refine ⟨_, _, _, rfl, ?_⟩
          refine Or.inr ?_
          unfold sOp
          rw [if_neg (by omega), if_pos (by omega)]
          exact ⟨show ¬ (4 : Int) = 0 by decide, rfl, rfl, hA0.1⟩
        · simp only [x_ncd] at g4
          refine zg_blk pok2 X 3 [0] (S' := (53, [(3, zI 5), (2, zI 0), (1, zI 0), (0, zR (m 0))], [zI 8, zI (F 47)], ((rW m F B SS HH NR RV) ++ (qW m RD ST)))) rfl ⟨rfl, trivial⟩ ?_
          refine zg_icmp X 62 rfl rfl (by first | (unfold zin; omega) | (have h9 := hA1.2.1.t11; unfold zin; omega) | (have h8 := hA1.2.1.sg14 (by omega); unfold zin; omega) | (have h9 := hA2.2.1.t11; unfold zin; omega)) (by first | (unfold zin; omega) | (have h9 := hA1.2.1.t11; unfold zin; omega) | (have h8 := hA1.2.1.sg14 (by omega); unfold zin; omega) | (have h9 := hA2.2.1.t11; unfold zin; omega)) (fun g5 => ?_) (fun g5 => ?_)
          · simp only [x_cnd] at g5
            refine zg_blk pok2 X 7 [0, 0] (S' := (73, [(3, zI 5), (2, zI 0), (1, zI 0), (0, zR (m 0))], [zR (m 0)], ((rW m (zup F 45 ((F 45) + 1)) B SS HH NR RV) ++ (qW m RD ST)))) rfl ⟨rfl, rfl, rfl, rfl, trivial⟩ ?_
            have hj1 : j + 1 ≤ k := hH0.len hj0 (by omega) (by omega)
            refine zg_callV pok2 EWX_ok X 0 (vas := []) (vr := []) (Y1 := (rW m (zup F 45 ((F 45) + 1)) B SS HH NR RV)) (Y2 := (qW m RD ST)) rfl rfl (Or.inl rfl) zj_X12_next rfl rfl rfl rfl (Nat.le_of_ble_eq_true rfl) rfl (zr_next (F := (zup F 45 ((F 45) + 1))) hH0.1 hH0.2.1 (by have e4 := hA0.2.2 (by omega) (by omega); have hp := hH0.2.2.2.1.2.2.2.2.2 (j + 1) hj1; show 0 ≤ F 4 ∧ F 4 ≤ F 3; omega) (by have h9 := hH0.2.2.1; show 0 ≤ F 5 ∧ F 5 ≤ 1000; omega)) ⟨by decide, by decide, by decide, by decide⟩ (fun z9 Y9 hz => ?_)
            obtain ⟨rfl, Fa, rfl, hrt, hfrt⟩ := hz
            have hA1 : rAt P K S V Fa (j + 1) := rnext_ok (F := (zup F 45 ((F 45) + 1))) (j := j) hH0 hA0 hj1 (by omega) (by omega) hrt
            have hH1 : RH B P K S V RV k Fa := RH.fr2 hH0 (show Fa 3 = F 3 from hfrt.fr4.1) (show Fa 5 = F 5 from hfrt.fr4.2.1)
            have e3_Fa : Fa 3 = F 3 := hfrt 3 (by decide) (by decide) (by decide) (by decide) (by decide) (by decide)
            have e5_Fa : Fa 5 = F 5 := hfrt 5 (by decide) (by decide) (by decide) (by decide) (by decide) (by decide)
            have e15_Fa : Fa 15 = F 15 := hfrt 15 (by decide) (by decide) (by decide) (by decide) (by decide) (by decide)
            have e44_Fa : Fa 44 = F 44 := hfrt 44 (by decide) (by decide) (by decide) (by decide) (by decide) (by decide)
            have e45_Fa : Fa 45 = (F 45) + 1 := hfrt 45 (by decide) (by decide) (by decide) (by decide) (by decide) (by decide)
            have e46_Fa : Fa 46 = F 46 := hfrt 46 (by decide) (by decide) (by decide) (by decide) (by decide) (by decide)
            have e47_Fa : Fa 47 = F 47 := hfrt 47 (by decide) (by decide) (by decide) (by decide) (by decide) (by decide)
            have e48_Fa : Fa 48 = F 48 := hfrt 48 (by decide) (by decide) (by decide) (by decide) (by decide) (by decide)
            refine zg_blk pok2 X 1 [] (S' := (77, [(3, zI 5), (2, zI 0), (1, zI 0), (0, zR (m 0))], [zI 0], ((rW m Fa B SS HH NR RV) ++ (qW m RD ST)))) rfl trivial ?_
            refine zg_if X 84 rfl rfl (by first | (unfold zin; omega) | (have h9 := hA1.2.1.t11; unfold zin; omega) | (have h8 := hA1.2.1.sg14 (by omega); unfold zin; omega) | (have h9 := hA2.2.1.t11; unfold zin; omega)) (fun g6 => ?_) (fun g6 => ?_)
            · exact absurd (show ¬ (0 : Int) = (0 : Int) from g6) (by decide)
            · simp only [x_ncd] at g6
              refine zg_blk pok2 X 1 [] (S' := (81, [(3, zI 5), (2, zI 0), (1, zI 0), (0, zR (m 0))], [zI 0], ((rW m Fa B SS HH NR RV) ++ (qW m RD ST)))) rfl trivial ?_
              refine zg_if X 126 rfl rfl (by first | (unfold zin; omega) | (have h9 := hA1.2.1.t11; unfold zin; omega) | (have h8 := hA1.2.1.sg14 (by omega); unfold zin; omega) | (have h9 := hA2.2.1.t11; unfold zin; omega)) (fun g7 => ?_) (fun g7 => ?_)
              · simp only [x_cnd] at g7
                refine zg_blk pok2 X 5 [0] (S' := (133, [(3, zI 5), (2, zI 0), (1, zI 0), (0, zR (m 0))], [zI 2, zI 5], ((rW m (zup Fa 48 1) B SS HH NR RV) ++ (qW m RD ST)))) rfl ⟨rfl, rfl, rfl, trivial⟩ ?_
                refine zg_icmp X 145 rfl rfl (by first | (unfold zin; omega) | (have h9 := hA1.2.1.t11; unfold zin; omega) | (have h8 := hA1.2.1.sg14 (by omega); unfold zin; omega) | (have h9 := hA2.2.1.t11; unfold zin; omega)) (by first | (unfold zin; omega) | (have h9 := hA1.2.1.t11; unfold zin; omega) | (have h8 := hA1.2.1.sg14 (by omega); unfold zin; omega) | (have h9 := hA2.2.1.t11; unfold zin; omega)) (fun g8 => ?_) (fun g8 => ?_)
                · simp only [x_cnd] at g8
                  refine zg_blk pok2 X 2 [] (S' := (147, [(3, zI 5), (2, zI 0), (1, zI 0), (0, zR (m 0))], [zI 5, zI 5], ((rW m (zup Fa 48 1) B SS HH NR RV) ++ (qW m RD ST)))) rfl trivial ?_
                  refine zg_icmp X 225 rfl rfl (by first | (unfold zin; omega) | (have h9 := hA1.2.1.t11; unfold zin; omega) | (have h8 := hA1.2.1.sg14 (by omega); unfold zin; omega) | (have h9 := hA2.2.1.t11; unfold zin; omega)) (by first | (unfold zin; omega) | (have h9 := hA1.2.1.t11; unfold zin; omega) | (have h8 := hA1.2.1.sg14 (by omega); unfold zin; omega) | (have h9 := hA2.2.1.t11; unfold zin; omega)) (fun g9 => ?_) (fun g9 => ?_)
                  · simp only [x_cnd] at g9
                    refine zg_blk pok2 X 3 [0] (S' := (230, [(3, zI 5), (2, zI 0), (1, zI 0), (0, zR (m 0))], [zI 3, zI (Fa 11)], ((rW m (zup Fa 48 1) B SS HH NR RV) ++ (qW m RD ST)))) rfl ⟨rfl, trivial⟩ ?_
                    refine zg_icmp X 251 rfl rfl (by first | (unfold zin; omega) | (have h9 := hA1.2.1.t11; unfold zin; omega) | (have h8 := hA1.2.1.sg14 (by omega); unfold zin; omega) | (have h9 := hA2.2.1.t11; unfold zin; omega)) (by first | (unfold zin; omega) | (have h9 := hA1.2.1.t11; unfold zin; omega) | (have h8 := hA1.2.1.sg14 (by omega); unfold zin; omega) | (have h9 := hA2.2.1.t11; unfold zin; omega)) (fun g10 => ?_) (fun g10 => ?_)
                    · simp only [x_cnd] at g10
                      refine zg_blk pok2 X 2 [] (S' := (253, [(3, zI 5), (2, zI 0), (1, zI 0), (0, zR (m 0))], [zI 1, zR (m 0)], ((rW m (zup Fa 48 1) B SS HH NR RV) ++ (qW m RD ST)))) rfl trivial ?_
                      refine zg_callV pok2 EWX_ok X 0 (vas := [zI 1]) (vr := []) (Y1 := (rW m (zup Fa 48 1) B SS HH NR RV)) (Y2 := (qW m RD ST)) rfl rfl (Or.inl rfl) zj_X12_bad rfl rfl rfl rfl (Nat.le_of_ble_eq_true rfl) rfl (zr_bad (F := (zup Fa 48 1))) ⟨by decide, by decide, by decide, by decide⟩ (fun z9 Y9 hz => ?_)
                      obtain ⟨rfl, rfl⟩ := hz
                      refine zg_retb X hR rfl rfl (by decide) (by decide) (by first | exact Or.inl rfl | exact Or.inr rfl) ?_
                      refine ⟨_, _, _, rfl, ?_⟩
                      have hnc : ¬ (K (j + 1) = 60 ∨ K (j + 1) = 61 ∨ K (j + 1) = 62) := fun h => by have h9 := hA1.2.1.cmp.mpr h; omega
                      have e1 : sLeaf K V CN NM j = (1, j + 1) := by
                        unfold sLeaf
                        rw [if_neg (by omega), if_neg (by omega), if_neg (by omega), if_neg (by omega), if_neg hnc]
                      refine Or.inr ?_
                      unfold sOp
                      rw [if_neg (by omega), if_neg (by omega), if_neg (by omega), if_neg (by omega)]
                      rw [e1]
                      exact ⟨show ¬ (1 : Int) = 0 by decide, rfl, rfl, hA1.1⟩
                    · simp only [x_ncd] at g10
                      refine zg_blk pok2 X 3 [0] (S' := (239, [(3, zI 5), (2, zI 0), (1, zI 0), (0, zR (m 0))], [zI 60, zI (Fa 14)], ((rW m (zup Fa 48 1) B SS HH NR RV) ++ (qW m RD ST)))) rfl ⟨rfl, trivial⟩ ?_
                      refine zg_icmp X 251 rfl rfl (by first | (unfold zin; omega) | (have h9 := hA1.2.1.t11; unfold zin; omega) | (have h8 := hA1.2.1.sg14 (by omega); unfold zin; omega) | (have h9 := hA2.2.1.t11; unfold zin; omega)) (by first | (unfold zin; omega) | (have h9 := hA1.2.1.t11; unfold zin; omega) | (have h8 := hA1.2.1.sg14 (by omega); unfold zin; omega) | (have h9 := hA2.2.1.t11; unfold zin; omega)) (fun g11 => ?_) (fun g11 => ?_)
                      · simp only [x_cnd] at g11
                        refine zg_blk pok2 X 2 [] (S' := (253, [(3, zI 5), (2, zI 0), (1, zI 0), (0, zR (m 0))], [zI 1, zR (m 0)], ((rW m (zup Fa 48 1) B SS HH NR RV) ++ (qW m RD ST)))) rfl trivial ?_
                        refine zg_callV pok2 EWX_ok X 0 (vas := [zI 1]) (vr := []) (Y1 := (rW m (zup Fa 48 1) B SS HH NR RV)) (Y2 := (qW m RD ST)) rfl rfl (Or.inl rfl) zj_X12_bad rfl rfl rfl rfl (Nat.le_of_ble_eq_true rfl) rfl (zr_bad (F := (zup Fa 48 1))) ⟨by decide, by decide, by decide, by decide⟩ (fun z9 Y9 hz => ?_)
                        obtain ⟨rfl, rfl⟩ := hz
                        refine zg_retb X hR rfl rfl (by decide) (by decide) (by first | exact Or.inl rfl | exact Or.inr rfl) ?_
                        refine ⟨_, _, _, rfl, ?_⟩
                        have hnc : ¬ (K (j + 1) = 60 ∨ K (j + 1) = 61 ∨ K (j + 1) = 62) := fun h => by have h9 := hA1.2.1.cmp.mpr h; omega
                        have e1 : sLeaf K V CN NM j = (1, j + 1) := by
                          unfold sLeaf
                          rw [if_neg (by omega), if_neg (by omega), if_neg (by omega), if_neg (by omega), if_neg hnc]
                        refine Or.inr ?_
                        unfold sOp
                        rw [if_neg (by omega), if_neg (by omega), if_neg (by omega), if_neg (by omega)]
                        rw [e1]
                        exact ⟨show ¬ (1 : Int) = 0 by decide, rfl, rfl, hA1.1⟩
                      · simp only [x_ncd] at g11
                        refine zg_blk pok2 X 3 [0] (S' := (248, [(3, zI 5), (2, zI 0), (1, zI 0), (0, zR (m 0))], [zI 62, zI (Fa 14)], ((rW m (zup Fa 48 1) B SS HH NR RV) ++ (qW m RD ST)))) rfl ⟨rfl, trivial⟩ ?_
                        refine zg_icmp X 257 rfl rfl (by first | (unfold zin; omega) | (have h9 := hA1.2.1.t11; unfold zin; omega) | (have h8 := hA1.2.1.sg14 (by omega); unfold zin; omega) | (have h9 := hA2.2.1.t11; unfold zin; omega)) (by first | (unfold zin; omega) | (have h9 := hA1.2.1.t11; unfold zin; omega) | (have h8 := hA1.2.1.sg14 (by omega); unfold zin; omega) | (have h9 := hA2.2.1.t11; unfold zin; omega)) (fun g12 => ?_) (fun g12 => ?_)
                        · simp only [x_cnd] at g12
                          have hyc := hA1.2.1.cmp.mp ⟨by omega, by omega, by omega⟩
                          refine zg_blk pok2 X 4 [0] (S' := (264, [(4, zI (Fa 14)), (3, zI 5), (2, zI 0), (1, zI 0), (0, zR (m 0))], [zR (m 0)], ((rW m (zup Fa 48 1) B SS HH NR RV) ++ (qW m RD ST)))) rfl ⟨rfl, trivial⟩ ?_
                          have hj2 : j + 2 ≤ k := hH1.len hj1 (by omega) (by omega)
                          refine zg_callV pok2 EWX_ok X 0 (vas := []) (vr := []) (Y1 := (rW m (zup Fa 48 1) B SS HH NR RV)) (Y2 := (qW m RD ST)) rfl rfl (Or.inl rfl) zj_X12_next rfl rfl rfl rfl (Nat.le_of_ble_eq_true rfl) rfl (zr_next (F := (zup Fa 48 1)) hH1.1 hH1.2.1 (by have e4 := hA1.2.2 (by omega) (by omega); have hp := hH1.2.2.2.1.2.2.2.2.2 ((j + 1) + 1) hj2; show 0 ≤ Fa 4 ∧ Fa 4 ≤ Fa 3; omega) (by have h9 := hH1.2.2.1; show 0 ≤ Fa 5 ∧ Fa 5 ≤ 1000; omega)) ⟨by decide, by decide, by decide, by decide⟩ (fun z9 Y9 hz => ?_)
                          obtain ⟨rfl, Fb, rfl, hrt, hfrt⟩ := hz
                          have hA2 : rAt P K S V Fb (j + 2) := rnext_ok (F := (zup Fa 48 1)) (j := (j + 1)) hH1 hA1 hj2 (by omega) (by omega) hrt
                          have hH2 : RH B P K S V RV k Fb := RH.fr2 hH1 (show Fb 3 = Fa 3 from hfrt.fr4.1) (show Fb 5 = Fa 5 from hfrt.fr4.2.1)
                          have e3_Fb : Fb 3 = Fa 3 := hfrt 3 (by decide) (by decide) (by decide) (by decide) (by decide) (by decide)
                          have e5_Fb : Fb 5 = Fa 5 := hfrt 5 (by decide) (by decide) (by decide) (by decide) (by decide) (by decide)
                          have e15_Fb : Fb 15 = Fa 15 := hfrt 15 (by decide) (by decide) (by decide) (by decide) (by decide) (by decide)
                          have e44_Fb : Fb 44 = Fa 44 := hfrt 44 (by decide) (by decide) (by decide) (by decide) (by decide) (by decide)
                          have e45_Fb : Fb 45 = Fa 45 := hfrt 45 (by decide) (by decide) (by decide) (by decide) (by decide) (by decide)
                          have e46_Fb : Fb 46 = Fa 46 := hfrt 46 (by decide) (by decide) (by decide) (by decide) (by decide) (by decide)
                          have e47_Fb : Fb 47 = Fa 47 := hfrt 47 (by decide) (by decide) (by decide) (by decide) (by decide) (by decide)
                          have e48_Fb : Fb 48 = 1 := hfrt 48 (by decide) (by decide) (by decide) (by decide) (by decide) (by decide)
                          refine zg_blk pok2 X 3 [0] (S' := (272, [(4, zI (Fa 14)), (3, zI 5), (2, zI 0), (1, zI 0), (0, zR (m 0))], [zI 2, zI (Fb 11)], ((rW m Fb B SS HH NR RV) ++ (qW m RD ST)))) rfl ⟨rfl, trivial⟩ ?_
                          refine zg_icmp X 281 rfl rfl (by first | (unfold zin; omega) | (have h9 := hA1.2.1.t11; unfold zin; omega) | (have h8 := hA1.2.1.sg14 (by omega); unfold zin; omega) | (have h9 := hA2.2.1.t11; unfold zin; omega)) (by first | (unfold zin; omega) | (have h9 := hA1.2.1.t11; unfold zin; omega) | (have h8 := hA1.2.1.sg14 (by omega); unfold zin; omega) | (have h9 := hA2.2.1.t11; unfold zin; omega)) (fun g13 => ?_) (fun g13 => ?_)
                          · simp only [x_cnd] at g13
                            have hy3 : K (j + 2) = 3 := hA2.2.1.num.1.mp (by omega)
                            have hv3 := hA2.2.1.num.2 hy3
                            refine zg_blk pok2 X 5 [0] (S' := (289, [(4, zI (Fa 14)), (3, zI 5), (2, zI 0), (1, zI 0), (0, zR (m 0))], [zI (Fb 14), zI (Fa 14), zI 5, zR (m 0)], ((rW m Fb B SS HH NR RV) ++ (qW m RD ST)))) rfl ⟨rfl, trivial⟩ ?_
                            refine zg_callV pok2 EWX_ok X 0 (vas := [zI 5, zI (Fa 14), zI (Fb 14)]) (vr := []) (Y1 := ((rW m Fb B SS HH NR RV) ++ (qW m RD ST))) (Y2 := []) rfl rfl (Or.inl rfl) zj_X12_code rfl rfl rfl rfl (Nat.le_of_ble_eq_true rfl) rfl (zr_code (F := Fb) (show 0 ≤ (Fb 44) ∧ (Fb 44) ≤ 45 by omega)) ⟨by decide, by decide, by decide, by decide⟩ (fun z9 Y9 hz => ?_)
                            obtain ⟨rfl, RDb, rfl⟩ := hz
                            refine zg_cv (S2 := (292, [(4, zI (Fa 14)), (3, zI 5), (2, zI 0), (1, zI 0), (0, zR (m 0))], [], ((rW m (zup Fb 44 ((Fb 44) + 1)) B SS HH NR RV) ++ (qW m RDb ST)))) rfl ?_
                            refine zg_blk pok2 X 1 [] (S' := (293, [(4, zI (Fa 14)), (3, zI 5), (2, zI 0), (1, zI 0), (0, zR (m 0))], [zR (m 0)], ((rW m (zup Fb 44 ((Fb 44) + 1)) B SS HH NR RV) ++ (qW m RDb ST)))) rfl trivial ?_
                            have hj3 : j + 3 ≤ k := hH2.len hj2 (by omega) (by omega)
                            refine zg_callV pok2 EWX_ok X 0 (vas := []) (vr := []) (Y1 := (rW m (zup Fb 44 ((Fb 44) + 1)) B SS HH NR RV)) (Y2 := (qW m RDb ST)) rfl rfl (Or.inl rfl) zj_X12_next rfl rfl rfl rfl (Nat.le_of_ble_eq_true rfl) rfl (zr_next (F := (zup Fb 44 ((Fb 44) + 1))) hH2.1 hH2.2.1 (by have e4 := hA2.2.2 (by omega) (by omega); have hp := hH2.2.2.2.1.2.2.2.2.2 ((j + 2) + 1) hj3; show 0 ≤ Fb 4 ∧ Fb 4 ≤ Fb 3; omega) (by have h9 := hH2.2.2.1; show 0 ≤ Fb 5 ∧ Fb 5 ≤ 1000; omega)) ⟨by decide, by decide, by decide, by decide⟩ (fun z9 Y9 hz => ?_)
                            obtain ⟨rfl, Fc, rfl, hrt, hfrt⟩ := hz
                            have hA3 : rAt P K S V Fc (j + 3) := rnext_ok (F := (zup Fb 44 ((Fb 44) + 1))) (j := (j + 2)) hH2 hA2 hj3 (by omega) (by omega) hrt
                            have hH3 : RH B P K S V RV k Fc := RH.fr2 hH2 (show Fc 3 = Fb 3 from hfrt.fr4.1) (show Fc 5 = Fb 5 from hfrt.fr4.2.1)
                            have e3_Fc : Fc 3 = Fb 3 := hfrt 3 (by decide) (by decide) (by decide) (by decide) (by decide) (by decide)
                            have e5_Fc : Fc 5 = Fb 5 := hfrt 5 (by decide) (by decide) (by decide) (by decide) (by decide) (by decide)
                            have e15_Fc : Fc 15 = Fb 15 := hfrt 15 (by decide) (by decide) (by decide) (by decide) (by decide) (by decide)
                            have e44_Fc : Fc 44 = (Fb 44) + 1 := hfrt 44 (by decide) (by decide) (by decide) (by decide) (by decide) (by decide)
                            have e45_Fc : Fc 45 = Fb 45 := hfrt 45 (by decide) (by decide) (by decide) (by decide) (by decide) (by decide)
                            have e46_Fc : Fc 46 = Fb 46 := hfrt 46 (by decide) (by decide) (by decide) (by decide) (by decide) (by decide)
                            have e47_Fc : Fc 47 = Fb 47 := hfrt 47 (by decide) (by decide) (by decide) (by decide) (by decide) (by decide)
                            have e48_Fc : Fc 48 = Fb 48 := hfrt 48 (by decide) (by decide) (by decide) (by decide) (by decide) (by decide)
                            refine zg_blk pok2 X 1 [] (S' := (297, [(4, zI (Fa 14)), (3, zI 5), (2, zI 0), (1, zI 0), (0, zR (m 0))], [zI 1], ((rW m Fc B SS HH NR RV) ++ (qW m RDb ST)))) rfl trivial ?_
                            refine zg_retb X hR rfl rfl (by decide) (by decide) (by first | exact Or.inl rfl | exact Or.inr rfl) ?_
                            refine ⟨_, _, _, rfl, ?_⟩
                            have e2 : nmF K V 0 999 (j + 2) = 0 := by
                              unfold nmF
                              rw [if_pos hy3, if_pos (by omega)]
                            have e1 : sLeaf K V CN NM j = (0, j + 3) := by
                              unfold sLeaf
                              rw [if_neg (by omega), if_neg (by omega), if_neg (by omega), if_neg (by omega), if_pos hyc, e2]
                              rfl
                            refine Or.inl ?_
                            unfold sOp
                            rw [if_neg (by omega), if_neg (by omega), if_neg (by omega), if_neg (by omega)]
                            rw [e1]
                            try dsimp only
                            exact ⟨rfl, rfl, hA3, hj3, ⟨⟨by show (Fc 46) = _; omega, hs, by show (Fc 47) = _; omega, hdp, by show 0 ≤ (Fc 44); omega, rfl, by show (Fc 44) + (Fc 46) ≤ 40; omega⟩, by show (Fc 45) = _; omega, by omega, by show (Fc 48) = _; omega, by show (Fc 44) + (Fc 46) + _ ≤ _; omega, by show (Fc 15) = _; omega⟩, by show Fc 3 = F 3; omega, by show Fc 5 = F 5; omega⟩
                          · simp only [x_ncd] at g13
                            refine zg_blk pok2 X 2 [] (S' := (277, [(4, zI (Fa 14)), (3, zI 5), (2, zI 0), (1, zI 0), (0, zR (m 0))], [zI 1, zR (m 0)], ((rW m Fb B SS HH NR RV) ++ (qW m RD ST)))) rfl trivial ?_
                            refine zg_callV pok2 EWX_ok X 0 (vas := [zI 1]) (vr := []) (Y1 := (rW m Fb B SS HH NR RV)) (Y2 := (qW m RD ST)) rfl rfl (Or.inl rfl) zj_X12_bad rfl rfl rfl rfl (Nat.le_of_ble_eq_true rfl) rfl (zr_bad (F := Fb)) ⟨by decide, by decide, by decide, by decide⟩ (fun z9 Y9 hz => ?_)
                            obtain ⟨rfl, rfl⟩ := hz
                            refine zg_retb X hR rfl rfl (by decide) (by decide) (by first | exact Or.inl rfl | exact Or.inr rfl) ?_
                            refine ⟨_, _, _, rfl, ?_⟩
                            have hn3 : ¬ K (j + 2) = 3 := fun h => by have h9 := hA2.2.1.num.1.mpr h; omega
                            have e2 : nmF K V 0 999 (j + 2) = 1 := by
                              unfold nmF
                              rw [if_neg hn3]
                            have e1 : sLeaf K V CN NM j = (1, j + 2) := by
                              unfold sLeaf
                              rw [if_neg (by omega), if_neg (by omega), if_neg (by omega), if_neg (by omega), if_pos hyc, e2]
                              rfl
                            refine Or.inr ?_
                            unfold sOp
                            rw [if_neg (by omega), if_neg (by omega), if_neg (by omega), if_neg (by omega)]
                            rw [e1]
                            exact ⟨show ¬ (1 : Int) = 0 by decide, rfl, rfl, hA2.1⟩
                        · simp only [x_ncd] at g12
                          refine zg_blk pok2 X 2 [] (S' := (253, [(3, zI 5), (2, zI 0), (1, zI 0), (0, zR (m 0))], [zI 1, zR (m 0)], ((rW m (zup Fa 48 1) B SS HH NR RV) ++ (qW m RD ST)))) rfl trivial ?_
                          refine zg_callV pok2 EWX_ok X 0 (vas := [zI 1]) (vr := []) (Y1 := (rW m (zup Fa 48 1) B SS HH NR RV)) (Y2 := (qW m RD ST)) rfl rfl (Or.inl rfl) zj_X12_bad rfl rfl rfl rfl (Nat.le_of_ble_eq_true rfl) rfl (zr_bad (F := (zup Fa 48 1))) ⟨by decide, by decide, by decide, by decide⟩ (fun z9 Y9 hz => ?_)
                          obtain ⟨rfl, rfl⟩ := hz
                          refine zg_retb X hR rfl rfl (by decide) (by decide) (by first | exact Or.inl rfl | exact Or.inr rfl) ?_
                          refine ⟨_, _, _, rfl, ?_⟩
                          have hnc : ¬ (K (j + 1) = 60 ∨ K (j + 1) = 61 ∨ K (j + 1) = 62) := fun h => by have h9 := hA1.2.1.cmp.mpr h; omega
                          have e1 : sLeaf K V CN NM j = (1, j + 1) := by
                            unfold sLeaf
                            rw [if_neg (by omega), if_neg (by omega), if_neg (by omega), if_neg (by omega), if_neg hnc]
                          refine Or.inr ?_
                          unfold sOp
                          rw [if_neg (by omega), if_neg (by omega), if_neg (by omega), if_neg (by omega)]
                          rw [e1]
                          exact ⟨show ¬ (1 : Int) = 0 by decide, rfl, rfl, hA1.1⟩
                  · exact absurd (show (5 : Int) < (5 : Int) from g9) (by decide)
                · exact absurd (show (5 : Int) < (2 : Int) from g8) (by decide)
              · exact absurd (show ¬ (0 : Int) = (0 : Int) from g7) (by decide)
          · simp only [x_ncd] at g5
            refine zg_blk pok2 X 2 [] (S' := (58, [(3, zI 5), (2, zI 0), (1, zI 0), (0, zR (m 0))], [zI 4, zR (m 0)], ((rW m F B SS HH NR RV) ++ (qW m RD ST)))) rfl trivial ?_
            refine zg_callV pok2 EWX_ok X 0 (vas := [zI 4]) (vr := []) (Y1 := (rW m F B SS HH NR RV)) (Y2 := (qW m RD ST)) rfl rfl (Or.inl rfl) zj_X12_bad rfl rfl rfl rfl (Nat.le_of_ble_eq_true rfl) rfl (zr_bad (F := F)) ⟨by decide, by decide, by decide, by decide⟩ (fun z9 Y9 hz => ?_)
            obtain ⟨rfl, rfl⟩ := hz
            refine zg_retb X hR rfl rfl (by decide) (by decide) (by first | exact Or.inl rfl | exact Or.inr rfl) ?_
            refine ⟨_, _, _, rfl, ?_⟩
            refine Or.inr ?_
            unfold sOp
            rw [if_neg (by omega), if_pos (by omega)]
            exact ⟨show ¬ (4 : Int) = 0 by decide, rfl, rfl, hA0.1⟩
      · exact absurd (show (5 : Int) < (0 : Int) from g3) (by decide)
set_option maxHeartbeats 8000000 in
set_option maxRecDepth 4000 in
theorem zr_opT6 (hH : RH B P K S V RV k F) (hA : rAt P K S V F j) (hj : j ≤ k) (hRR : RK SS NR CN NM) (hI : INV CN NM x) (hRZ : ∀ q, zin64 (RV q)) (hQ : RQ F ST st d o 0) (hk : K j = 2 ∧ V j = 27) {r : va_W} {p0 : Program} {e0 : Env} {s0 : State} {m0 : MethodId} {ar0 : Array Value} {be0 : List Frame} {me0 : Method} {c0 : Code} {A0 : Nat → Prop} {Q0 : State → Prop} (X : Cx OW2 (EWX xs) D cy ex mt2_X12_operand (mY mt2_X12_operand).cls p0 (rmR (2, 0, 0, 45)) s0 m0 ar0 me0 c0 A0 (2, 0, 0, 45) 0 0) (hR : ZRet D cy r mt2_X12_operand p0 l e0 (rmR (2, 0, 0, 45)) s0 m0 ar0 be0 me0 c0 A0 Q0 (2, 0, 0, 45) (fun z Y => ∃ F9 RD9 ST9, Y = (rW m F9 B SS HH NR RV ++ qW m RD9 ST9) ∧ oM P K S V F F9 ST9 k z (sOp K V CN NM st d j o))) : ZG D cy r mt2_X12_operand p0 l e0 (rmR (2, 0, 0, 45)) s0 m0 ar0 be0 me0 c0 A0 Q0 0 0 (20, [(3, zI 6), (2, zI 0), (1, zI 0), (0, zR (m 0))], [], ((rW m F B SS HH NR RV) ++ (qW m RD ST))) := by
  have hA0 := hA
  have hH0 := hH
  have hj0 := hj
  obtain ⟨⟨h46, hs, h47, hdp, h44, hT, hT2⟩, h45, ho, h48, hsum, h15⟩ := hQ
  have hdl := dp_le st
  refine zg_blk pok2 X 1 [] (S' := (21, [(3, zI 6), (2, zI 0), (1, zI 0), (0, zR (m 0))], [zI 0], ((rW m F B SS HH NR RV) ++ (qW m RD ST)))) rfl trivial ?_
  refine zg_if X 38 rfl rfl (by first | (unfold zin; omega) | (have h9 := hA1.2.1.t11; unfold zin; omega) | (have h8 := hA1.2.1.sg14 (by omega); unfold zin; omega) | (have h9 := hA2.2.1.t11; unfold zin; omega)) (fun g1 => ?_) (fun g1 => ?_)
  · exact absurd (show ¬ (0 : Int) = (0 : Int) from g1) (by decide)
  · simp only [x_ncd] at g1
    refine zg_blk pok2 X 1 [] (S' := (25, [(3, zI 6), (2, zI 0), (1, zI 0), (0, zR (m 0))], [zI 0], ((rW m F B SS HH NR RV) ++ (qW m RD ST)))) rfl trivial ?_
    refine zg_if X 38 rfl rfl (by first | (unfold zin; omega) | (have h9 := hA1.2.1.t11; unfold zin; omega) | (have h8 := hA1.2.1.sg14 (by omega); unfold zin; omega) | (have h9 := hA2.2.1.t11; unfold zin; omega)) (fun g2 => ?_) (fun g2 => ?_)
    · exact absurd (show ¬ (0 : Int) = (0 : Int) from g2) (by decide)
    · simp only [x_ncd] at g2
      refine zg_blk pok2 X 1 [] (S' := (29, [(3, zI 6), (2, zI 0), (1, zI 0), (0, zR (m 0))], [zI 6], ((rW m F B SS HH NR RV) ++ (qW m RD ST)))) rfl trivial ?_
      refine zg_if X 38 rfl rfl (by first | (unfold zin; omega) | (have h9 := hA1.2.1.t11; unfold zin; omega) | (have h8 := hA1.2.1.sg14 (by omega); unfold zin; omega) | (have h9 := hA2.2.1.t11; unfold zin; omega)) (fun g3 => ?_) (fun g3 => ?_)
      · simp only [x_cnd] at g3
        refine zg_blk pok2 X 3 [0] (S' := (44, [(3, zI 6), (2, zI 0), (1, zI 0), (0, zR (m 0))], [zI 20, zI (F 45)], ((rW m F B SS HH NR RV) ++ (qW m RD ST)))) rfl ⟨rfl, trivial⟩ ?_
        refine zg_icmp X 56 rfl rfl (by first | (unfold zin; omega) | (have h9 := hA1.2.1.t11; unfold zin; omega) | (have h8 := hA1.2.1.sg14 (by omega); unfold zin; omega) | (have h9 := hA2.2.1.t11; unfold zin; omega)) (by first | (unfold zin; omega) | (have h9 := hA1.2.1.t11; unfold zin; omega) | (have h8 := hA1.2.1.sg14 (by omega); unfold zin; omega) | (have h9 := hA2.2.1.t11; unfold zin; omega)) (fun g4 => ?_) (fun g4 => ?_)
        · simp only [x_cnd] at g4
          refine zg_blk pok2 X 2 [] (S' := (58, [(3, zI 6), (2, zI 0), (1, zI 0), (0, zR (m 0))], [zI 4, zR (m 0)], ((rW m F B SS HH NR RV) ++ (qW m RD ST)))) rfl trivial ?_
          refine zg_callV pok2 EWX_ok X 0 (vas := [zI 4]) (vr := []) (Y1 := (rW m F B SS HH NR RV)) (Y2 := (qW m RD ST)) rfl rfl (Or.inl rfl) zj_X12_bad rfl rfl rfl rfl (Nat.le_of_ble_eq_true rfl) rfl (zr_bad (F := F)) ⟨by decide, by decide, by decide, by decide⟩ (fun z9 Y9 hz => ?_)
          obtain ⟨rfl, rfl⟩ := hz
          refine zg_retb X hR rfl rfl (by decide) (by decide) (by first | exact Or.inl rfl | exact Or.inr rfl) ?_
          refine ⟨_, _, _, rfl, ?_⟩
          refine Or.inr ?_
          unfold sOp
          rw [if_neg (by omega), if_pos (by omega)]
          exact ⟨show ¬ (4 : Int) = 0 by decide, rfl, rfl, hA0.1⟩
        · simp only [x_ncd] at g4
          refine zg_blk pok2 X 3 [0] (S' := (53, [(3, zI 6), (2, zI 0), (1, zI 0), (0, zR (m 0))], [zI 8, zI (F 47)], ((rW m F B SS HH NR RV) ++ (qW m RD ST)))) rfl ⟨rfl, trivial⟩ ?_
          refine zg_icmp X 62 rfl rfl (by first | (unfold zin; omega) | (have h9 := hA1.2.1.t11; unfold zin; omega) | (have h8 := hA1.2.1.sg14 (by omega); unfold zin; omega) | (have h9 := hA2.2.1.t11; unfold zin; omega)) (by first | (unfold zin; omega) | (have h9 := hA1.2.1.t11; unfold zin; omega) | (have h8 := hA1.2.1.sg14 (by omega); unfold zin; omega) | (have h9 := hA2.2.1.t11; unfold zin; omega)) (fun g5 => ?_) (fun g5 => ?_)
          · simp only [x_cnd] at g5
            refine zg_blk pok2 X 7 [0, 0] (S' := (73, [(3, zI 6), (2, zI 0), (1, zI 0), (0, zR (m 0))], [zR (m 0)], ((rW m (zup F 45 ((F 45) + 1)) B SS HH NR RV) ++ (qW m RD ST)))) rfl ⟨rfl, rfl, rfl, rfl, trivial⟩ ?_
            have hj1 : j + 1 ≤ k := hH0.len hj0 (by omega) (by omega)
            refine zg_callV pok2 EWX_ok X 0 (vas := []) (vr := []) (Y1 := (rW m (zup F 45 ((F 45) + 1)) B SS HH NR RV)) (Y2 := (qW m RD ST)) rfl rfl (Or.inl rfl) zj_X12_next rfl rfl rfl rfl (Nat.le_of_ble_eq_true rfl) rfl (zr_next (F := (zup F 45 ((F 45) + 1))) hH0.1 hH0.2.1 (by have e4 := hA0.2.2 (by omega) (by omega); have hp := hH0.2.2.2.1.2.2.2.2.2 (j + 1) hj1; show 0 ≤ F 4 ∧ F 4 ≤ F 3; omega) (by have h9 := hH0.2.2.1; show 0 ≤ F 5 ∧ F 5 ≤ 1000; omega)) ⟨by decide, by decide, by decide, by decide⟩ (fun z9 Y9 hz => ?_)
            obtain ⟨rfl, Fa, rfl, hrt, hfrt⟩ := hz
            have hA1 : rAt P K S V Fa (j + 1) := rnext_ok (F := (zup F 45 ((F 45) + 1))) (j := j) hH0 hA0 hj1 (by omega) (by omega) hrt
            have hH1 : RH B P K S V RV k Fa := RH.fr2 hH0 (show Fa 3 = F 3 from hfrt.fr4.1) (show Fa 5 = F 5 from hfrt.fr4.2.1)
            have e3_Fa : Fa 3 = F 3 := hfrt 3 (by decide) (by decide) (by decide) (by decide) (by decide) (by decide)
            have e5_Fa : Fa 5 = F 5 := hfrt 5 (by decide) (by decide) (by decide) (by decide) (by decide) (by decide)
            have e15_Fa : Fa 15 = F 15 := hfrt 15 (by decide) (by decide) (by decide) (by decide) (by decide) (by decide)
            have e44_Fa : Fa 44 = F 44 := hfrt 44 (by decide) (by decide) (by decide) (by decide) (by decide) (by decide)
            have e45_Fa : Fa 45 = (F 45) + 1 := hfrt 45 (by decide) (by decide) (by decide) (by decide) (by decide) (by decide)
            have e46_Fa : Fa 46 = F 46 := hfrt 46 (by decide) (by decide) (by decide) (by decide) (by decide) (by decide)
            have e47_Fa : Fa 47 = F 47 := hfrt 47 (by decide) (by decide) (by decide) (by decide) (by decide) (by decide)
            have e48_Fa : Fa 48 = F 48 := hfrt 48 (by decide) (by decide) (by decide) (by decide) (by decide) (by decide)
            refine zg_blk pok2 X 1 [] (S' := (77, [(3, zI 6), (2, zI 0), (1, zI 0), (0, zR (m 0))], [zI 0], ((rW m Fa B SS HH NR RV) ++ (qW m RD ST)))) rfl trivial ?_
            refine zg_if X 84 rfl rfl (by first | (unfold zin; omega) | (have h9 := hA1.2.1.t11; unfold zin; omega) | (have h8 := hA1.2.1.sg14 (by omega); unfold zin; omega) | (have h9 := hA2.2.1.t11; unfold zin; omega)) (fun g6 => ?_) (fun g6 => ?_)
            · exact absurd (show ¬ (0 : Int) = (0 : Int) from g6) (by decide)
            · simp only [x_ncd] at g6
              refine zg_blk pok2 X 1 [] (S' := (81, [(3, zI 6), (2, zI 0), (1, zI 0), (0, zR (m 0))], [zI 0], ((rW m Fa B SS HH NR RV) ++ (qW m RD ST)))) rfl trivial ?_
              refine zg_if X 126 rfl rfl (by first | (unfold zin; omega) | (have h9 := hA1.2.1.t11; unfold zin; omega) | (have h8 := hA1.2.1.sg14 (by omega); unfold zin; omega) | (have h9 := hA2.2.1.t11; unfold zin; omega)) (fun g7 => ?_) (fun g7 => ?_)
              · simp only [x_cnd] at g7
                refine zg_blk pok2 X 5 [0] (S' := (133, [(3, zI 6), (2, zI 0), (1, zI 0), (0, zR (m 0))], [zI 2, zI 6], ((rW m (zup Fa 48 1) B SS HH NR RV) ++ (qW m RD ST)))) rfl ⟨rfl, rfl, rfl, trivial⟩ ?_
                refine zg_icmp X 145 rfl rfl (by first | (unfold zin; omega) | (have h9 := hA1.2.1.t11; unfold zin; omega) | (have h8 := hA1.2.1.sg14 (by omega); unfold zin; omega) | (have h9 := hA2.2.1.t11; unfold zin; omega)) (by first | (unfold zin; omega) | (have h9 := hA1.2.1.t11; unfold zin; omega) | (have h8 := hA1.2.1.sg14 (by omega); unfold zin; omega) | (have h9 := hA2.2.1.t11; unfold zin; omega)) (fun g8 => ?_) (fun g8 => ?_)
                · simp only [x_cnd] at g8
                  refine zg_blk pok2 X 2 [] (S' := (147, [(3, zI 6), (2, zI 0), (1, zI 0), (0, zR (m 0))], [zI 5, zI 6], ((rW m (zup Fa 48 1) B SS HH NR RV) ++ (qW m RD ST)))) rfl trivial ?_
                  refine zg_icmp X 225 rfl rfl (by first | (unfold zin; omega) | (have h9 := hA1.2.1.t11; unfold zin; omega) | (have h8 := hA1.2.1.sg14 (by omega); unfold zin; omega) | (have h9 := hA2.2.1.t11; unfold zin; omega)) (by first | (unfold zin; omega) | (have h9 := hA1.2.1.t11; unfold zin; omega) | (have h8 := hA1.2.1.sg14 (by omega); unfold zin; omega) | (have h9 := hA2.2.1.t11; unfold zin; omega)) (fun g9 => ?_) (fun g9 => ?_)
                  · simp only [x_cnd] at g9
                    refine zg_blk pok2 X 3 [0] (S' := (230, [(3, zI 6), (2, zI 0), (1, zI 0), (0, zR (m 0))], [zI 3, zI (Fa 11)], ((rW m (zup Fa 48 1) B SS HH NR RV) ++ (qW m RD ST)))) rfl ⟨rfl, trivial⟩ ?_
                    refine zg_icmp X 251 rfl rfl (by first | (unfold zin; omega) | (have h9 := hA1.2.1.t11; unfold zin; omega) | (have h8 := hA1.2.1.sg14 (by omega); unfold zin; omega) | (have h9 := hA2.2.1.t11; unfold zin; omega)) (by first | (unfold zin; omega) | (have h9 := hA1.2.1.t11; unfold zin; omega) | (have h8 := hA1.2.1.sg14 (by omega); unfold zin; omega) | (have h9 := hA2.2.1.t11; unfold zin; omega)) (fun g10 => ?_) (fun g10 => ?_)
                    · simp only [x_cnd] at g10
                      refine zg_blk pok2 X 2 [] (S' := (253, [(3, zI 6), (2, zI 0), (1, zI 0), (0, zR (m 0))], [zI 1, zR (m 0)], ((rW m (zup Fa 48 1) B SS HH NR RV) ++ (qW m RD ST)))) rfl trivial ?_
                      refine zg_callV pok2 EWX_ok X 0 (vas := [zI 1]) (vr := []) (Y1 := (rW m (zup Fa 48 1) B SS HH NR RV)) (Y2 := (qW m RD ST)) rfl rfl (Or.inl rfl) zj_X12_bad rfl rfl rfl rfl (Nat.le_of_ble_eq_true rfl) rfl (zr_bad (F := (zup Fa 48 1))) ⟨by decide, by decide, by decide, by decide⟩ (fun z9 Y9 hz => ?_)
                      obtain ⟨rfl, rfl⟩ := hz
                      refine zg_retb X hR rfl rfl (by decide) (by decide) (by first | exact Or.inl rfl | exact Or.inr rfl) ?_
                      refine ⟨_, _, _, rfl, ?_⟩
                      have hnc : ¬ (K (j + 1) = 60 ∨ K (j + 1) = 61 ∨ K (j + 1) = 62) := fun h => by have h9 := hA1.2.1.cmp.mpr h; omega
                      have e1 : sLeaf K V CN NM j = (1, j + 1) := by
                        unfold sLeaf
                        rw [if_neg (by omega), if_neg (by omega), if_neg (by omega), if_neg (by omega), if_neg hnc]
                      refine Or.inr ?_
                      unfold sOp
                      rw [if_neg (by omega), if_neg (by omega), if_neg (by omega), if_neg (by omega)]
                      rw [e1]
                      exact ⟨show ¬ (1 : Int) = 0 by decide, rfl, rfl, hA1.1⟩
                    · simp only [x_ncd] at g10
                      refine zg_blk pok2 X 3 [0] (S' := (239, [(3, zI 6), (2, zI 0), (1, zI 0), (0, zR (m 0))], [zI 60, zI (Fa 14)], ((rW m (zup Fa 48 1) B SS HH NR RV) ++ (qW m RD ST)))) rfl ⟨rfl, trivial⟩ ?_
                      refine zg_icmp X 251 rfl rfl (by first | (unfold zin; omega) | (have h9 := hA1.2.1.t11; unfold zin; omega) | (have h8 := hA1.2.1.sg14 (by omega); unfold zin; omega) | (have h9 := hA2.2.1.t11; unfold zin; omega)) (by first | (unfold zin; omega) | (have h9 := hA1.2.1.t11; unfold zin; omega) | (have h8 := hA1.2.1.sg14 (by omega); unfold zin; omega) | (have h9 := hA2.2.1.t11; unfold zin; omega)) (fun g11 => ?_) (fun g11 => ?_)
                      · simp only [x_cnd] at g11
                        refine zg_blk pok2 X 2 [] (S' := (253, [(3, zI 6), (2, zI 0), (1, zI 0), (0, zR (m 0))], [zI 1, zR (m 0)], ((rW m (zup Fa 48 1) B SS HH NR RV) ++ (qW m RD ST)))) rfl trivial ?_
                        refine zg_callV pok2 EWX_ok X 0 (vas := [zI 1]) (vr := []) (Y1 := (rW m (zup Fa 48 1) B SS HH NR RV)) (Y2 := (qW m RD ST)) rfl rfl (Or.inl rfl) zj_X12_bad rfl rfl rfl rfl (Nat.le_of_ble_eq_true rfl) rfl (zr_bad (F := (zup Fa 48 1))) ⟨by decide, by decide, by decide, by decide⟩ (fun z9 Y9 hz => ?_)
                        obtain ⟨rfl, rfl⟩ := hz
                        refine zg_retb X hR rfl rfl (by decide) (by decide) (by first | exact Or.inl rfl | exact Or.inr rfl) ?_
                        refine ⟨_, _, _, rfl, ?_⟩
                        have hnc : ¬ (K (j + 1) = 60 ∨ K (j + 1) = 61 ∨ K (j + 1) = 62) := fun h => by have h9 := hA1.2.1.cmp.mpr h; omega
                        have e1 : sLeaf K V CN NM j = (1, j + 1) := by
                          unfold sLeaf
                          rw [if_neg (by omega), if_neg (by omega), if_neg (by omega), if_neg (by omega), if_neg hnc]
                        refine Or.inr ?_
                        unfold sOp
                        rw [if_neg (by omega), if_neg (by omega), if_neg (by omega), if_neg (by omega)]
                        rw [e1]
                        exact ⟨show ¬ (1 : Int) = 0 by decide, rfl, rfl, hA1.1⟩
                      · simp only [x_ncd] at g11
                        refine zg_blk pok2 X 3 [0] (S' := (248, [(3, zI 6), (2, zI 0), (1, zI 0), (0, zR (m 0))], [zI 62, zI (Fa 14)], ((rW m (zup Fa 48 1) B SS HH NR RV) ++ (qW m RD ST)))) rfl ⟨rfl, trivial⟩ ?_
                        refine zg_icmp X 257 rfl rfl (by first | (unfold zin; omega) | (have h9 := hA1.2.1.t11; unfold zin; omega) | (have h8 := hA1.2.1.sg14 (by omega); unfold zin; omega) | (have h9 := hA2.2.1.t11; unfold zin; omega)) (by first | (unfold zin; omega) | (have h9 := hA1.2.1.t11; unfold zin; omega) | (have h8 := hA1.2.1.sg14 (by omega); unfold zin; omega) | (have h9 := hA2.2.1.t11; unfold zin; omega)) (fun g12 => ?_) (fun g12 => ?_)
                        · simp only [x_cnd] at g12
                          have hyc := hA1.2.1.cmp.mp ⟨by omega, by omega, by omega⟩
                          refine zg_blk pok2 X 4 [0] (S' := (264, [(4, zI (Fa 14)), (3, zI 6), (2, zI 0), (1, zI 0), (0, zR (m 0))], [zR (m 0)], ((rW m (zup Fa 48 1) B SS HH NR RV) ++ (qW m RD ST)))) rfl ⟨rfl, trivial⟩ ?_
                          have hj2 : j + 2 ≤ k := hH1.len hj1 (by omega) (by omega)
                          refine zg_callV pok2 EWX_ok X 0 (vas := []) (vr := []) (Y1 := (rW m (zup Fa 48 1) B SS HH NR RV)) (Y2 := (qW m RD ST)) rfl rfl (Or.inl rfl) zj_X12_next rfl rfl rfl rfl (Nat.le_of_ble_eq_true rfl) rfl (zr_next (F := (zup Fa 48 1)) hH1.1 hH1.2.1 (by have e4 := hA1.2.2 (by omega) (by omega); have hp := hH1.2.2.2.1.2.2.2.2.2 ((j + 1) + 1) hj2; show 0 ≤ Fa 4 ∧ Fa 4 ≤ Fa 3; omega) (by have h9 := hH1.2.2.1; show 0 ≤ Fa 5 ∧ Fa 5 ≤ 1000; omega)) ⟨by decide, by decide, by decide, by decide⟩ (fun z9 Y9 hz => ?_)
                          obtain ⟨rfl, Fb, rfl, hrt, hfrt⟩ := hz
                          have hA2 : rAt P K S V Fb (j + 2) := rnext_ok (F := (zup Fa 48 1)) (j := (j + 1)) hH1 hA1 hj2 (by omega) (by omega) hrt
                          have hH2 : RH B P K S V RV k Fb := RH.fr2 hH1 (show Fb 3 = Fa 3 from hfrt.fr4.1) (show Fb 5 = Fa 5 from hfrt.fr4.2.1)
                          have e3_Fb : Fb 3 = Fa 3 := hfrt 3 (by decide) (by decide) (by decide) (by decide) (by decide) (by decide)
                          have e5_Fb : Fb 5 = Fa 5 := hfrt 5 (by decide) (by decide) (by decide) (by decide) (by decide) (by decide)
                          have e15_Fb : Fb 15 = Fa 15 := hfrt 15 (by decide) (by decide) (by decide) (by decide) (by decide) (by decide)
                          have e44_Fb : Fb 44 = Fa 44 := hfrt 44 (by decide) (by decide) (by decide) (by decide) (by decide) (by decide)
                          have e45_Fb : Fb 45 = Fa 45 := hfrt 45 (by decide) (by decide) (by decide) (by decide) (by decide) (by decide)
                          have e46_Fb : Fb 46 = Fa 46 := hfrt 46 (by decide) (by decide) (by decide) (by decide) (by decide) (by decide)
                          have e47_Fb : Fb 47 = Fa 47 := hfrt 47 (by decide) (by decide) (by decide) (by decide) (by decide) (by decide)
                          have e48_Fb : Fb 48 = 1 := hfrt 48 (by decide) (by decide) (by decide) (by decide) (by decide) (by decide)
                          refine zg_blk pok2 X 3 [0] (S' := (272, [(4, zI (Fa 14)), (3, zI 6), (2, zI 0), (1, zI 0), (0, zR (m 0))], [zI 2, zI (Fb 11)], ((rW m Fb B SS HH NR RV) ++ (qW m RD ST)))) rfl ⟨rfl, trivial⟩ ?_
                          refine zg_icmp X 281 rfl rfl (by first | (unfold zin; omega) | (have h9 := hA1.2.1.t11; unfold zin; omega) | (have h8 := hA1.2.1.sg14 (by omega); unfold zin; omega) | (have h9 := hA2.2.1.t11; unfold zin; omega)) (by first | (unfold zin; omega) | (have h9 := hA1.2.1.t11; unfold zin; omega) | (have h8 := hA1.2.1.sg14 (by omega); unfold zin; omega) | (have h9 := hA2.2.1.t11; unfold zin; omega)) (fun g13 => ?_) (fun g13 => ?_)
                          · simp only [x_cnd] at g13
                            have hy3 : K (j + 2) = 3 := hA2.2.1.num.1.mp (by omega)
                            have hv3 := hA2.2.1.num.2 hy3
                            refine zg_blk pok2 X 5 [0] (S' := (289, [(4, zI (Fa 14)), (3, zI 6), (2, zI 0), (1, zI 0), (0, zR (m 0))], [zI (Fb 14), zI (Fa 14), zI 6, zR (m 0)], ((rW m Fb B SS HH NR RV) ++ (qW m RD ST)))) rfl ⟨rfl, trivial⟩ ?_
                            refine zg_callV pok2 EWX_ok X 0 (vas := [zI 6, zI (Fa 14), zI (Fb 14)]) (vr := []) (Y1 := ((rW m Fb B SS HH NR RV) ++ (qW m RD ST))) (Y2 := []) rfl rfl (Or.inl rfl) zj_X12_code rfl rfl rfl rfl (Nat.le_of_ble_eq_true rfl) rfl (zr_code (F := Fb) (show 0 ≤ (Fb 44) ∧ (Fb 44) ≤ 45 by omega)) ⟨by decide, by decide, by decide, by decide⟩ (fun z9 Y9 hz => ?_)
                            obtain ⟨rfl, RDb, rfl⟩ := hz
                            refine zg_cv (S2 := (292, [(4, zI (Fa 14)), (3, zI 6), (2, zI 0), (1, zI 0), (0, zR (m 0))], [], ((rW m (zup Fb 44 ((Fb 44) + 1)) B SS HH NR RV) ++ (qW m RDb ST)))) rfl ?_
                            refine zg_blk pok2 X 1 [] (S' := (293, [(4, zI (Fa 14)), (3, zI 6), (2, zI 0), (1, zI 0), (0, zR (m 0))], [zR (m 0)], ((rW m (zup Fb 44 ((Fb 44) + 1)) B SS HH NR RV) ++ (qW m RDb ST)))) rfl trivial ?_
                            have hj3 : j + 3 ≤ k := hH2.len hj2 (by omega) (by omega)
                            refine zg_callV pok2 EWX_ok X 0 (vas := []) (vr := []) (Y1 := (rW m (zup Fb 44 ((Fb 44) + 1)) B SS HH NR RV)) (Y2 := (qW m RDb ST)) rfl rfl (Or.inl rfl) zj_X12_next rfl rfl rfl rfl (Nat.le_of_ble_eq_true rfl) rfl (zr_next (F := (zup Fb 44 ((Fb 44) + 1))) hH2.1 hH2.2.1 (by have e4 := hA2.2.2 (by omega) (by omega); have hp := hH2.2.2.2.1.2.2.2.2.2 ((j + 2) + 1) hj3; show 0 ≤ Fb 4 ∧ Fb 4 ≤ Fb 3; omega) (by have h9 := hH2.2.2.1; show 0 ≤ Fb 5 ∧ Fb 5 ≤ 1000; omega)) ⟨by decide, by decide, by decide, by decide⟩ (fun z9 Y9 hz => ?_)
                            obtain ⟨rfl, Fc, rfl, hrt, hfrt⟩ := hz
                            have hA3 : rAt P K S V Fc (j + 3) := rnext_ok (F := (zup Fb 44 ((Fb 44) + 1))) (j := (j + 2)) hH2 hA2 hj3 (by omega) (by omega) hrt
                            have hH3 : RH B P K S V RV k Fc := RH.fr2 hH2 (show Fc 3 = Fb 3 from hfrt.fr4.1) (show Fc 5 = Fb 5 from hfrt.fr4.2.1)
                            have e3_Fc : Fc 3 = Fb 3 := hfrt 3 (by decide) (by decide) (by decide) (by decide) (by decide) (by decide)
                            have e5_Fc : Fc 5 = Fb 5 := hfrt 5 (by decide) (by decide) (by decide) (by decide) (by decide) (by decide)
                            have e15_Fc : Fc 15 = Fb 15 := hfrt 15 (by decide) (by decide) (by decide) (by decide) (by decide) (by decide)
                            have e44_Fc : Fc 44 = (Fb 44) + 1 := hfrt 44 (by decide) (by decide) (by decide) (by decide) (by decide) (by decide)
                            have e45_Fc : Fc 45 = Fb 45 := hfrt 45 (by decide) (by decide) (by decide) (by decide) (by decide) (by decide)
                            have e46_Fc : Fc 46 = Fb 46 := hfrt 46 (by decide) (by decide) (by decide) (by decide) (by decide) (by decide)
                            have e47_Fc : Fc 47 = Fb 47 := hfrt 47 (by decide) (by decide) (by decide) (by decide) (by decide) (by decide)
                            have e48_Fc : Fc 48 = Fb 48 := hfrt 48 (by decide) (by decide) (by decide) (by decide) (by decide) (by decide)
                            refine zg_blk pok2 X 1 [] (S' := (297, [(4, zI (Fa 14)), (3, zI 6), (2, zI 0), (1, zI 0), (0, zR (m 0))], [zI 1], ((rW m Fc B SS HH NR RV) ++ (qW m RDb ST)))) rfl trivial ?_
                            refine zg_retb X hR rfl rfl (by decide) (by decide) (by first | exact Or.inl rfl | exact Or.inr rfl) ?_
                            refine ⟨_, _, _, rfl, ?_⟩
                            have e2 : nmF K V 0 999 (j + 2) = 0 := by
                              unfold nmF
                              rw [if_pos hy3, if_pos (by omega)]
                            have e1 : sLeaf K V CN NM j = (0, j + 3) := by
                              unfold sLeaf
                              rw [if_neg (by omega), if_neg (by omega), if_neg (by omega), if_neg (by omega), if_pos hyc, e2]
                              rfl
                            refine Or.inl ?_
                            unfold sOp
                            rw [if_neg (by omega), if_neg (by omega), if_neg (by omega), if_neg (by omega)]
                            rw [e1]
                            try dsimp only
                            exact ⟨rfl, rfl, hA3, hj3, ⟨⟨by show (Fc 46) = _; omega, hs, by show (Fc 47) = _; omega, hdp, by show 0 ≤ (Fc 44); omega, rfl, by show (Fc 44) + (Fc 46) ≤ 40; omega⟩, by show (Fc 45) = _; omega, by omega, by show (Fc 48) = _; omega, by show (Fc 44) + (Fc 46) + _ ≤ _; omega, by show (Fc 15) = _; omega⟩, by show Fc 3 = F 3; omega, by show Fc 5 = F 5; omega⟩
                          · simp only [x_ncd] at g13
                            refine zg_blk pok2 X 2 [] (S' := (277, [(4, zI (Fa 14)), (3, zI 6), (2, zI 0), (1, zI 0), (0, zR (m 0))], [zI 1, zR (m 0)], ((rW m Fb B SS HH NR RV) ++ (qW m RD ST)))) rfl trivial ?_
                            refine zg_callV pok2 EWX_ok X 0 (vas := [zI 1]) (vr := []) (Y1 := (rW m Fb B SS HH NR RV)) (Y2 := (qW m RD ST)) rfl rfl (Or.inl rfl) zj_X12_bad rfl rfl rfl rfl (Nat.le_of_ble_eq_true rfl) rfl (zr_bad (F := Fb)) ⟨by decide, by decide, by decide, by decide⟩ (fun z9 Y9 hz => ?_)
                            obtain ⟨rfl, rfl⟩ := hz
                            refine zg_retb X hR rfl rfl (by decide) (by decide) (by first | exact Or.inl rfl | exact Or.inr rfl) ?_
                            refine ⟨_, _, _, rfl, ?_⟩
                            have hn3 : ¬ K (j + 2) = 3 := fun h => by have h9 := hA2.2.1.num.1.mpr h; omega
                            have e2 : nmF K V 0 999 (j + 2) = 1 := by
                              unfold nmF
                              rw [if_neg hn3]
                            have e1 : sLeaf K V CN NM j = (1, j + 2) := by
                              unfold sLeaf
                              rw [if_neg (by omega), if_neg (by omega), if_neg (by omega), if_neg (by omega), if_pos hyc, e2]
                              rfl
                            refine Or.inr ?_
                            unfold sOp
                            rw [if_neg (by omega), if_neg (by omega), if_neg (by omega), if_neg (by omega)]
                            rw [e1]
                            exact ⟨show ¬ (1 : Int) = 0 by decide, rfl, rfl, hA2.1⟩
                        · simp only [x_ncd] at g12
                          refine zg_blk pok2 X 2 [] (S' := (253, [(3, zI 6), (2, zI 0), (1, zI 0), (0, zR (m 0))], [zI 1, zR (m 0)], ((rW m (zup Fa 48 1) B SS HH NR RV) ++ (qW m RD ST)))) rfl trivial ?_
                          refine zg_callV pok2 EWX_ok X 0 (vas := [zI 1]) (vr := []) (Y1 := (rW m (zup Fa 48 1) B SS HH NR RV)) (Y2 := (qW m RD ST)) rfl rfl (Or.inl rfl) zj_X12_bad rfl rfl rfl rfl (Nat.le_of_ble_eq_true rfl) rfl (zr_bad (F := (zup Fa 48 1))) ⟨by decide, by decide, by decide, by decide⟩ (fun z9 Y9 hz => ?_)
                          obtain ⟨rfl, rfl⟩ := hz
                          refine zg_retb X hR rfl rfl (by decide) (by decide) (by first | exact Or.inl rfl | exact Or.inr rfl) ?_
                          refine ⟨_, _, _, rfl, ?_⟩
                          have hnc : ¬ (K (j + 1) = 60 ∨ K (j + 1) = 61 ∨ K (j + 1) = 62) := fun h => by have h9 := hA1.2.1.cmp.mpr h; omega
                          have e1 : sLeaf K V CN NM j = (1, j + 1) := by
                            unfold sLeaf
                            rw [if_neg (by omega), if_neg (by omega), if_neg (by omega), if_neg (by omega), if_neg hnc]
                          refine Or.inr ?_
                          unfold sOp
                          rw [if_neg (by omega), if_neg (by omega), if_neg (by omega), if_neg (by omega)]
                          rw [e1]
                          exact ⟨show ¬ (1 : Int) = 0 by decide, rfl, rfl, hA1.1⟩
                  · exact absurd (show (6 : Int) < (5 : Int) from g9) (by decide)
                · exact absurd (show (6 : Int) < (2 : Int) from g8) (by decide)
              · exact absurd (show ¬ (0 : Int) = (0 : Int) from g7) (by decide)
          · simp only [x_ncd] at g5
            refine zg_blk pok2 X 2 [] (S' := (58, [(3, zI 6), (2, zI 0), (1, zI 0), (0, zR (m 0))], [zI 4, zR (m 0)], ((rW m F B SS HH NR RV) ++ (qW m RD ST)))) rfl trivial ?_
            refine zg_callV pok2 EWX_ok X 0 (vas := [zI 4]) (vr := []) (Y1 := (rW m F B SS HH NR RV)) (Y2 := (qW m RD ST)) rfl rfl (Or.inl rfl) zj_X12_bad rfl rfl rfl rfl (Nat.le_of_ble_eq_true rfl) rfl (zr_bad (F := F)) ⟨by decide, by decide, by decide, by decide⟩ (fun z9 Y9 hz => ?_)
            obtain ⟨rfl, rfl⟩ := hz
            refine zg_retb X hR rfl rfl (by decide) (by decide) (by first | exact Or.inl rfl | exact Or.inr rfl) ?_
            refine ⟨_, _, _, rfl, ?_⟩
            refine Or.inr ?_
            unfold sOp
            rw [if_neg (by omega), if_pos (by omega)]
            exact ⟨show ¬ (4 : Int) = 0 by decide, rfl, rfl, hA0.1⟩
      · exact absurd (show (6 : Int) < (0 : Int) from g3) (by decide)
set_option maxHeartbeats 8000000 in
set_option maxRecDepth 4000 in
theorem zr_opT7 (hH : RH B P K S V RV k F) (hA : rAt P K S V F j) (hj : j ≤ k) (hRR : RK SS NR CN NM) (hI : INV CN NM x) (hRZ : ∀ q, zin64 (RV q)) (hQ : RQ F ST st d o 0) (hk : K j = 2 ∧ V j = 28) {r : va_W} {p0 : Program} {e0 : Env} {s0 : State} {m0 : MethodId} {ar0 : Array Value} {be0 : List Frame} {me0 : Method} {c0 : Code} {A0 : Nat → Prop} {Q0 : State → Prop} (X : Cx OW2 (EWX xs) D cy ex mt2_X12_operand (mY mt2_X12_operand).cls p0 (rmR (2, 0, 0, 45)) s0 m0 ar0 me0 c0 A0 (2, 0, 0, 45) 0 0) (hR : ZRet D cy r mt2_X12_operand p0 l e0 (rmR (2, 0, 0, 45)) s0 m0 ar0 be0 me0 c0 A0 Q0 (2, 0, 0, 45) (fun z Y => ∃ F9 RD9 ST9, Y = (rW m F9 B SS HH NR RV ++ qW m RD9 ST9) ∧ oM P K S V F F9 ST9 k z (sOp K V CN NM st d j o))) : ZG D cy r mt2_X12_operand p0 l e0 (rmR (2, 0, 0, 45)) s0 m0 ar0 be0 me0 c0 A0 Q0 0 0 (20, [(3, zI 7), (2, zI 0), (1, zI 0), (0, zR (m 0))], [], ((rW m F B SS HH NR RV) ++ (qW m RD ST))) := by
  have hA0 := hA
  have hH0 := hH
  have hj0 := hj
  obtain ⟨⟨h46, hs, h47, hdp, h44, hT, hT2⟩, h45, ho, h48, hsum, h15⟩ := hQ
  have hdl := dp_le st
  refine zg_blk pok2 X 1 [] (S' := (21, [(3, zI 7), (2, zI 0), (1, zI 0), (0, zR (m 0))], [zI 0], ((rW m F B SS HH NR RV) ++ (qW m RD ST)))) rfl trivial ?_
  refine zg_if X 38 rfl rfl (by first | (unfold zin; omega) | (have h9 := hA1.2.1.t11; unfold zin; omega) | (have h8 := hA1.2.1.sg14 (by omega); unfold zin; omega) | (have h9 := hA2.2.1.t11; unfold zin; omega)) (fun g1 => ?_) (fun g1 => ?_)
  · exact absurd (show ¬ (0 : Int) = (0 : Int) from g1) (by decide)
  · simp only [x_ncd] at g1
    refine zg_blk pok2 X 1 [] (S' := (25, [(3, zI 7), (2, zI 0), (1, zI 0), (0, zR (m 0))], [zI 0], ((rW m F B SS HH NR RV) ++ (qW m RD ST)))) rfl trivial ?_
    refine zg_if X 38 rfl rfl (by first | (unfold zin; omega) | (have h9 := hA1.2.1.t11; unfold zin; omega) | (have h8 := hA1.2.1.sg14 (by omega); unfold zin; omega) | (have h9 := hA2.2.1.t11; unfold zin; omega)) (fun g2 => ?_) (fun g2 => ?_)
    · exact absurd (show ¬ (0 : Int) = (0 : Int) from g2) (by decide)
    · simp only [x_ncd] at g2
      refine zg_blk pok2 X 1 [] (S' := (29, [(3, zI 7), (2, zI 0), (1, zI 0), (0, zR (m 0))], [zI 7], ((rW m F B SS HH NR RV) ++ (qW m RD ST)))) rfl trivial ?_
      refine zg_if X 38 rfl rfl (by first | (unfold zin; omega) | (have h9 := hA1.2.1.t11; unfold zin; omega) | (have h8 := hA1.2.1.sg14 (by omega); unfold zin; omega) | (have h9 := hA2.2.1.t11; unfold zin; omega)) (fun g3 => ?_) (fun g3 => ?_)
      · simp only [x_cnd] at g3
        refine zg_blk pok2 X 3 [0] (S' := (44, [(3, zI 7), (2, zI 0), (1, zI 0), (0, zR (m 0))], [zI 20, zI (F 45)], ((rW m F B SS HH NR RV) ++ (qW m RD ST)))) rfl ⟨rfl, trivial⟩ ?_
        refine zg_icmp X 56 rfl rfl (by first | (unfold zin; omega) | (have h9 := hA1.2.1.t11; unfold zin; omega) | (have h8 := hA1.2.1.sg14 (by omega); unfold zin; omega) | (have h9 := hA2.2.1.t11; unfold zin; omega)) (by first | (unfold zin; omega) | (have h9 := hA1.2.1.t11; unfold zin; omega) | (have h8 := hA1.2.1.sg14 (by omega); unfold zin; omega) | (have h9 := hA2.2.1.t11; unfold zin; omega)) (fun g4 => ?_) (fun g4 => ?_)
        · simp only [x_cnd] at g4
          refine zg_blk pok2 X 2 [] (S' := (58, [(3, zI 7), (2, zI 0), (1, zI 0), (0, zR (m 0))], [zI 4, zR (m 0)], ((rW m F B SS HH NR RV) ++ (qW m RD ST)))) rfl trivial ?_
          refine zg_callV pok2 EWX_ok X 0 (vas := [zI 4]) (vr := []) (Y1 := (rW m F B SS HH NR RV)) (Y2 := (qW m RD ST)) rfl rfl (Or.inl rfl) zj_X12_bad rfl rfl rfl rfl (Nat.le_of_ble_eq_true rfl) rfl (zr_bad (F := F)) ⟨by decide, by decide, by decide, by decide⟩ (fun z9 Y9 hz => ?_)
          obtain ⟨rfl, rfl⟩ := hz
          refine zg_retb X hR rfl rfl (by decide) (by decide) (by first | exact Or.inl rfl | exact Or.inr rfl) ?_
          refine ⟨_, _, _, rfl, ?_⟩
          refine Or.inr ?_
          unfold sOp
          rw [if_neg (by omega), if_pos (by omega)]
          exact ⟨show ¬ (4 : Int) = 0 by decide, rfl, rfl, hA0.1⟩
        · simp only [x_ncd] at g4
          refine zg_blk pok2 X 3 [0] (S' := (53, [(3, zI 7), (2, zI 0), (1, zI 0), (0, zR (m 0))], [zI 8, zI (F 47)], ((rW m F B SS HH NR RV) ++ (qW m RD ST)))) rfl ⟨rfl, trivial⟩ ?_
          refine zg_icmp X 62 rfl rfl (by first | (unfold zin; omega) | (have h9 := hA1.2.1.t11; unfold zin; omega) | (have h8 := hA1.2.1.sg14 (by omega); unfold zin; omega) | (have h9 := hA2.2.1.t11; unfold zin; omega)) (by first | (unfold zin; omega) | (have h9 := hA1.2.1.t11; unfold zin; omega) | (have h8 := hA1.2.1.sg14 (by omega); unfold zin; omega) | (have h9 := hA2.2.1.t11; unfold zin; omega)) (fun g5 => ?_) (fun g5 => ?_)
          · simp only [x_cnd] at g5
            refine zg_blk pok2 X 7 [0, 0] (S' := (73, [(3, zI 7), (2, zI 0), (1, zI 0), (0, zR (m 0))], [zR (m 0)], ((rW m (zup F 45 ((F 45) + 1)) B SS HH NR RV) ++ (qW m RD ST)))) rfl ⟨rfl, rfl, rfl, rfl, trivial⟩ ?_
            have hj1 : j + 1 ≤ k := hH0.len hj0 (by omega) (by omega)
            refine zg_callV pok2 EWX_ok X 0 (vas := []) (vr := []) (Y1 := (rW m (zup F 45 ((F 45) + 1)) B SS HH NR RV)) (Y2 := (qW m RD ST)) rfl rfl (Or.inl rfl) zj_X12_next rfl rfl rfl rfl (Nat.le_of_ble_eq_true rfl) rfl (zr_next (F := (zup F 45 ((F 45) + 1))) hH0.1 hH0.2.1 (by have e4 := hA0.2.2 (by omega) (by omega); have hp := hH0.2.2.2.1.2.2.2.2.2 (j + 1) hj1; show 0 ≤ F 4 ∧ F 4 ≤ F 3; omega) (by have h9 := hH0.2.2.1; show 0 ≤ F 5 ∧ F 5 ≤ 1000; omega)) ⟨by decide, by decide, by decide, by decide⟩ (fun z9 Y9 hz => ?_)
            obtain ⟨rfl, Fa, rfl, hrt, hfrt⟩ := hz
            have hA1 : rAt P K S V Fa (j + 1) := rnext_ok (F := (zup F 45 ((F 45) + 1))) (j := j) hH0 hA0 hj1 (by omega) (by omega) hrt
            have hH1 : RH B P K S V RV k Fa := RH.fr2 hH0 (show Fa 3 = F 3 from hfrt.fr4.1) (show Fa 5 = F 5 from hfrt.fr4.2.1)
            have e3_Fa : Fa 3 = F 3 := hfrt 3 (by decide) (by decide) (by decide) (by decide) (by decide) (by decide)
            have e5_Fa : Fa 5 = F 5 := hfrt 5 (by decide) (by decide) (by decide) (by decide) (by decide) (by decide)
            have e15_Fa : Fa 15 = F 15 := hfrt 15 (by decide) (by decide) (by decide) (by decide) (by decide) (by decide)
            have e44_Fa : Fa 44 = F 44 := hfrt 44 (by decide) (by decide) (by decide) (by decide) (by decide) (by decide)
            have e45_Fa : Fa 45 = (F 45) + 1 := hfrt 45 (by decide) (by decide) (by decide) (by decide) (by decide) (by decide)
            have e46_Fa : Fa 46 = F 46 := hfrt 46 (by decide) (by decide) (by decide) (by decide) (by decide) (by decide)
            have e47_Fa : Fa 47 = F 47 := hfrt 47 (by decide) (by decide) (by decide) (by decide) (by decide) (by decide)
            have e48_Fa : Fa 48 = F 48 := hfrt 48 (by decide) (by decide) (by decide) (by decide) (by decide) (by decide)
            refine zg_blk pok2 X 1 [] (S' := (77, [(3, zI 7), (2, zI 0), (1, zI 0), (0, zR (m 0))], [zI 0], ((rW m Fa B SS HH NR RV) ++ (qW m RD ST)))) rfl trivial ?_
            refine zg_if X 84 rfl rfl (by first | (unfold zin; omega) | (have h9 := hA1.2.1.t11; unfold zin; omega) | (have h8 := hA1.2.1.sg14 (by omega); unfold zin; omega) | (have h9 := hA2.2.1.t11; unfold zin; omega)) (fun g6 => ?_) (fun g6 => ?_)
            · exact absurd (show ¬ (0 : Int) = (0 : Int) from g6) (by decide)
            · simp only [x_ncd] at g6
              refine zg_blk pok2 X 1 [] (S' := (81, [(3, zI 7), (2, zI 0), (1, zI 0), (0, zR (m 0))], [zI 0], ((rW m Fa B SS HH NR RV) ++ (qW m RD ST)))) rfl trivial ?_
              refine zg_if X 126 rfl rfl (by first | (unfold zin; omega) | (have h9 := hA1.2.1.t11; unfold zin; omega) | (have h8 := hA1.2.1.sg14 (by omega); unfold zin; omega) | (have h9 := hA2.2.1.t11; unfold zin; omega)) (fun g7 => ?_) (fun g7 => ?_)
              · simp only [x_cnd] at g7
                refine zg_blk pok2 X 5 [0] (S' := (133, [(3, zI 7), (2, zI 0), (1, zI 0), (0, zR (m 0))], [zI 2, zI 7], ((rW m (zup Fa 48 1) B SS HH NR RV) ++ (qW m RD ST)))) rfl ⟨rfl, rfl, rfl, trivial⟩ ?_
                refine zg_icmp X 145 rfl rfl (by first | (unfold zin; omega) | (have h9 := hA1.2.1.t11; unfold zin; omega) | (have h8 := hA1.2.1.sg14 (by omega); unfold zin; omega) | (have h9 := hA2.2.1.t11; unfold zin; omega)) (by first | (unfold zin; omega) | (have h9 := hA1.2.1.t11; unfold zin; omega) | (have h8 := hA1.2.1.sg14 (by omega); unfold zin; omega) | (have h9 := hA2.2.1.t11; unfold zin; omega)) (fun g8 => ?_) (fun g8 => ?_)
                · simp only [x_cnd] at g8
                  refine zg_blk pok2 X 2 [] (S' := (147, [(3, zI 7), (2, zI 0), (1, zI 0), (0, zR (m 0))], [zI 5, zI 7], ((rW m (zup Fa 48 1) B SS HH NR RV) ++ (qW m RD ST)))) rfl trivial ?_
                  refine zg_icmp X 225 rfl rfl (by first | (unfold zin; omega) | (have h9 := hA1.2.1.t11; unfold zin; omega) | (have h8 := hA1.2.1.sg14 (by omega); unfold zin; omega) | (have h9 := hA2.2.1.t11; unfold zin; omega)) (by first | (unfold zin; omega) | (have h9 := hA1.2.1.t11; unfold zin; omega) | (have h8 := hA1.2.1.sg14 (by omega); unfold zin; omega) | (have h9 := hA2.2.1.t11; unfold zin; omega)) (fun g9 => ?_) (fun g9 => ?_)
                  · simp only [x_cnd] at g9
                    refine zg_blk pok2 X 3 [0] (S' := (230, [(3, zI 7), (2, zI 0), (1, zI 0), (0, zR (m 0))], [zI 3, zI (Fa 11)], ((rW m (zup Fa 48 1) B SS HH NR RV) ++ (qW m RD ST)))) rfl ⟨rfl, trivial⟩ ?_
                    refine zg_icmp X 251 rfl rfl (by first | (unfold zin; omega) | (have h9 := hA1.2.1.t11; unfold zin; omega) | (have h8 := hA1.2.1.sg14 (by omega); unfold zin; omega) | (have h9 := hA2.2.1.t11; unfold zin; omega)) (by first | (unfold zin; omega) | (have h9 := hA1.2.1.t11; unfold zin; omega) | (have h8 := hA1.2.1.sg14 (by omega); unfold zin; omega) | (have h9 := hA2.2.1.t11; unfold zin; omega)) (fun g10 => ?_) (fun g10 => ?_)
                    · simp only [x_cnd] at g10
                      refine zg_blk pok2 X 2 [] (S' := (253, [(3, zI 7), (2, zI 0), (1, zI 0), (0, zR (m 0))], [zI 1, zR (m 0)], ((rW m (zup Fa 48 1) B SS HH NR RV) ++ (qW m RD ST)))) rfl trivial ?_
                      refine zg_callV pok2 EWX_ok X 0 (vas := [zI 1]) (vr := []) (Y1 := (rW m (zup Fa 48 1) B SS HH NR RV)) (Y2 := (qW m RD ST)) rfl rfl (Or.inl rfl) zj_X12_bad rfl rfl rfl rfl (Nat.le_of_ble_eq_true rfl) rfl (zr_bad (F := (zup Fa 48 1))) ⟨by decide, by decide, by decide, by decide⟩ (fun z9 Y9 hz => ?_)
                      obtain ⟨rfl, rfl⟩ := hz
                      refine zg_retb X hR rfl rfl (by decide) (by decide) (by first | exact Or.inl rfl | exact Or.inr rfl) ?_
                      refine ⟨_, _, _, rfl, ?_⟩
                      have hnc : ¬ (K (j + 1) = 60 ∨ K (j + 1) = 61 ∨ K (j + 1) = 62) := fun h => by have h9 := hA1.2.1.cmp.mpr h; omega
                      have e1 : sLeaf K V CN NM j = (1, j + 1) := by
                        unfold sLeaf
                        rw [if_neg (by omega), if_neg (by omega), if_neg (by omega), if_neg (by omega), if_neg hnc]
                      refine Or.inr ?_
                      unfold sOp
                      rw [if_neg (by omega), if_neg (by omega), if_neg (by omega), if_neg (by omega)]
                      rw [e1]
                      exact ⟨show ¬ (1 : Int) = 0 by decide, rfl, rfl, hA1.1⟩
                    · simp only [x_ncd] at g10
                      refine zg_blk pok2 X 3 [0] (S' := (239, [(3, zI 7), (2, zI 0), (1, zI 0), (0, zR (m 0))], [zI 60, zI (Fa 14)], ((rW m (zup Fa 48 1) B SS HH NR RV) ++ (qW m RD ST)))) rfl ⟨rfl, trivial⟩ ?_
                      refine zg_icmp X 251 rfl rfl (by first | (unfold zin; omega) | (have h9 := hA1.2.1.t11; unfold zin; omega) | (have h8 := hA1.2.1.sg14 (by omega); unfold zin; omega) | (have h9 := hA2.2.1.t11; unfold zin; omega)) (by first | (unfold zin; omega) | (have h9 := hA1.2.1.t11; unfold zin; omega) | (have h8 := hA1.2.1.sg14 (by omega); unfold zin; omega) | (have h9 := hA2.2.1.t11; unfold zin; omega)) (fun g11 => ?_) (fun g11 => ?_)
                      · simp only [x_cnd] at g11
                        refine zg_blk pok2 X 2 [] (S' := (253, [(3, zI 7), (2, zI 0), (1, zI 0), (0, zR (m 0))], [zI 1, zR (m 0)], ((rW m (zup Fa 48 1) B SS HH NR RV) ++ (qW m RD ST)))) rfl trivial ?_
                        refine zg_callV pok2 EWX_ok X 0 (vas := [zI 1]) (vr := []) (Y1 := (rW m (zup Fa 48 1) B SS HH NR RV)) (Y2 := (qW m RD ST)) rfl rfl (Or.inl rfl) zj_X12_bad rfl rfl rfl rfl (Nat.le_of_ble_eq_true rfl) rfl (zr_bad (F := (zup Fa 48 1))) ⟨by decide, by decide, by decide, by decide⟩ (fun z9 Y9 hz => ?_)
                        obtain ⟨rfl, rfl⟩ := hz
                        refine zg_retb X hR rfl rfl (by decide) (by decide) (by first | exact Or.inl rfl | exact Or.inr rfl) ?_
                        refine ⟨_, _, _, rfl, ?_⟩
                        have hnc : ¬ (K (j + 1) = 60 ∨ K (j + 1) = 61 ∨ K (j + 1) = 62) := fun h => by have h9 := hA1.2.1.cmp.mpr h; omega
                        have e1 : sLeaf K V CN NM j = (1, j + 1) := by
                          unfold sLeaf
                          rw [if_neg (by omega), if_neg (by omega), if_neg (by omega), if_neg (by omega), if_neg hnc]
                        refine Or.inr ?_
                        unfold sOp
                        rw [if_neg (by omega), if_neg (by omega), if_neg (by omega), if_neg (by omega)]
                        rw [e1]
                        exact ⟨show ¬ (1 : Int) = 0 by decide, rfl, rfl, hA1.1⟩
                      · simp only [x_ncd] at g11
                        refine zg_blk pok2 X 3 [0] (S' := (248, [(3, zI 7), (2, zI 0), (1, zI 0), (0, zR (m 0))], [zI 62, zI (Fa 14)], ((rW m (zup Fa 48 1) B SS HH NR RV) ++ (qW m RD ST)))) rfl ⟨rfl, trivial⟩ ?_
                        refine zg_icmp X 257 rfl rfl (by first | (unfold zin; omega) | (have h9 := hA1.2.1.t11; unfold zin; omega) | (have h8 := hA1.2.1.sg14 (by omega); unfold zin; omega) | (have h9 := hA2.2.1.t11; unfold zin; omega)) (by first | (unfold zin; omega) | (have h9 := hA1.2.1.t11; unfold zin; omega) | (have h8 := hA1.2.1.sg14 (by omega); unfold zin; omega) | (have h9 := hA2.2.1.t11; unfold zin; omega)) (fun g12 => ?_) (fun g12 => ?_)
                        · simp only [x_cnd] at g12
                          have hyc := hA1.2.1.cmp.mp ⟨by omega, by omega, by omega⟩
                          refine zg_blk pok2 X 4 [0] (S' := (264, [(4, zI (Fa 14)), (3, zI 7), (2, zI 0), (1, zI 0), (0, zR (m 0))], [zR (m 0)], ((rW m (zup Fa 48 1) B SS HH NR RV) ++ (qW m RD ST)))) rfl ⟨rfl, trivial⟩ ?_
                          have hj2 : j + 2 ≤ k := hH1.len hj1 (by omega) (by omega)
                          refine zg_callV pok2 EWX_ok X 0 (vas := []) (vr := []) (Y1 := (rW m (zup Fa 48 1) B SS HH NR RV)) (Y2 := (qW m RD ST)) rfl rfl (Or.inl rfl) zj_X12_next rfl rfl rfl rfl (Nat.le_of_ble_eq_true rfl) rfl (zr_next (F := (zup Fa 48 1)) hH1.1 hH1.2.1 (by have e4 := hA1.2.2 (by omega) (by omega); have hp := hH1.2.2.2.1.2.2.2.2.2 ((j + 1) + 1) hj2; show 0 ≤ Fa 4 ∧ Fa 4 ≤ Fa 3; omega) (by have h9 := hH1.2.2.1; show 0 ≤ Fa 5 ∧ Fa 5 ≤ 1000; omega)) ⟨by decide, by decide, by decide, by decide⟩ (fun z9 Y9 hz => ?_)
                          obtain ⟨rfl, Fb, rfl, hrt, hfrt⟩ := hz
                          have hA2 : rAt P K S V Fb (j + 2) := rnext_ok (F := (zup Fa 48 1)) (j := (j + 1)) hH1 hA1 hj2 (by omega) (by omega) hrt
                          have hH2 : RH B P K S V RV k Fb := RH.fr2 hH1 (show Fb 3 = Fa 3 from hfrt.fr4.1) (show Fb 5 = Fa 5 from hfrt.fr4.2.1)
                          have e3_Fb : Fb 3 = Fa 3 := hfrt 3 (by decide) (by decide) (by decide) (by decide) (by decide) (by decide)
                          have e5_Fb : Fb 5 = Fa 5 := hfrt 5 (by decide) (by decide) (by decide) (by decide) (by decide) (by decide)
                          have e15_Fb : Fb 15 = Fa 15 := hfrt 15 (by decide) (by decide) (by decide) (by decide) (by decide) (by decide)
                          have e44_Fb : Fb 44 = Fa 44 := hfrt 44 (by decide) (by decide) (by decide) (by decide) (by decide) (by decide)
                          have e45_Fb : Fb 45 = Fa 45 := hfrt 45 (by decide) (by decide) (by decide) (by decide) (by decide) (by decide)
                          have e46_Fb : Fb 46 = Fa 46 := hfrt 46 (by decide) (by decide) (by decide) (by decide) (by decide) (by decide)
                          have e47_Fb : Fb 47 = Fa 47 := hfrt 47 (by decide) (by decide) (by decide) (by decide) (by decide) (by decide)
                          have e48_Fb : Fb 48 = 1 := hfrt 48 (by decide) (by decide) (by decide) (by decide) (by decide) (by decide)
                          refine zg_blk pok2 X 3 [0] (S' := (272, [(4, zI (Fa 14)), (3, zI 7), (2, zI 0), (1, zI 0), (0, zR (m 0))], [zI 2, zI (Fb 11)], ((rW m Fb B SS HH NR RV) ++ (qW m RD ST)))) rfl ⟨rfl, trivial⟩ ?_
                          refine zg_icmp X 281 rfl rfl (by first | (unfold zin; omega) | (have h9 := hA1.2.1.t11; unfold zin; omega) | (have h8 := hA1.2.1.sg14 (by omega); unfold zin; omega) | (have h9 := hA2.2.1.t11; unfold zin; omega)) (by first | (unfold zin; omega) | (have h9 := hA1.2.1.t11; unfold zin; omega) | (have h8 := hA1.2.1.sg14 (by omega); unfold zin; omega) | (have h9 := hA2.2.1.t11; unfold zin; omega)) (fun g13 => ?_) (fun g13 => ?_)
                          · simp only [x_cnd] at g13
                            have hy3 : K (j + 2) = 3 := hA2.2.1.num.1.mp (by omega)
                            have hv3 := hA2.2.1.num.2 hy3
                            refine zg_blk pok2 X 5 [0] (S' := (289, [(4, zI (Fa 14)), (3, zI 7), (2, zI 0), (1, zI 0), (0, zR (m 0))], [zI (Fb 14), zI (Fa 14), zI 7, zR (m 0)], ((rW m Fb B SS HH NR RV) ++ (qW m RD ST)))) rfl ⟨rfl, trivial⟩ ?_
                            refine zg_callV pok2 EWX_ok X 0 (vas := [zI 7, zI (Fa 14), zI (Fb 14)]) (vr := []) (Y1 := ((rW m Fb B SS HH NR RV) ++ (qW m RD ST))) (Y2 := []) rfl rfl (Or.inl rfl) zj_X12_code rfl rfl rfl rfl (Nat.le_of_ble_eq_true rfl) rfl (zr_code (F := Fb) (show 0 ≤ (Fb 44) ∧ (Fb 44) ≤ 45 by omega)) ⟨by decide, by decide, by decide, by decide⟩ (fun z9 Y9 hz => ?_)
                            obtain ⟨rfl, RDb, rfl⟩ := hz
                            refine zg_cv (S2 := (292, [(4, zI (Fa 14)), (3, zI 7), (2, zI 0), (1, zI 0), (0, zR (m 0))], [], ((rW m (zup Fb 44 ((Fb 44) + 1)) B SS HH NR RV) ++ (qW m RDb ST)))) rfl ?_
                            refine zg_blk pok2 X 1 [] (S' := (293, [(4, zI (Fa 14)), (3, zI 7), (2, zI 0), (1, zI 0), (0, zR (m 0))], [zR (m 0)], ((rW m (zup Fb 44 ((Fb 44) + 1)) B SS HH NR RV) ++ (qW m RDb ST)))) rfl trivial ?_
                            have hj3 : j + 3 ≤ k := hH2.len hj2 (by omega) (by omega)
                            refine zg_callV pok2 EWX_ok X 0 (vas := []) (vr := []) (Y1 := (rW m (zup Fb 44 ((Fb 44) + 1)) B SS HH NR RV)) (Y2 := (qW m RDb ST)) rfl rfl (Or.inl rfl) zj_X12_next rfl rfl rfl rfl (Nat.le_of_ble_eq_true rfl) rfl (zr_next (F := (zup Fb 44 ((Fb 44) + 1))) hH2.1 hH2.2.1 (by have e4 := hA2.2.2 (by omega) (by omega); have hp := hH2.2.2.2.1.2.2.2.2.2 ((j + 2) + 1) hj3; show 0 ≤ Fb 4 ∧ Fb 4 ≤ Fb 3; omega) (by have h9 := hH2.2.2.1; show 0 ≤ Fb 5 ∧ Fb 5 ≤ 1000; omega)) ⟨by decide, by decide, by decide, by decide⟩ (fun z9 Y9 hz => ?_)
                            obtain ⟨rfl, Fc, rfl, hrt, hfrt⟩ := hz
                            have hA3 : rAt P K S V Fc (j + 3) := rnext_ok (F := (zup Fb 44 ((Fb 44) + 1))) (j := (j + 2)) hH2 hA2 hj3 (by omega) (by omega) hrt
                            have hH3 : RH B P K S V RV k Fc := RH.fr2 hH2 (show Fc 3 = Fb 3 from hfrt.fr4.1) (show Fc 5 = Fb 5 from hfrt.fr4.2.1)
                            have e3_Fc : Fc 3 = Fb 3 := hfrt 3 (by decide) (by decide) (by decide) (by decide) (by decide) (by decide)
                            have e5_Fc : Fc 5 = Fb 5 := hfrt 5 (by decide) (by decide) (by decide) (by decide) (by decide) (by decide)
                            have e15_Fc : Fc 15 = Fb 15 := hfrt 15 (by decide) (by decide) (by decide) (by decide) (by decide) (by decide)
                            have e44_Fc : Fc 44 = (Fb 44) + 1 := hfrt 44 (by decide) (by decide) (by decide) (by decide) (by decide) (by decide)
                            have e45_Fc : Fc 45 = Fb 45 := hfrt 45 (by decide) (by decide) (by decide) (by decide) (by decide) (by decide)
                            have e46_Fc : Fc 46 = Fb 46 := hfrt 46 (by decide) (by decide) (by decide) (by decide) (by decide) (by decide)
                            have e47_Fc : Fc 47 = Fb 47 := hfrt 47 (by decide) (by decide) (by decide) (by decide) (by decide) (by decide)
                            have e48_Fc : Fc 48 = Fb 48 := hfrt 48 (by decide) (by decide) (by decide) (by decide) (by decide) (by decide)
                            refine zg_blk pok2 X 1 [] (S' := (297, [(4, zI (Fa 14)), (3, zI 7), (2, zI 0), (1, zI 0), (0, zR (m 0))], [zI 1], ((rW m Fc B SS HH NR RV) ++ (qW m RDb ST)))) rfl trivial ?_
                            refine zg_retb X hR rfl rfl (by decide) (by decide) (by first | exact Or.inl rfl | exact Or.inr rfl) ?_
                            refine ⟨_, _, _, rfl, ?_⟩
                            have e2 : nmF K V 0 999 (j + 2) = 0 := by
                              unfold nmF
                              rw [if_pos hy3, if_pos (by omega)]
                            have e1 : sLeaf K V CN NM j = (0, j + 3) := by
                              unfold sLeaf
                              rw [if_neg (by omega), if_neg (by omega), if_neg (by omega), if_neg (by omega), if_pos hyc, e2]
                              rfl
                            refine Or.inl ?_
                            unfold sOp
                            rw [if_neg (by omega), if_neg (by omega), if_neg (by omega), if_neg (by omega)]
                            rw [e1]
                            try dsimp only
                            exact ⟨rfl, rfl, hA3, hj3, ⟨⟨by show (Fc 46) = _; omega, hs, by show (Fc 47) = _; omega, hdp, by show 0 ≤ (Fc 44); omega, rfl, by show (Fc 44) + (Fc 46) ≤ 40; omega⟩, by show (Fc 45) = _; omega, by omega, by show (Fc 48) = _; omega, by show (Fc 44) + (Fc 46) + _ ≤ _; omega, by show (Fc 15) = _; omega⟩, by show Fc 3 = F 3; omega, by show Fc 5 = F 5; omega⟩
                          · simp only [x_ncd] at g13
                            refine zg_blk pok2 X 2 [] (S' := (277, [(4, zI (Fa 14)), (3, zI 7), (2, zI 0), (1, zI 0), (0, zR (m 0))], [zI 1, zR (m 0)], ((rW m Fb B SS HH NR RV) ++ (qW m RD ST)))) rfl trivial ?_
                            refine zg_callV pok2 EWX_ok X 0 (vas := [zI 1]) (vr := []) (Y1 := (rW m Fb B SS HH NR RV)) (Y2 := (qW m RD ST)) rfl rfl (Or.inl rfl) zj_X12_bad rfl rfl rfl rfl (Nat.le_of_ble_eq_true rfl) rfl (zr_bad (F := Fb)) ⟨by decide, by decide, by decide, by decide⟩ (fun z9 Y9 hz => ?_)
                            obtain ⟨rfl, rfl⟩ := hz
                            refine zg_retb X hR rfl rfl (by decide) (by decide) (by first | exact Or.inl rfl | exact Or.inr rfl) ?_
                            refine ⟨_, _, _, rfl, ?_⟩
                            have hn3 : ¬ K (j + 2) = 3 := fun h => by have h9 := hA2.2.1.num.1.mpr h; omega
                            have e2 : nmF K V 0 999 (j + 2) = 1 := by
                              unfold nmF
                              rw [if_neg hn3]
                            have e1 : sLeaf K V CN NM j = (1, j + 2) := by
                              unfold sLeaf
                              rw [if_neg (by omega), if_neg (by omega), if_neg (by omega), if_neg (by omega), if_pos hyc, e2]
                              rfl
                            refine Or.inr ?_
                            unfold sOp
                            rw [if_neg (by omega), if_neg (by omega), if_neg (by omega), if_neg (by omega)]
                            rw [e1]
                            exact ⟨show ¬ (1 : Int) = 0 by decide, rfl, rfl, hA2.1⟩
                        · simp only [x_ncd] at g12
                          refine zg_blk pok2 X 2 [] (S' := (253, [(3, zI 7), (2, zI 0), (1, zI 0), (0, zR (m 0))], [zI 1, zR (m 0)], ((rW m (zup Fa 48 1) B SS HH NR RV) ++ (qW m RD ST)))) rfl trivial ?_
                          refine zg_callV pok2 EWX_ok X 0 (vas := [zI 1]) (vr := []) (Y1 := (rW m (zup Fa 48 1) B SS HH NR RV)) (Y2 := (qW m RD ST)) rfl rfl (Or.inl rfl) zj_X12_bad rfl rfl rfl rfl (Nat.le_of_ble_eq_true rfl) rfl (zr_bad (F := (zup Fa 48 1))) ⟨by decide, by decide, by decide, by decide⟩ (fun z9 Y9 hz => ?_)
                          obtain ⟨rfl, rfl⟩ := hz
                          refine zg_retb X hR rfl rfl (by decide) (by decide) (by first | exact Or.inl rfl | exact Or.inr rfl) ?_
                          refine ⟨_, _, _, rfl, ?_⟩
                          have hnc : ¬ (K (j + 1) = 60 ∨ K (j + 1) = 61 ∨ K (j + 1) = 62) := fun h => by have h9 := hA1.2.1.cmp.mpr h; omega
                          have e1 : sLeaf K V CN NM j = (1, j + 1) := by
                            unfold sLeaf
                            rw [if_neg (by omega), if_neg (by omega), if_neg (by omega), if_neg (by omega), if_neg hnc]
                          refine Or.inr ?_
                          unfold sOp
                          rw [if_neg (by omega), if_neg (by omega), if_neg (by omega), if_neg (by omega)]
                          rw [e1]
                          exact ⟨show ¬ (1 : Int) = 0 by decide, rfl, rfl, hA1.1⟩
                  · exact absurd (show (7 : Int) < (5 : Int) from g9) (by decide)
                · exact absurd (show (7 : Int) < (2 : Int) from g8) (by decide)
              · exact absurd (show ¬ (0 : Int) = (0 : Int) from g7) (by decide)
          · simp only [x_ncd] at g5
            refine zg_blk pok2 X 2 [] (S' := (58, [(3, zI 7), (2, zI 0), (1, zI 0), (0, zR (m 0))], [zI 4, zR (m 0)], ((rW m F B SS HH NR RV) ++ (qW m RD ST)))) rfl trivial ?_
            refine zg_callV pok2 EWX_ok X 0 (vas := [zI 4]) (vr := []) (Y1 := (rW m F B SS HH NR RV)) (Y2 := (qW m RD ST)) rfl rfl (Or.inl rfl) zj_X12_bad rfl rfl rfl rfl (Nat.le_of_ble_eq_true rfl) rfl (zr_bad (F := F)) ⟨by decide, by decide, by decide, by decide⟩ (fun z9 Y9 hz => ?_)
            obtain ⟨rfl, rfl⟩ := hz
            refine zg_retb X hR rfl rfl (by decide) (by decide) (by first | exact Or.inl rfl | exact Or.inr rfl) ?_
            refine ⟨_, _, _, rfl, ?_⟩
            refine Or.inr ?_
            unfold sOp
            rw [if_neg (by omega), if_pos (by omega)]
            exact ⟨show ¬ (4 : Int) = 0 by decide, rfl, rfl, hA0.1⟩
      · exact absurd (show (7 : Int) < (0 : Int) from g3) (by decide)
set_option maxRecDepth 4000 in
theorem zr_operand (hH : RH B P K S V RV k F) (hA : rAt P K S V F j) (hj : j ≤ k) (hRR : RK SS NR CN NM) (hI : INV CN NM x) (hRZ : ∀ q, zin64 (RV q)) (hQ : RQ F ST st d o 0) : ZMet (EWX xs) D cy l ex mt2_X12_operand (2, 0, 0, 45) (rW m F B SS HH NR RV ++ qW m RD ST) [zR (m 0)] (fun z Y => ∃ F9 RD9 ST9, Y = (rW m F9 B SS HH NR RV ++ qW m RD9 ST9) ∧ oM P K S V F F9 ST9 k z (sOp K V CN NM st d j o)) := by
  obtain ⟨mok, tok, ow⟩ := pok2.1 _ _ zj_X12_operand
  refine met_ofz EWX_ok mok tok ow (Nat.le_of_ble_eq_true rfl) (fun r p0 e0 s0 m0 ar0 be0 me0 c0 A0 Q0 X hR => ?_)
  have hA0 := hA
  refine zg_blk pok2 X 2 [0] (S' := (4, [(0, zR (m 0))], [zL 7237492, zR (m 0)], ((rW m F B SS HH NR RV) ++ (qW m RD ST)))) rfl trivial ?_
  refine zg_callV pok2 EWX_ok X 0 (vas := [zL 7237492]) (vr := []) (Y1 := (rW m F B SS HH NR RV)) (Y2 := (qW m RD ST)) rfl rfl (Or.inl rfl) zj_X12_isWord rfl rfl rfl rfl (Nat.le_of_ble_eq_true rfl) rfl (zr_isWord (w := 20) (F := F) (j := j) (by omega) hA0) ⟨by decide, by decide, by decide, by decide⟩ (fun z9 Y9 hz => ?_)
  rcases hz with ⟨hw20, rfl, rfl⟩ | ⟨hw20, rfl, rfl⟩
  · have hw20 : K j = 2 ∧ V j = 20 := hw20
    refine zg_blk pok2 X 3 [] (S' := (11, [(1, zI 1), (0, zR (m 0))], [zI 40, zR (m 0)], ((rW m F B SS HH NR RV) ++ (qW m RD ST)))) rfl trivial ?_
    refine zg_callV pok2 EWX_ok X 0 (vas := [zI 40]) (vr := []) (Y1 := (rW m F B SS HH NR RV)) (Y2 := (qW m RD ST)) rfl rfl (Or.inl rfl) zj_X12_isSign rfl rfl rfl rfl (Nat.le_of_ble_eq_true rfl) rfl (zr_isSign (z1 := 40) (F := F) (j := j) (by omega) hA0) ⟨by decide, by decide, by decide, by decide⟩ (fun z9 Y9 hz => ?_)
    rcases hz with ⟨hs9, rfl, rfl⟩ | ⟨hs9, rfl, rfl⟩
    · exfalso
      omega
    · refine zg_blk pok2 X 2 [] (S' := (16, [(2, zI 0), (1, zI 1), (0, zR (m 0))], [zR (m 0)], ((rW m F B SS HH NR RV) ++ (qW m RD ST)))) rfl trivial ?_
      refine zg_callV pok2 EWX_ok X 0 (vas := []) (vr := []) (Y1 := (rW m F B SS HH NR RV)) (Y2 := (qW m RD ST)) rfl rfl (Or.inl rfl) zj_X12_leafOf rfl rfl rfl rfl (Nat.le_of_ble_eq_true rfl) rfl (zr_leafOf (F := F) hA0) ⟨by decide, by decide, by decide, by decide⟩ (fun z9 Y9 hz => ?_)
      rcases hz with ⟨hlf, rfl, rfl⟩ | ⟨hlf, rfl, rfl⟩ | ⟨hlf, rfl, rfl⟩ | ⟨hlf, rfl, rfl⟩ | ⟨hlf, rfl, rfl⟩ | ⟨hlf, rfl, rfl⟩ | ⟨hlf, rfl, rfl⟩ | ⟨hlf, rfl, rfl⟩ | ⟨hlf, rfl, rfl⟩
      · exfalso
        omega
      · exfalso
        omega
      · exfalso
        omega
      · exfalso
        omega
      · exfalso
        omega
      · exfalso
        omega
      · exfalso
        omega
      · exfalso
        omega
      · refine zg_blk pok2 X 1 [] (S' := (20, [(3, zI (-1)), (2, zI 0), (1, zI 1), (0, zR (m 0))], [], ((rW m F B SS HH NR RV) ++ (qW m RD ST)))) rfl trivial ?_
        exact zr_opTn hH hA hj hRR hI hRZ hQ (by omega) X hR
  · have hw20 : ¬ (K j = 2 ∧ V j = 20) := hw20
    refine zg_blk pok2 X 3 [] (S' := (11, [(1, zI 0), (0, zR (m 0))], [zI 40, zR (m 0)], ((rW m F B SS HH NR RV) ++ (qW m RD ST)))) rfl trivial ?_
    refine zg_callV pok2 EWX_ok X 0 (vas := [zI 40]) (vr := []) (Y1 := (rW m F B SS HH NR RV)) (Y2 := (qW m RD ST)) rfl rfl (Or.inl rfl) zj_X12_isSign rfl rfl rfl rfl (Nat.le_of_ble_eq_true rfl) rfl (zr_isSign (z1 := 40) (F := F) (j := j) (by omega) hA0) ⟨by decide, by decide, by decide, by decide⟩ (fun z9 Y9 hz => ?_)
    rcases hz with ⟨hs9, rfl, rfl⟩ | ⟨hs9, rfl, rfl⟩
    · refine zg_blk pok2 X 2 [] (S' := (16, [(2, zI 1), (1, zI 0), (0, zR (m 0))], [zR (m 0)], ((rW m F B SS HH NR RV) ++ (qW m RD ST)))) rfl trivial ?_
      refine zg_callV pok2 EWX_ok X 0 (vas := []) (vr := []) (Y1 := (rW m F B SS HH NR RV)) (Y2 := (qW m RD ST)) rfl rfl (Or.inl rfl) zj_X12_leafOf rfl rfl rfl rfl (Nat.le_of_ble_eq_true rfl) rfl (zr_leafOf (F := F) hA0) ⟨by decide, by decide, by decide, by decide⟩ (fun z9 Y9 hz => ?_)
      rcases hz with ⟨hlf, rfl, rfl⟩ | ⟨hlf, rfl, rfl⟩ | ⟨hlf, rfl, rfl⟩ | ⟨hlf, rfl, rfl⟩ | ⟨hlf, rfl, rfl⟩ | ⟨hlf, rfl, rfl⟩ | ⟨hlf, rfl, rfl⟩ | ⟨hlf, rfl, rfl⟩ | ⟨hlf, rfl, rfl⟩
      · exfalso
        omega
      · exfalso
        omega
      · exfalso
        omega
      · exfalso
        omega
      · exfalso
        omega
      · exfalso
        omega
      · exfalso
        omega
      · exfalso
        omega
      · refine zg_blk pok2 X 1 [] (S' := (20, [(3, zI (-1)), (2, zI 1), (1, zI 0), (0, zR (m 0))], [], ((rW m F B SS HH NR RV) ++ (qW m RD ST)))) rfl trivial ?_
        exact zr_opTo hH hA hj hRR hI hRZ hQ (by omega) X hR
    · refine zg_blk pok2 X 2 [] (S' := (16, [(2, zI 0), (1, zI 0), (0, zR (m 0))], [zR (m 0)], ((rW m F B SS HH NR RV) ++ (qW m RD ST)))) rfl trivial ?_
      refine zg_callV pok2 EWX_ok X 0 (vas := []) (vr := []) (Y1 := (rW m F B SS HH NR RV)) (Y2 := (qW m RD ST)) rfl rfl (Or.inl rfl) zj_X12_leafOf rfl rfl rfl rfl (Nat.le_of_ble_eq_true rfl) rfl (zr_leafOf (F := F) hA0) ⟨by decide, by decide, by decide, by decide⟩ (fun z9 Y9 hz => ?_)
      rcases hz with ⟨hlf, rfl, rfl⟩ | ⟨hlf, rfl, rfl⟩ | ⟨hlf, rfl, rfl⟩ | ⟨hlf, rfl, rfl⟩ | ⟨hlf, rfl, rfl⟩ | ⟨hlf, rfl, rfl⟩ | ⟨hlf, rfl, rfl⟩ | ⟨hlf, rfl, rfl⟩ | ⟨hlf, rfl, rfl⟩
      · refine zg_blk pok2 X 1 [] (S' := (20, [(3, zI 0), (2, zI 0), (1, zI 0), (0, zR (m 0))], [], ((rW m F B SS HH NR RV) ++ (qW m RD ST)))) rfl trivial ?_
        exact zr_opT0 hH hA hj hRR hI hRZ hQ (by omega) X hR
      · refine zg_blk pok2 X 1 [] (S' := (20, [(3, zI 1), (2, zI 0), (1, zI 0), (0, zR (m 0))], [], ((rW m F B SS HH NR RV) ++ (qW m RD ST)))) rfl trivial ?_
        exact zr_opT1 hH hA hj hRR hI hRZ hQ (by omega) X hR
      · refine zg_blk pok2 X 1 [] (S' := (20, [(3, zI 2), (2, zI 0), (1, zI 0), (0, zR (m 0))], [], ((rW m F B SS HH NR RV) ++ (qW m RD ST)))) rfl trivial ?_
        exact zr_opT2 hH hA hj hRR hI hRZ hQ (by omega) X hR
      · refine zg_blk pok2 X 1 [] (S' := (20, [(3, zI 3), (2, zI 0), (1, zI 0), (0, zR (m 0))], [], ((rW m F B SS HH NR RV) ++ (qW m RD ST)))) rfl trivial ?_
        exact zr_opT3 hH hA hj hRR hI hRZ hQ (by omega) X hR
      · refine zg_blk pok2 X 1 [] (S' := (20, [(3, zI 4), (2, zI 0), (1, zI 0), (0, zR (m 0))], [], ((rW m F B SS HH NR RV) ++ (qW m RD ST)))) rfl trivial ?_
        exact zr_opT4 hH hA hj hRR hI hRZ hQ (by omega) X hR
      · refine zg_blk pok2 X 1 [] (S' := (20, [(3, zI 5), (2, zI 0), (1, zI 0), (0, zR (m 0))], [], ((rW m F B SS HH NR RV) ++ (qW m RD ST)))) rfl trivial ?_
        exact zr_opT5 hH hA hj hRR hI hRZ hQ (by omega) X hR
      · refine zg_blk pok2 X 1 [] (S' := (20, [(3, zI 6), (2, zI 0), (1, zI 0), (0, zR (m 0))], [], ((rW m F B SS HH NR RV) ++ (qW m RD ST)))) rfl trivial ?_
        exact zr_opT6 hH hA hj hRR hI hRZ hQ (by omega) X hR
      · refine zg_blk pok2 X 1 [] (S' := (20, [(3, zI 7), (2, zI 0), (1, zI 0), (0, zR (m 0))], [], ((rW m F B SS HH NR RV) ++ (qW m RD ST)))) rfl trivial ?_
        exact zr_opT7 hH hA hj hRR hI hRZ hQ (by omega) X hR
      · refine zg_blk pok2 X 1 [] (S' := (20, [(3, zI (-1)), (2, zI 0), (1, zI 0), (0, zR (m 0))], [], ((rW m F B SS HH NR RV) ++ (qW m RD ST)))) rfl trivial ?_
        exact zr_opTx hH hA hj hRR hI hRZ hQ (by omega) X hR
end RT9
