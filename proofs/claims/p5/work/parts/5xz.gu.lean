/-! the law's steps outside, with those of feed and city -/
def ox_ext (SP : List SPt) (DM : List (Nat × List Nat)) (lim : Nat) (M : MT) (wr : WR) (rm : RMt) (S : SB) (ins : Instr) (len : Nat) : Option (List SB) := match o_call SP DM lim wr rm M S ins len with
  | some (j, _, as, rest, sp, L) => if Nat.beq j 48 = true then
      (if (bvs_eq as (bP 0 true none :: five) && (rm_eq (pR sp) (1, 0, 0, 22) && (o_off (pW sp) [25, 26] && (o_has S.2.2.2.1.2.2.2 77 [] && o_has S.2.2.2.1.2.2.2 80 [])))) = true then some (L.map (fun q => f_aftS S rest (pR sp).2.1 (pR sp).2.2.1 (o_add 84 five q))) else none)
    else if Nat.beq j 114 = true then
      (if (bvs_eq as (bP 25 true none :: five) && (rm_eq (pR sp) (1, 0, 0, 22) && (o_off (pW sp) [2] && o_has S.2.2.2.1.2.2.2 84 five))) = true then some (L.map (fun q => f_aftS S rest (pR sp).2.1 (pR sp).2.2.1 (o_add 80 [] q))) else none)
    else if Nat.beq j 39 = true then
      (if (bvs_eq as [bP 0 true none] && (rm_eq (pR sp) (11, 8, 91, 306) && (o_off (pW sp) [25, 26, 31, 8, 64, 21, 71, 78, 41, 27, 30, 42] && (o_has S.2.2.2.1.2.2.2 77 [] && (o_has S.2.2.2.1.2.2.2 80 [] && (o_has S.2.2.2.1.2.2.2 81 [] && (o_has S.2.2.2.1.2.2.2 90 [] && (o_has S.2.2.2.1.2.2.2 91 [] && (o_has S.2.2.2.1.2.2.2 94 [] && o_has S.2.2.2.1.2.2.2 95 []))))))))) = true then o_cat (ox_city2 SP DM lim wr rm M S.1 S.2.1 rest S.2.2.2.2.1 (S.2.2.2.2.2.1 + (pR sp).2.1) (S.2.2.2.2.2.2 + (pR sp).2.2.1)) L else none)
    else if Nat.beq j 72 = true then
      (if (bvs_eq as [bP 0 true none] && (rm_eq (pR sp) (28, 5, 166, 678) && (o_off (pW sp) [25, 26, 27, 30, 31] && (o_has S.2.2.2.1.2.2.2 77 [] && (o_has S.2.2.2.1.2.2.2 80 [] && (o_has S.2.2.2.1.2.2.2 81 [] && o_has S.2.2.2.1.2.2.2 90 [])))))) = true then o_cat (ox_sent5 SP DM lim wr rm M S.1 S.2.1 rest S.2.2.2.2.1 (S.2.2.2.2.2.1 + (pR sp).2.1) (S.2.2.2.2.2.2 + (pR sp).2.2.1)) L else none)
    else none
  | none => none
def OXL4 (SP : List SPt) (DM : List (Nat × List Nat)) (lim : Nat) (M : MT) (wr : WR) (rm : RMt) (S : SB) (ins : Instr) (len : Nat) : Option (List SB) := match ins with
  | .iaload => ox_scr S ins len
  | .invokestatic _ => ox_hlp M wr rm S ins len
  | .invokevirtual _ => ox_ext SP DM lim M wr rm S ins len
  | _ => none
section GU1
variable {xs : Nat → Int32} {D : va_G} {cy : Nat → ClassId} {I0 : IN} {ks0 : List Nat} {wp0 : va_W} {wr : WR} {M : MT} {own : String}
variable {p : Program} {l : Launch} {e : Env} {R : Room} {s : State} {m : MethodId} {args : Array Value} {below : List Frame} {meth : Method} {c : Code} {A : Nat → Prop} {Q : State → Prop} {rm : RMt} {cb sb : Nat}
theorem s_ext {SP : List SPt} {DM : List (Nat × List Nat)} {lim : Nat} {S : SB} {ins : Instr} {len : Nat} {x : List SB} (hSP : ∀ (i : Nat) (sp : SPt), i < lim → SP[i]? = some sp → SPOK T2 FPX (EWX xs) D cy l PR2 sp) (X : Cx OW2 (EWX xs) D cy I0.2.2 M own p R s m args meth c A rm cb sb)
    (h : ox_ext SP DM lim M wr rm S ins len = some x) (hd : decode (mC M) S.1 = .ok (ins, len))
    (k : ∀ S' ∈ x, Sf T2 FPX D cy I0 ks0 wp0 wr M p l e R s m args below meth c A Q cb sb S') : Sf T2 FPX D cy I0 ks0 wp0 wr M p l e R s m args below meth c A Q cb sb S := by
  unfold ox_ext at h
  split at h
  · rename_i j M' as rest sp L hc
    split at h
    · rename_i hj
      have hj := beq3 hj
      subst hj
      split at h
      · rename_i q
        simp only [Bool.and_eq_true] at q
        obtain ⟨q1, q2, q3, q4, q5⟩ := q
        have q1 := bvs_eq_ok q1
        subst q1
        cases h
        exact s_feedX hSP X hc hd (rm_eq_ok q2) q3 q4 q5 k
      · cases h
    · split at h
      · rename_i hj
        have hj := beq3 hj
        subst hj
        split at h
        · rename_i q
          simp only [Bool.and_eq_true] at q
          obtain ⟨q1, q2, q3, q4⟩ := q
          have q1 := bvs_eq_ok q1
          subst q1
          cases h
          exact s_feedM hSP X hc hd (rm_eq_ok q2) q3 q4 k
        · cases h
      · split at h
        · rename_i hj
          have hj := beq3 hj
          subst hj
          split at h
          · rename_i q
            simp only [Bool.and_eq_true] at q
            obtain ⟨q1, q2, q3, q4, q5, q6, q7, q8, q9, q10⟩ := q
            have q1 := bvs_eq_ok q1
            subst q1
            exact s_city hSP X hc hd (rm_eq_ok q2) q3 q4 q5 q6 q7 q8 q9 q10 h k
          · cases h
        · split at h
          · rename_i hj
            have hj := beq3 hj
            subst hj
            split at h
            · rename_i q
              simp only [Bool.and_eq_true] at q
              obtain ⟨q1, q2, q3, q4, q5, q6, q7⟩ := q
              have q1 := bvs_eq_ok q1
              subst q1
              exact s_sent hSP X hc hd (rm_eq_ok q2) q3 q4 q5 q6 q7 h k
            · cases h
          · cases h
  · cases h
theorem oxlok4 {SP : List SPt} {DM : List (Nat × List Nat)} {lim : Nat} (hSP : ∀ (i : Nat) (sp : SPt), i < lim → SP[i]? = some sp → SPOK T2 FPX (EWX xs) D cy l PR2 sp) (hHP : HPM xs D cy l) : OXOK (IXL xs) T2 FPX OW2 (EWX xs) D cy l (OXL4 SP DM lim) := by
  intro M wr rm S ins len x h I0 ks0 wp0 own p e R s m args below meth c A Q cb sb hI0 X hd k
  unfold OXL4 at h
  split at h
  · exact s_scr hI0 X h hd k
  · exact s_hlp hHP X h hd k
  · exact s_ext hSP X h hd k
  · cases h
end GU1
