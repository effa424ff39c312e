/-! all steps outside of a book's reading, together; hooks 177, 178 -/
def o_f1 : List SFt → Nat → Option BV
  | [], _ => none
  | (i, as) :: r, id => if Nat.beq i id = true then as.head? else o_f1 r id
def ox_bkB (SP : List SPt) (DM : List (Nat × List Nat)) (lim : Nat) (wr : WR) (rm : RMt) (M : MT) (S : SB) (ins : Instr) (len : Nat) : Option (List SB) := match o_call SP DM lim wr rm M S ins len with
  | some (j, _, as, rest, sp, L) =>
    if Nat.beq j 23 = true then (match f_cf S.2.2.2.1.2.2.1 1 none (bI 1) with
      | some a => if (bvs_eq as [bP 3 true none, bI 400] && (rm_eq (pR sp) (10, 0, 0, 283) && (o_off (pW sp) [2, 26] && (o_has S.2.2.2.1.2.2.2 80 [] && f_isI a)))) = true then some (L.map (fun q => f_aftS S rest (pR sp).2.1 (pR sp).2.2.1 (o_add 107 [a] q))) else none
      | none => none)
    else if Nat.beq j 11 = true then (match o_f1 S.2.2.2.1.2.2.2 107, h_pn 51 (as[2]?) with
      | some an, some kc => if (bvs_eq as [bP 9 true none, bP 3 true none, bP 51 true (some kc)] && (rm_eq (pR sp) (5, 0, 0, 118) && (o_off (pW sp) [26, 27, 30] && (o_has S.2.2.2.1.2.2.2 101 [bV kc 0] && o_has S.2.2.2.1.2.2.2 107 [an])))) = true then
          o_cat (fun q => match f_cf q.2.2.2.1 3 none (bI 9) with | some b => if f_isI b = true then some [f_aftS S rest (pR sp).2.1 (pR sp).2.2.1 (o_add 108 [an, b] q)] else none | none => none) L else none
      | _, _ => none)
    else if Nat.beq j 161 = true then (match o_f2 S.2.2.2.1.2.2.2 108 with
      | some (an, af) => (match f_cf S.2.2.2.1.2.2.1 25 none (bI 3), f_cf S.2.2.2.1.2.2.1 25 none (bI 4), f_cf S.2.2.2.1.2.2.1 25 none (bI 5), f_cf S.2.2.2.1.2.2.1 25 none (bI 15) with
        | some c3, some c4, some c5, some c15 => if (bvs_eq as [bP 25 true none] && (rm_eq (pR sp) (1, 0, 0, 20) && (o_off (pW sp) [26, 27, 30] && (o_has S.2.2.2.1.2.2.2 108 [an, af] && (bv_eq c3 an && (f_isI an && (bv_eq c4 (bI 0) && (bv_eq c5 (bI 400) && bv_eq c15 (bI 0))))))))) = true then some (L.map (fun q => f_aftS S rest (pR sp).2.1 (pR sp).2.2.1 (o_add 109 [af, bI 0] q))) else none
        | _, _, _, _ => none)
      | none => none)
    else if Nat.beq j 93 = true then (match o_f2 S.2.2.2.1.2.2.2 109, f_cf S.2.2.2.1.2.2.1 25 none (bI 40), f_cf S.2.2.2.1.2.2.1 25 none (bI 11) with
      | some (af, at_), some c40, some ak => if (bvs_eq as [bP 25 true none] && (rm_eq (pR sp) (3, 0, 0, 68) && (o_off (pW sp) [26, 27, 30, 31] && (o_has S.2.2.2.1.2.2.2 109 [af, at_] && (o_has S.2.2.2.1.2.2.2 81 [] && (bv_eq c40 at_ && (f_isI at_ && (f_isI ak && (h_in S.2.2.2.1.2.1 (some ak) 1 4 && (f_isI af && h_in S.2.2.2.1.2.1 (some af) 0 4)))))))))) = true then o_cat (bk_out S rest (pR sp).2.1 (pR sp).2.2.1 af 110 [af, at_]) L else none
      | _, _, _ => none)
    else if Nat.beq j 191 = true then (match o_f2 S.2.2.2.1.2.2.2 110 with
      | some (af, at_) => if (bvs_eq as [bP 25 true none, bI 59] && (rm_eq (pR sp) (2, 0, 0, 43) && (o_off (pW sp) [26, 27, 30, 31] && (o_has S.2.2.2.1.2.2.2 110 [af, at_] && (o_has S.2.2.2.1.2.2.2 81 [] && (f_isI af && h_in S.2.2.2.1.2.1 (some af) 0 4)))))) = true then o_cat (bk_out S rest (pR sp).2.1 (pR sp).2.2.1 af 109 [af, f_off at_ 1]) L else none
      | none => none)
    else none
  | none => none
section OB1
variable {xs : Nat → Int32} {D : va_G} {cy : Nat → ClassId} {I0 : IN} {ks0 : List Nat} {wp0 : va_W} {wr : WR} {M : MT} {own : String}
variable {p : Program} {l : Launch} {e : Env} {R : Room} {s : State} {m : MethodId} {args : Array Value} {below : List Frame} {meth : Method} {c : Code} {A : Nat → Prop} {Q : State → Prop} {rm : RMt} {cb sb : Nat}
theorem s_bk (E107 : ∀ (cu : CUt) (zs : List Int), FPX 107 cu zs ↔ ∃ n, zs = [n] ∧ f107 cu n) (E108 : ∀ (cu : CUt) (zs : List Int), FPX 108 cu zs ↔ ∃ n f, zs = [n, f] ∧ b108 (cB cu) (cS cu) (cN cu) f n) (E109 : ∀ (cu : CUt) (zs : List Int), FPX 109 cu zs ↔ ∃ f t, zs = [f, t] ∧ f109 cu f t) (E110 : ∀ (cu : CUt) (zs : List Int), FPX 110 cu zs ↔ ∃ f t, zs = [f, t] ∧ f110 cu f t)
    {SP : List SPt} {DM : List (Nat × List Nat)} {lim : Nat} {S : SB} {ins : Instr} {len : Nat} {y : List SB} (hSP : ∀ (i : Nat) (sp : SPt), i < lim → SP[i]? = some sp → SPOK T2 FPX (EWX xs) D cy l PR2 sp) (X : Cx OW2 (EWX xs) D cy I0.2.2 M own p R s m args meth c A rm cb sb)
    (h : ox_bkB SP DM lim wr rm M S ins len = some y) (hd : decode (mC M) S.1 = .ok (ins, len))
    (k : ∀ S' ∈ y, Sf T2 FPX D cy I0 ks0 wp0 wr M p l e R s m args below meth c A Q cb sb S') : Sf T2 FPX D cy I0 ks0 wp0 wr M p l e R s m args below meth c A Q cb sb S := by
  unfold ox_bkB at h
  split at h
  · rename_i j M' as rest sp L hc
    split at h
    · rename_i hj
      have hj := beq3 hj
      subst hj
      split at h
      · rename_i a ha
        split at h
        · rename_i q
          simp only [Bool.and_eq_true] at q
          obtain ⟨q1, q2, q3, q4, q5⟩ := q
          have q1 := bvs_eq_ok q1
          subst q1
          cases h
          exact s_openB E107 hSP X hc hd (rm_eq_ok q2) q3 q4 ha q5 k
        · cases h
      · cases h
    · split at h
      · rename_i hj
        have hj := beq3 hj
        subst hj
        split at h
        · rename_i an kc h1 h2
          split at h
          · rename_i q
            simp only [Bool.and_eq_true] at q
            obtain ⟨q1, q2, q3, q4, q5⟩ := q
            have q1 := bvs_eq_ok q1
            subst q1
            exact s_readB E107 E108 hSP X hc hd (rm_eq_ok q2) q3 q4 q5 h k
          · cases h
        · cases h
      · split at h
        · rename_i hj
          have hj := beq3 hj
          subst hj
          split at h
          · rename_i an af h1
            split at h
            · rename_i c3 c4 c5 c15 e3 e4 e5 e15
              split at h
              · rename_i q
                simp only [Bool.and_eq_true] at q
                obtain ⟨q1, q2, q3, q4, q5, q6, q7, q8, q9⟩ := q
                have q1 := bvs_eq_ok q1
                subst q1
                have q5 := bv_eq_ok q5
                have q7 := bv_eq_ok q7
                have q8 := bv_eq_ok q8
                have q9 := bv_eq_ok q9
                subst q5
                subst q7
                subst q8
                subst q9
                cases h
                exact s_nextB E108 E109 hSP X hc hd (rm_eq_ok q2) q3 q4 e3 q6 e4 e5 e15 k
              · cases h
            · cases h
          · cases h
        · split at h
          · rename_i hj
            have hj := beq3 hj
            subst hj
            split at h
            · rename_i af at_ c40 ak h1 e40 e11
              split at h
              · rename_i q
                simp only [Bool.and_eq_true] at q
                obtain ⟨q1, q2, q3, q4, q5, q6, q7, q8, q9, q10, q11⟩ := q
                have q1 := bvs_eq_ok q1
                subst q1
                have q6 := bv_eq_ok q6
                subst q6
                exact s_lineB E109 E110 hSP X hc hd (rm_eq_ok q2) q3 q4 q5 q10 q11 e40 q7 e11 q8 q9 h k
              · cases h
            · cases h
          · split at h
            · rename_i hj
              have hj := beq3 hj
              subst hj
              split at h
              · rename_i af at_ h1
                split at h
                · rename_i q
                  simp only [Bool.and_eq_true] at q
                  obtain ⟨q1, q2, q3, q4, q5, q6, q7⟩ := q
                  have q1 := bvs_eq_ok q1
                  subst q1
                  exact s_signB E109 E110 hSP X hc hd (rm_eq_ok q2) q3 q4 q5 q6 q7 (f_off at_ 1) (fun ν z hz => ev_off hz) h k
                · cases h
              · cases h
            · cases h
  · cases h
end OB1
/-- all steps outside, of p5's specs -/
def OXR5 (SP : List SPt) (DM : List (Nat × List Nat)) (lim : Nat) (M : MT) (wr : WR) (rm : RMt) (S : SB) (ins : Instr) (len : Nat) : Option (List SB) := match ins with
  | .invokevirtual _ => (match ox_bkB SP DM lim wr rm M S ins len with
    | some x => some x
    | none => OXR M wr rm S ins len)
  | _ => OXR M wr rm S ins len
theorem oxrok5 (E107 : ∀ (cu : CUt) (zs : List Int), FPX 107 cu zs ↔ ∃ n, zs = [n] ∧ f107 cu n) (E108 : ∀ (cu : CUt) (zs : List Int), FPX 108 cu zs ↔ ∃ n f, zs = [n, f] ∧ b108 (cB cu) (cS cu) (cN cu) f n) (E109 : ∀ (cu : CUt) (zs : List Int), FPX 109 cu zs ↔ ∃ f t, zs = [f, t] ∧ f109 cu f t) (E110 : ∀ (cu : CUt) (zs : List Int), FPX 110 cu zs ↔ ∃ f t, zs = [f, t] ∧ f110 cu f t)
    {IX : IN → Prop} {xs : Nat → Int32} {D : va_G} {cy : Nat → ClassId} {l : Launch} {SP : List SPt} {DM : List (Nat × List Nat)} {lim : Nat} (hSP : ∀ (i : Nat) (sp : SPt), i < lim → SP[i]? = some sp → SPOK T2 FPX (EWX xs) D cy l PR2 sp) : OXOK IX T2 FPX OW2 (EWX xs) D cy l (OXR5 SP DM lim) := by
  intro M wr rm S ins len x h I0 ks0 wp0 own p e R s m args below meth c A Q cb sb hI X hd k
  unfold OXR5 at h
  split at h
  · split at h
    · rename_i x9 h9
      cases h
      exact s_bk E107 E108 E109 E110 hSP X h9 hd k
    · exact oxrok (IX := IX) M wr rm S _ len x h I0 ks0 wp0 own p e R s m args below meth c A Q cb sb hI X hd k
  · exact oxrok (IX := IX) M wr rm S _ len x h I0 ks0 wp0 own p e R s m args below meth c A Q cb sb hI X hd k
