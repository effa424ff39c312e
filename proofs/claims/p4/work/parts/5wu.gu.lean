/-! the law's steps outside, with those of feed and city -/
def OXL4 (SP : List SPt) (DM : List (Nat × List Nat)) (lim : Nat) (M : MT) (wr : WR) (rm : RMt) (S : SB) (ins : Instr) (len : Nat) : Option (List SB) := match ins with
  | .iaload => ox_scr S ins len
  | .invokestatic _ => ox_hlp M wr rm S ins len
  | .invokevirtual _ => ox_ext SP DM lim M wr rm S ins len
  | _ => none
section GU1
variable {xs : Nat → Int32} {D : va_G} {cy : Nat → ClassId} {I0 : IN} {ks0 : List Nat} {wp0 : va_W} {wr : WR} {M : MT} {own : String}
variable {p : Program} {l : Launch} {e : Env} {R : Room} {s : State} {m : MethodId} {args : Array Value} {below : List Frame} {meth : Method} {c : Code} {A : Nat → Prop} {Q : State → Prop} {rm : RMt} {cb sb : Nat}
theorem s_ext {SP : List SPt} {DM : List (Nat × List Nat)} {lim : Nat} {S : SB} {ins : Instr} {len : Nat} {x : List SB} (hSP : ∀ (i : Nat) (sp : SPt), i < lim → SP[i]? = some sp → SPOK T2 FPX (EWX xs) D cy l PR2 sp) (X : Cx OW2 (EWX xs) D cy I0.2.2 M own p R s m args meth c A rm cb sb)
    (h : ox_ext SP DM lim M wr rm S ins len = some x) (hd : decode (mC M) S.1 = .ok (ins, len))
    (k : ∀ S' ∈ x, Sf T2 FPX D cy I0 ks0 wp0 wr M p l e R s m args below meth c A Q cb sb S') : Sf T2 FPX D cy I0 ks0 wp0 wr M p l e R s m args below meth c A Q cb sb S := by
  unfold ox_ext at h
  split at h
  · rename_i j M' as rest sp L hc
    split at h
    · rename_i hj
      have hj := beq3 hj
      subst hj
      split at h
      · rename_i q
        simp only [Bool.and_eq_true] at q
        obtain ⟨q1, q2, q3, q4, q5⟩ := q
        have q1 := bvs_eq_ok q1
        subst q1
        cases h
        exact s_feedX hSP X hc hd (rm_eq_ok q2) q3 q4 q5 k
      · cases h
    · split at h
      · rename_i hj
        have hj := beq3 hj
        subst hj
        split at h
        · rename_i q
          simp only [Bool.and_eq_true] at q
          obtain ⟨q1, q2, q3, q4⟩ := q
          have q1 := bvs_eq_ok q1
          subst q1
          cases h
          exact s_feedM hSP X hc hd (rm_eq_ok q2) q3 q4 k
        · cases h
      · split at h
        · rename_i hj
          have hj := beq3 hj
          subst hj
          split at h
          · rename_i q
            simp only [Bool.and_eq_true] at q
            obtain ⟨q1, q2, q3, q4, q5, q6⟩ := q
            have q1 := bvs_eq_ok q1
            subst q1
            exact s_city hSP X hc hd (rm_eq_ok q2) q3 q4 q5 q6 h k
          · cases h
        · cases h
  · cases h
theorem oxlok4 {SP : List SPt} {DM : List (Nat × List Nat)} {lim : Nat} (hSP : ∀ (i : Nat) (sp : SPt), i < lim → SP[i]? = some sp → SPOK T2 FPX (EWX xs) D cy l PR2 sp) (hHP : HPM xs D cy l) : OXOK (IXL xs) T2 FPX OW2 (EWX xs) D cy l (OXL4 SP DM lim) := by
  intro M wr rm S ins len x h I0 ks0 wp0 own p e R s m args below meth c A Q cb sb hI0 X hd k
  unfold OXL4 at h
  split at h
  · exact s_scr hI0 X h hd k
  · exact s_hlp hHP X h hd k
  · exact s_ext hSP X h hd k
  · cases h
end GU1
