section SOUND
variable {RT : List (List (Nat × RES))} {P : List MT} {OW : List String} {ν : Nat → Int} {b : Nat} {cy : Nat → ClassId} {pool : va_W} {D : va_G} {l : Launch} {cuts : List ST}
/-- a call: its words, its run, what is behind it -/
theorem s_call {p : Program} {e : Env} {R : Room} {s : State} {m : MethodId} {args : Array Value} {below : List Frame} {meth : Method} {c : Code} {Q : State → Prop} {A : Nat → Prop} {al0 : List Nat} {M M' : MT} {own : String} {sc : Bool} {S S' : ST} {ins : Instr} {len j : Nat} {as : List AV} {outs : List OUT}
    (hP : POK P RT OW) (X : Ctx OW D cy ν b M own p R s m args meth c A sc) (h : e_call P RT M S ins len = some (M', j, as, S')) (hd : decode (mC M) S.1 = .ok (ins, len))
    (walk : ∀ (al1 : List Nat) (p : Program) (e : Env) (s : State) (m : MethodId) (args : Array Value) (below : List Frame) (meth : Method) (c : Code) (A : Nat → Prop) (Q : State → Prop), Ctx OW D cy ν b M' (mY M').cls p (mRm M') s m args meth c A false → RetOK D cy ν b pool al1 M' p l e (mRm M') s m args below meth c A Q outs → Safe D cy ν b pool al1 M' p l e (mRm M') s m args below meth c A Q (0, e_args 0 as, [], S.2.2.2.1, S.2.2.2.2.1, 0, 0))
    (k : ∀ o ∈ outs, Safe D cy ν b pool al0 M p l e R s m args below meth c A Q (e_aft M' S' o)) : Safe D cy ν b pool al0 M p l e R s m args below meth c A Q S := by
  obtain ⟨pc, lo, st, E, C, nc, ns⟩ := S
  intro H locs ls lv vs ws a1 a2 a3 a4 a5 a6
  unfold e_call at h
  simp only at h a2 a3 a4 a5 hd walk ⊢
  split at h
  · rename_i kd i hki
    split at h
    · rename_i rk j0 z1 z2 hr
      split at h
      · rename_i M0 hj
        split at h
        · rename_i as0 rest0 htk
          split at h
          · rename_i as1 rest1 hrec
            split at h
            · rename_i q
              simp only [Bool.and_eq_true, Bool.or_eq_true] at q
              obtain ⟨q1, q2, q3, q4, q5, q6, q7, q8, q9⟩ := q
              have q2 := beq3 q2
              have q3 := beq3 q3
              have q4 := Nat.le_of_ble_eq_true q4
              have q5 := Nat.le_of_ble_eq_true q5
              have q6 := Nat.le_of_ble_eq_true q6
              have q7 := Nat.le_of_ble_eq_true q7
              have q8 := Nat.le_of_ble_eq_true q8
              have q9 := Nat.le_of_ble_eq_true q9
              cases h
              subst q3
              obtain ⟨mok, tok, ow⟩ := hP.1 _ _ hj
              have hro := e_res_ok hP X.2.2.2.1 hr
              obtain ⟨vas, vr0, rfl, hlen, g1, g2⟩ := e_take_ok _ htk a3 (show gvs ν (alw ws) b [] [] from trivial)
              rw [List.append_nil] at g1
              have hRm : R = mRm M := X.2.2.2.2.2.2.2.2.2.1
              have hx3 := X.2.2.1
              -- the words of the call
              have cb : ∀ w, w ∈ BIG → w.before args s = true := X.2.2.2.2.2.1
              have hd5 : ∀ sig, parseMethodDescriptor (mY M').desc = some sig → mA M' = sig.parameters.length := by
                intro sig hs
                have h2 := mok.2.2.2.2.1
                rw [hs] at h2
                exact (Option.some.inj h2).symm
              have fix : CallFix p m c (mC M) (mL M) s args BIG own := ⟨X.1, X.2.1, X.2.2.1, X.2.2.2.2.1, cb⟩
              have hR : (mRm M').frames + 1 ≤ R.frames ∧ 8 + (mL M' + 11) + (mRm M').locals ≤ R.locals := by rw [hRm]; exact ⟨q5, q6⟩
              have hfin : nc + mNc M' ≤ R.cells ∧ ns + mNs M' ≤ R.slots := by rw [hRm]; exact ⟨q7, q8⟩
              have cB : Cond.methodLink own i (mY M') ∈ BIG → CallB R s args own i (mY M') (mC M') (mL M') (mR M') (mW M') (mRm M') (mNc M') (mNs M') (mA M') := by
                intro hl
                exact callB_of (mA M') cb (mW_good mok) rfl rfl rfl (cb _ mok.2.2.1) (cb _ hl) ⟨mok.2.2.2.1.1, mok.2.2.2.1.2, mok.2.2.2.2.1⟩ hR
              have cN : ∀ host, Cond.methodLinkNest own i (mY M') host ∈ NST → va_CN R s args own i (mY M') host (mC M') (mL M') (mR M') (mW M') (mRm M') (mNc M') (mNs M') (mA M') := by
                intro host hl
                exact va_cnB (mA M') cb (mW_good mok) rfl rfl rfl (X.2.2.2.2.2.2.1.2.1 _ hl) (cb _ mok.2.2.1) ⟨mok.2.2.2.1.1, mok.2.2.2.1.2, mok.2.2.2.2.1⟩ hR
              have hlk : (Cond.methodLink own i (mY M') ∈ BIG) ∨ ∃ host, Cond.methodLinkNest own i (mY M') host ∈ NST := by
                rcases q1 with q1 | q1
                · have q1 := beq3 q1
                  subst q1
                  obtain ⟨M1, h1, h2⟩ := hro
                  rw [hj] at h1
                  cases h1
                  exact Or.inl h2
                · have q1 := beq3 q1
                  subst q1
                  obtain ⟨M1, host, h1, h2⟩ := hro
                  rw [hj] at h1
                  cases h1
                  exact Or.inr ⟨host, h2⟩
              have pre : ∀ (vals : List Value) (U : State), U.heap = H → s.WarmedH U.vm → PJ D cy pool ws vals H.size vals.toArray U := fun vals U hU hW => ⟨rfl, by rw [hU], by rw [hU]; exact a5.2.1, KK.warm hW X.2.2.2.2.2.2.1, a5.2.2.1.weaken (fun _ _ _ _ => trivial)⟩
              have hret9 := mok.2.2.2.2.2.2.2.2
              split at hki
              · -- static
                cases hki
                rw [if_pos (show Nat.beq 0 0 = true from rfl)] at hrec
                cases hrec
                have met := met_of (D := D) (pool := pool) (l := l) H.size mok tok ow g1 a4 a5.1 q9 (fun p e s m args below meth c A Q => walk (alw ws) p e s m args below meth c A Q)
                have hstk : (F0 m pc ls (vas ++ vr0)).stack = (vas.reverse).reverse ++ vr0 := by rw [List.reverse_reverse]
                have hW9 := lv_room (m := m) (pc := pc) (ls := ls) (rest := vas ++ vr0) (st := vr0) (by rw [cats_ok g2]; exact q4)
                have hst := mok.2.2.2.2.2.1 q2
                rcases hlk with hl | ⟨host, hl⟩
                · exact s_after X hret9 (va_runS fix met ⟨cB hl, cb _ hst⟩ ⟨pj_blind, fun U hU hW => pre _ U hU hW⟩ rfl (by rw [List.length_reverse]; exact hlen) a1.1 hstk hW9 hd hfin) a1 a2 g2 a5 a6 k
                · exact s_after X hret9 (va_runSN fix met ⟨cN host hl, cb _ hst, trivial⟩ ⟨pj_blind, fun U hU hW => pre _ U hU hW⟩ rfl (by rw [List.length_reverse]; exact hlen) a1.1 hstk hW9 hd hfin) a1 a2 g2 a5 a6 k
              · -- of an object
                cases hki
                rw [if_neg (by decide)] at hrec
                split at hrec
                · rename_i n rest2
                  split at hrec
                  · rename_i ci fs hci
                    split at hrec
                    · rename_i hci2
                      have hci2 := beq3 hci2
                      cases hrec
                      obtain ⟨v, vr, rfl, g3, g4⟩ := gvs_cons g2
                      obtain ⟨qa, gq, rfl⟩ := g3
                      have g5 : gvs ν (alw ws) b (aR n :: as0) (.ref qa :: vas.reverse) := ⟨⟨qa, gq, rfl⟩, g1⟩
                      have met := met_of (D := D) (pool := pool) (l := l) H.size mok tok ow g5 a4 a5.1 q9 (fun p e s m args below meth c A Q => walk (alw ws) p e s m args below meth c A Q)
                      have hstk : (F0 m pc ls (vas ++ .ref qa :: vr)).stack = (vas.reverse).reverse ++ .ref qa :: vr := by rw [List.reverse_reverse]
                      have hW9 := lv_room (m := m) (pc := pc) (ls := ls) (rest := vas ++ .ref qa :: vr) (st := vr) (by rw [cats_ok g4]; exact q4)
                      obtain ⟨i1, i2, r, r1, r2⟩ := mok.2.2.2.2.2.2.1 q2
                      obtain ⟨q', e', h1, h2, fvs, rfl, h3⟩ := gW_at a5.1 hci
                      rw [gq] at h2
                      cases h2
                      rw [← hci2] at r1
                      have hrecv := va_recv X.2.2.2.2.2.2.1.1 a5.2.1 r1 (pw_at h1)
                      rw [r2] at hrecv
                      rcases hlk with hl | ⟨host, hl⟩
                      · exact s_after X hret9 (va_runV (C := (mY M').cls) fix met ⟨cB hl, cb _ i1, cb _ i2⟩ ⟨pj_blind, hrecv, fun U hU hW => pre _ U hU hW⟩ rfl (by rw [List.length_reverse]; exact hlen) a1.1 hstk hW9 hd hfin) a1 a2 g4 a5 a6 k
                      · exact s_after X hret9 (va_runVN (C := (mY M').cls) fix met ⟨cN host hl, cb _ i1, cb _ i2⟩ ⟨pj_blind, hrecv, fun U hU hW => pre _ U hU hW⟩ rfl (by rw [List.length_reverse]; exact hlen) a1.1 hstk hW9 hd hfin) a1 a2 g4 a5 a6 k
                    · cases hrec
                  · cases hrec
                · cases hrec
              · -- a maker
                cases hki
                rw [if_neg (by decide)] at hrec
                split at hrec
                · rename_i n rest2
                  split at hrec
                  · rename_i ci fs hci
                    split at hrec
                    · cases hrec
                      obtain ⟨v, vr, rfl, g3, g4⟩ := gvs_cons g2
                      obtain ⟨qa, gq, rfl⟩ := g3
                      have g5 : gvs ν (alw ws) b (aR n :: as0) (.ref qa :: vas.reverse) := ⟨⟨qa, gq, rfl⟩, g1⟩
                      have met := met_of (D := D) (pool := pool) (l := l) H.size mok tok ow g5 a4 a5.1 q9 (fun p e s m args below meth c A Q => walk (alw ws) p e s m args below meth c A Q)
                      have hstk : (F0 m pc ls (vas ++ .ref qa :: vr)).stack = (vas.reverse).reverse ++ .ref qa :: vr := by rw [List.reverse_reverse]
                      have hW9 := lv_room (m := m) (pc := pc) (ls := ls) (rest := vas ++ .ref qa :: vr) (st := vr) (by rw [cats_ok g4]; exact q4)
                      obtain ⟨i1, i2, i3⟩ := mok.2.2.2.2.2.2.2.1 q2
                      rcases hlk with hl | ⟨host, hl⟩
                      · have cB' := cB hl
                        rw [i3] at cB'
                        exact s_after X hret9 (va_runI fix met ⟨cB', i1, cb _ i2⟩ ⟨pj_blind, fun U hU hW => pre _ U hU hW⟩ rfl (by rw [List.length_reverse]; exact hlen) a1.1 hstk hW9 hd hfin) a1 a2 g4 a5 a6 k
                      · have cN' := cN host hl
                        rw [i3] at cN'
                        exact s_after X hret9 (va_runIN fix met ⟨cN', i1, cb _ i2⟩ ⟨pj_blind, fun U hU hW => pre _ U hU hW⟩ rfl (by rw [List.length_reverse]; exact hlen) a1.1 hstk hW9 hd hfin) a1 a2 g4 a5 a6 k
                    · cases hrec
                  · cases hrec
                · cases hrec
              · cases hki
            · cases h
          · cases h
        · cases h
      · cases h
    · cases h
  · cases h
end SOUND
