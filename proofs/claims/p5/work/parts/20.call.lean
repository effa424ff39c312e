section CALL
variable {RT : List (List (Nat × RES))} {P : List MT} {OW : List String} {ν : Nat → Int} {b : Nat} {cy : Nat → ClassId} {pool : va_W} {D : va_G} {A : Nat → Prop} {al0 : List Nat} {M : MT} {own : String} {sc : Bool}
variable {p : Program} {l : Launch} {e : Env} {R : Room} {s : State} {m : MethodId} {args : Array Value} {below : List Frame} {meth : Method} {c : Code} {Q : State → Prop}
/-- a method's contract out of its walk from the entry -/
theorem met_of {M' : MT} {as : List AV} {vs : List Value} {E : EV} {C : List AC} {ws : va_W} {outs : List OUT} (sz : Nat) (hM : MOK M') (hT : TOK OW M') (ho : OW[mO M']? = some (mY M').cls) (hg : gvs ν (alw ws) b as vs) (hE : genv ν E) (hW : gW ν b cy C ws) (hl : e_cats as ≤ mL M')
    (walk : ∀ (p : Program) (e : Env) (s : State) (m : MethodId) (args : Array Value) (below : List Frame) (meth : Method) (c : Code) (A : Nat → Prop) (Q : State → Prop), Ctx OW D cy ν b M' (mY M').cls p (mRm M') s m args meth c A false → RetOK D cy ν b pool (alw ws) M' p l e (mRm M') s m args below meth c A Q outs → Safe D cy ν b pool (alw ws) M' p l e (mRm M') s m args below meth c A Q (0, e_args 0 as, [], E, C, 0, 0)) :
    Met l (mY M') (mW M') (mRm M') (PJ D cy pool ws vs sz) (QJ D cy ν b pool (alw ws) outs (va_A (pool ++ ws) sz) (mR M')) (mNc M') (mNs M') (va_A (pool ++ ws) sz) := by
  obtain ⟨m1, m2, m3, m4, m5, m6, m7, m8, m9⟩ := hM
  refine va_MetF (cc := mC M') (maxL := mL M') (ret := mR M') m1 rfl ?_
  intro p e s m args below meth c s₁ B hml hv
  obtain ⟨rfl, hsz, hP, hK, hD0⟩ := hv
  have hx := B.exec
  have hb := B.bytes
  have hr := B.returns
  have hts := atoms_spec (ws := mW M') B.pre
  have hown : s.vm.findClass (mY M').cls = some m.cls := findClass_of_methodNamed B.named
  have hlocks := B.notSynchronized
  have hname := (name_of_methodNamed B.named B.method).1
  subst hsz
  have hD := hD0.self (sz := s.heap.size)
  generalize hAe : va_A (pool ++ ws) s.heap.size = A at hD ⊢
  have hA : ∀ q : Nat, s.heap.size ≤ q → A q := fun q h => by rw [← hAe]; exact Or.inr h
  have hS : va_S A s.heap s.heap [] := va_S.rf
  have hlen : (lg_sl vs).length ≤ mL M' := by rw [lg_len, cats_ok hg]; exact hl
  have hlv := lv_entry vs (n := mL M') hlen
  rw [lg_entry_eq]
  generalize (lg_sl vs ++ List.replicate (mL M' - (lg_sl vs).length) Slot.unset).toArray = ls at hlv ⊢
  have X : Ctx OW D cy ν b M' (mY M').cls p (mRm M') s m vs.toArray meth c A false := ⟨hx, hb, hml, ho, hown, fun w hw => hts w (List.mem_cons_of_mem _ hw), hK, hA, fun h => hname.trans (m8 h).1, rfl, hT, fun h => by cases h⟩
  refine walk p e s m vs.toArray below meth c A _ X ?_ s.heap [] ls (lv_args 0 vs) [] ws hlv (e_args_ok 0 hg) trivial hE ⟨hW, hP, hD, hS⟩ ⟨[], by simp⟩
  intro o ho9 ins pc H locs ls' ws' v hd hv9 hE' hW' hal
  obtain ⟨w1, w2, w3, w4⟩ := hW'
  have po : PO cy ν b (alw ws) outs (ws', o) := ⟨ho9, hE', w1, hal⟩
  rcases hv9 with ⟨rfl, a, x, ty, e1, rfl, g1, e2, e3, e4⟩ | ⟨rfl, a, x, e1, rfl, g1, e2⟩ | ⟨rfl, e1, rfl, e2⟩
  · have hq : QJ D cy ν b pool (alw ws) outs A (mR M') = va_Qi (fun (r : Int32) (u : va_W × OUT) => PO cy ν b (alw ws) outs u ∧ ∃ a, u.2.1 = some a ∧ gv ν (alw u.1) b a (.int r)) (BO D pool A) A := by
      rw [e2]
      rcases e3 with rfl | rfl <;> rfl
    rw [hq]
    rw [e2] at hr
    exact W.zret hx hb hr e4 (fun t ht hW9 => ⟨⟨x, (ws', o), rfl, ⟨po, a, e1, g1⟩, by rw [BO, ht]; exact ⟨w2, w3⟩⟩, w4.F ht⟩) w4.2.2 hd
  · have hq : QJ D cy ν b pool (alw ws) outs A (mR M') = va_Ql (fun (r : Int64) (u : va_W × OUT) => PO cy ν b (alw ws) outs u ∧ ∃ a, u.2.1 = some a ∧ gv ν (alw u.1) b a (.long r)) (BO D pool A) A := by
      rw [e2]; rfl
    rw [hq]
    rw [e2] at hr
    exact W.lret hx hb hr (fun t ht hW9 => ⟨⟨x, (ws', o), rfl, ⟨po, a, e1, g1⟩, by rw [BO, ht]; exact ⟨w2, w3⟩⟩, w4.F ht⟩) w4.2.2 hd
  · have hq : QJ D cy ν b pool (alw ws) outs A (mR M') = va_Qv (fun u : va_W × OUT => PO cy ν b (alw ws) outs u ∧ u.2.1 = none) (BO D pool A) A := by
      rw [e2]; rfl
    rw [hq]
    rw [e2] at hr
    exact W.vret hx hb hr (fun t ht hW9 => ⟨⟨(ws', o), rfl, ⟨po, e1⟩, by rw [BO, ht]; exact ⟨w2, w3⟩⟩, w4.F ht⟩) w4.2.2 hd
theorem e_take_ok {al : List Nat} : ∀ (n : Nat) {st acc as rest : List AV} {vs vacc : List Value}, e_take n st acc = some (as, rest) → gvs ν al b st vs → gvs ν al b acc vacc → ∃ vas vr, vs = vas ++ vr ∧ vas.length = n ∧ gvs ν al b as (vas.reverse ++ vacc) ∧ gvs ν al b rest vr := by
  intro n
  induction n with
  | zero =>
    intro st acc as rest vs vacc h h1 h2
    simp only [e_take] at h
    cases h
    exact ⟨[], vs, rfl, rfl, h2, h1⟩
  | succ n ih =>
    intro st acc as rest vs vacc h h1 h2
    unfold e_take at h
    cases st with
    | nil => cases h
    | cons a r =>
      simp only at h
      obtain ⟨v, vs', rfl, g1, g2⟩ := gvs_cons h1
      obtain ⟨vas, vr, rfl, e2, g3, g4⟩ := ih h g2 (show gvs ν al b (a :: acc) (v :: vacc) from ⟨g1, h2⟩)
      refine ⟨v :: vas, vr, rfl, by simp [e2], ?_, g4⟩
      simpa using g3
theorem mW_good {M' : MT} (hM : MOK M') : GoodIn BIG (mW M') := by
  intro w hw
  rcases List.mem_cons.mp hw with rfl | hw
  · exact ⟨hM.2.1, good_of_word (big_good _ hM.2.1)⟩
  · exact ⟨hw, good_of_word (big_good _ hw)⟩
theorem pj_blind {ws : va_W} {vs : List Value} {sz : Nat} : FrameBlind (PJ D cy pool ws vs sz) := fun a U g mk q => by
  obtain ⟨q0, q1, qP, qK, qD⟩ := q
  exact ⟨q0, q1, qP, qK.calling, qD⟩
/-- behind a call that has run -/
theorem s_after {M' : MT} {H : Heap} {locs : List Loc} {ls : Array Slot} {lv : List (Nat × Value)} {pc nc ns : Nat} {lo : List (Nat × AV)} {rest : List AV} {E : EV} {C : List AC} {vr : List Value} {ws : va_W} {st0 : List Value} {a0 : Array Value} {outs : List OUT} (X : Ctx OW D cy ν b M own p R s m args meth c A sc) (hr9 : mR M' = none ∨ mR M' = some .int ∨ mR M' = some .boolean ∨ mR M' = some .long)
    (run : va_Run p l e R s m args below meth c H locs nc ns (mNc M') (mNs M') (F0 m pc ls st0) vr (QJ D cy ν b pool (alw ws) outs (va_A (pool ++ ws) H.size) (mR M') a0) (va_A (pool ++ ws) H.size))
    (a1 : lv_has ls (mL M) lv) (a2 : glv ν (alw ws) b lo lv) (g4 : gvs ν (alw ws) b rest vr) (a5 : Wd D cy A s.heap pool ν b C ws H locs) (a6 : ∃ more, alw ws = al0 ++ more)
    (k : ∀ o ∈ outs, Safe D cy ν b pool al0 M p l e R s m args below meth c A Q (e_aft M' (pc + 3, lo, rest, E, C, nc + mNc M', ns + mNs M') o)) : W p l e R s m args below meth c H locs nc ns Q (F0 m pc ls st0) := by
  obtain ⟨x1, x2, x3, x4, x5, x6, x7, x8, x9, x10, x11, x12⟩ := X
  obtain ⟨w1, w2, w3, w4⟩ := a5
  have hF : ∀ q, va_A (pool ++ ws) H.size q → A q := by
    intro q hq
    rcases hq with ⟨kq, eq, h1⟩ | h1
    · exact w3.2 _ _ h1
    · exact x8 q (Nat.le_trans w4.1 h1)
  have fin : ∀ (u : va_W × OUT) (t : State) (H1 : Heap) (locs1 : List Loc), t.heap = H1 → PO cy ν b (alw ws) outs u → BO D pool (va_A (pool ++ ws) H.size) u t → va_S A s.heap H1 locs1 → Wd D cy A s.heap pool ν b u.2.2.2 u.1 H1 locs1 ∧ glv ν (alw u.1) b lo lv ∧ gvs ν (alw u.1) b rest vr ∧ ∃ more, alw u.1 = al0 ++ more := by
    intro u t H1 locs1 ht hpo hbo hS
    obtain ⟨p1, p2, p3, more, p4⟩ := hpo
    refine ⟨⟨p3, by rw [← ht]; exact hbo.1, hbo.2.weaken (fun _ _ _ hq => hF _ hq), hS⟩, by rw [p4]; exact glv_app _ a2, by rw [p4]; exact gvs_app _ g4, ?_⟩
    obtain ⟨more0, e0⟩ := a6
    exact ⟨more0 ++ more, by rw [p4, e0, List.append_assoc]⟩
  rcases hr9 with e9 | e9 | e9 | e9
  · rw [e9] at run
    refine va_callv (a := a0) run w4 (fun q _ hq => hF q hq) hF (fun u t H1 locs1 ht hvm hw hB hz hk hS => ?_)
    obtain ⟨f1, f2, f3, f4⟩ := fin u t H1 locs1 ht hw.1 hB hS
    have := k u.2 hw.1.1
    obtain ⟨uw, r, Eo, Co⟩ := u
    have hn : r = none := hw.2
    subst hn
    exact this H1 locs1 ls lv vr uw a1 f2 f3 hw.1.2.1 f1 f4
  · rw [e9] at run
    refine va_calli (a := a0) run w4 (fun q _ hq => hF q hq) hF (fun r u t H1 locs1 ht hvm hw hB hz hk hS => ?_)
    obtain ⟨f1, f2, f3, f4⟩ := fin u t H1 locs1 ht hw.1 hB hS
    have := k u.2 hw.1.1
    obtain ⟨uw, r', Eo, Co⟩ := u
    obtain ⟨a, ha, ga⟩ := hw.2
    have ha : r' = some a := ha
    subst ha
    exact this H1 locs1 ls lv (.int r :: vr) uw a1 f2 ⟨ga, f3⟩ hw.1.2.1 f1 f4
  · rw [e9] at run
    refine va_calli (a := a0) run w4 (fun q _ hq => hF q hq) hF (fun r u t H1 locs1 ht hvm hw hB hz hk hS => ?_)
    obtain ⟨f1, f2, f3, f4⟩ := fin u t H1 locs1 ht hw.1 hB hS
    have := k u.2 hw.1.1
    obtain ⟨uw, r', Eo, Co⟩ := u
    obtain ⟨a, ha, ga⟩ := hw.2
    have ha : r' = some a := ha
    subst ha
    exact this H1 locs1 ls lv (.int r :: vr) uw a1 f2 ⟨ga, f3⟩ hw.1.2.1 f1 f4
  · rw [e9] at run
    refine va_calll (a := a0) run w4 (fun q _ hq => hF q hq) hF (fun r u t H1 locs1 ht hvm hw hB hz hk hS => ?_)
    obtain ⟨f1, f2, f3, f4⟩ := fin u t H1 locs1 ht hw.1 hB hS
    have := k u.2 hw.1.1
    obtain ⟨uw, r', Eo, Co⟩ := u
    obtain ⟨a, ha, ga⟩ := hw.2
    have ha : r' = some a := ha
    subst ha
    exact this H1 locs1 ls lv (.long r :: vr) uw a1 f2 ⟨ga, f3⟩ hw.1.2.1 f1 f4
end CALL
