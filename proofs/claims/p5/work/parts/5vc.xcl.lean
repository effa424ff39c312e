/-! the exact engine: branches, ends, contracts, calls -/
def x_cnd (c : Jvm.ClassFile.Cond) (a b : Int) : Prop := match c with
  | .eq => a = b
  | .ne => ¬ a = b
  | .lt => a < b
  | .ge => b ≤ a
  | .gt => b < a
  | .le => a ≤ b
def x_ncd (c : Jvm.ClassFile.Cond) (a b : Int) : Prop := match c with
  | .eq => ¬ a = b
  | .ne => a = b
  | .lt => b ≤ a
  | .ge => a < b
  | .gt => a ≤ b
  | .le => b < a
/-- what a return gives -/
def RVX (M : MT) (ins : Instr) (v : Option Value) : Prop :=
  (ins = .ireturn ∧ ∃ (x : Int32) (ty : FieldType), v = some (.int x) ∧ mR M = some ty ∧ (ty = .int ∨ ty = .boolean) ∧ narrow ty (.int x) = .int x) ∨
  (ins = .lreturn ∧ ∃ x : Int64, v = some (.long x) ∧ mR M = some .long) ∨
  (ins = .return_ ∧ v = none ∧ mR M = none)
def XB (D : va_G) (A : Nat → Prop) (u : va_W) (t : State) : Prop := va_P D vwCl u t.heap ∧ va_D A u
/-- the end of a contract: what is answered, and the cells then -/
def XQ (D : va_G) (A : Nat → Prop) (ret : Option FieldType) (PO : Option Value → va_W → Prop) : Array Value → State → Outcome → State → Prop := match ret with
  | none => va_Qv (fun u : va_W => PO none u) (XB D A) A
  | some .long => va_Ql (fun (r : Int64) (u : va_W) => PO (some (.long r)) u) (XB D A) A
  | some _ => va_Qi (fun (r : Int32) (u : va_W) => PO (some (.int r)) u) (XB D A) A
def XRet (D : va_G) (M : MT) (p : Program) (l : Launch) (e : Env) (R : Room) (s : State) (m : MethodId) (args : Array Value) (below : List Frame) (meth : Method) (c : Code) (A : Nat → Prop) (Q : State → Prop) (rm : RMt) (PO : Option Value → va_W → Prop) : Prop :=
  ∀ (ins : Instr) (pc N K : Nat) (lv : List (Nat × Value)) (wp : va_W) (v : Option Value), decode (mC M) pc = .ok (ins, 1) → RVX M ins v → PO v wp → N ≤ rm.2.1 → K ≤ rm.2.2.1 → XG D M p l e R s m args below meth c A Q N K (pc, lv, v.toList, wp)
/-- a contract of a method at given cells and arguments -/
def XMet (EW : EWt) (D : va_G) (cy : Nat → ClassId) (l : Launch) (ex : Nat → Nat) (M : MT) (rm : RMt) (wp : va_W) (vs : List Value) (PO : Option Value → va_W → Prop) : Prop :=
  ∀ sz : Nat, Met l (mY M) (mW M) (rmR rm) (PJ2 D cy EW ex wp vs sz) (XQ D (va_A wp sz) (mR M) PO) rm.2.1 rm.2.2.1 (va_A wp sz)
section XCL
variable {P : List MT} {RT : List (List (Nat × RES))} {OW : List String} {EW : EWt} {D : va_G} {cy : Nat → ClassId} {ex : Nat → Nat} {M M' : MT} {own : String}
variable {p : Program} {l : Launch} {e : Env} {R : Room} {s : State} {m : MethodId} {args : Array Value} {below : List Frame} {meth : Method} {c : Code} {A : Nat → Prop} {Q : State → Prop} {rm rm' : RMt} {cb sb N K : Nat} {pc : Nat} {lv : List (Nat × Value)} {st : List Value} {wp : va_W} {PO : Option Value → va_W → Prop}
theorem x_dec (X : Cx OW EW D cy ex M own p R s m args meth c A rm cb sb) {ins : Instr} {n : Nat} (h : x_at (mT M) pc = some (ins, n)) : decode (mC M) pc = .ok (ins, n) := by
  obtain ⟨g, hg⟩ := x_at_ok h
  have tok : TOK OW M := X.2.2.2.2.2.2.2.2.1
  exact tok.1 (pc, g, ins, n) hg
theorem xg_icmp (X : Cx OW EW D cy ex M own p R s m args meth c A rm cb sb) {cnd : Jvm.ClassFile.Cond} {off : Int} (tgt : Nat) {x y : Int32} (hat : x_at (mT M) pc = some (.if_icmp cnd off, 3)) (ht : (pc : Int) + off = (tgt : Int))
    (kt : x_cnd cnd x.toInt y.toInt → XG D M p l e R s m args below meth c A Q N K (tgt, lv, st, wp)) (kf : x_ncd cnd x.toInt y.toInt → XG D M p l e R s m args below meth c A Q N K (pc + 3, lv, st, wp)) : XG D M p l e R s m args below meth c A Q N K (pc, lv, .int y :: .int x :: st, wp) := by
  have hd := x_dec X hat
  intro H locs ls a1 a2 a3 a4
  have hx9 := X.1
  have hb := X.2.1
  simp only at a1 a2 a3 ⊢
  cases cnd
  · exact lv_icmp_eq hx9 hb hd ht (fun h => kt ((fa_eq _ _).mp h) H locs ls a1 a2 a3 a4) (fun h => kf (fun q => h ((fa_eq _ _).mpr q)) H locs ls a1 a2 a3 a4)
  · exact lv_icmp_ne hx9 hb hd ht (fun h => kt (fun q => h ((fa_eq _ _).mpr q)) H locs ls a1 a2 a3 a4) (fun h => kf ((fa_eq _ _).mp h) H locs ls a1 a2 a3 a4)
  · exact lv_icmp_lt hx9 hb hd ht (fun h => kt ((fa_lt _ _).mp h) H locs ls a1 a2 a3 a4) (fun h => kf ((fa_le _ _).mp (fa_of_nlt h)) H locs ls a1 a2 a3 a4)
  · exact lv_icmp_ge hx9 hb hd ht (fun h => kt ((fa_le _ _).mp h) H locs ls a1 a2 a3 a4) (fun h => kf ((fa_lt _ _).mp (fa_of_nle h)) H locs ls a1 a2 a3 a4)
  · exact lv_icmp_gt hx9 hb hd ht (fun h => kt ((fa_lt _ _).mp h) H locs ls a1 a2 a3 a4) (fun h => kf ((fa_le _ _).mp (fa_of_nlt h)) H locs ls a1 a2 a3 a4)
  · exact lv_icmp_le hx9 hb hd ht (fun h => kt ((fa_le _ _).mp h) H locs ls a1 a2 a3 a4) (fun h => kf ((fa_lt _ _).mp (fa_of_nle h)) H locs ls a1 a2 a3 a4)
theorem xg_ifc (X : Cx OW EW D cy ex M own p R s m args meth c A rm cb sb) {cnd : Jvm.ClassFile.Cond} {off : Int} (tgt : Nat) {x : Int32} (hat : x_at (mT M) pc = some (.ifCond cnd off, 3)) (ht : (pc : Int) + off = (tgt : Int))
    (kt : x_cnd cnd x.toInt 0 → XG D M p l e R s m args below meth c A Q N K (tgt, lv, st, wp)) (kf : x_ncd cnd x.toInt 0 → XG D M p l e R s m args below meth c A Q N K (pc + 3, lv, st, wp)) : XG D M p l e R s m args below meth c A Q N K (pc, lv, .int x :: st, wp) := by
  have hd := x_dec X hat
  intro H locs ls a1 a2 a3 a4
  have hx9 := X.1
  have hb := X.2.1
  simp only at a1 a2 a3 ⊢
  cases cnd
  · exact lv_if_eq hx9 hb hd ht (fun h => kt ((fa_eq _ _).mp h) H locs ls a1 a2 a3 a4) (fun h => kf (fun q => h ((fa_eq _ _).mpr q)) H locs ls a1 a2 a3 a4)
  · exact lv_if_ne hx9 hb hd ht (fun h => kt (fun q => h ((fa_eq _ _).mpr q)) H locs ls a1 a2 a3 a4) (fun h => kf ((fa_eq _ _).mp h) H locs ls a1 a2 a3 a4)
  · exact lv_if_lt hx9 hb hd ht (fun h => kt ((fa_lt _ _).mp h) H locs ls a1 a2 a3 a4) (fun h => kf ((fa_le _ _).mp (fa_of_nlt h)) H locs ls a1 a2 a3 a4)
  · exact lv_if_ge hx9 hb hd ht (fun h => kt ((fa_le _ _).mp h) H locs ls a1 a2 a3 a4) (fun h => kf ((fa_lt _ _).mp (fa_of_nle h)) H locs ls a1 a2 a3 a4)
  · exact lv_if_gt hx9 hb hd ht (fun h => kt ((fa_lt _ _).mp h) H locs ls a1 a2 a3 a4) (fun h => kf ((fa_le _ _).mp (fa_of_nlt h)) H locs ls a1 a2 a3 a4)
  · exact lv_if_le hx9 hb hd ht (fun h => kt ((fa_le _ _).mp h) H locs ls a1 a2 a3 a4) (fun h => kf ((fa_lt _ _).mp (fa_of_nle h)) H locs ls a1 a2 a3 a4)
/-- a method's walk gives its contract -/
theorem met_ofx {vs : List Value} (hEW : EWOK EW) (hM : MOK M') (hT : TOK OW M') (ho : OW[mO M']? = some (mY M').cls) (hl : (lg_sl vs).length ≤ mL M')
    (walk : ∀ (p : Program) (e : Env) (s : State) (m : MethodId) (args : Array Value) (below : List Frame) (meth : Method) (c : Code) (A : Nat → Prop) (Q : State → Prop), Cx OW EW D cy ex M' (mY M').cls p (rmR rm') s m args meth c A rm' 0 0 → XRet D M' p l e (rmR rm') s m args below meth c A Q rm' PO → XG D M' p l e (rmR rm') s m args below meth c A Q 0 0 (0, lv_args 0 vs, [], wp)) :
    XMet EW D cy l ex M' rm' wp vs PO := by
  intro sz
  obtain ⟨m1, m2, m3, m4, m5, m6, m7, m8, m9⟩ := hM
  refine va_MetF (cc := mC M') (maxL := mL M') (ret := mR M') m1 rfl ?_
  intro p e s m args below meth c s₁ B hml hv0
  obtain ⟨rfl, hsz, hP, hK, hD0, hE⟩ := hv0
  have hx := B.exec
  have hb := B.bytes
  have hr := B.returns
  have hts := atoms_spec (ws := mW M') B.pre
  have hown : s.vm.findClass (mY M').cls = some m.cls := findClass_of_methodNamed B.named
  have hlocks := B.notSynchronized
  subst hsz
  have hD := hD0.self (sz := s.heap.size)
  generalize hAe : va_A wp s.heap.size = A at hD hE ⊢
  have hA : ∀ q : Nat, s.heap.size ≤ q → A q := fun q h => by rw [← hAe]; exact Or.inr h
  have hS : va_S A s.heap s.heap [] := va_S.rf
  have hlv := lv_entry vs (n := mL M') hl
  rw [lg_entry_eq]
  generalize (lg_sl vs ++ List.replicate (mL M' - (lg_sl vs).length) Slot.unset).toArray = ls at hlv ⊢
  have X : Cx OW EW D cy ex M' (mY M').cls p (rmR rm') s m vs.toArray meth c A rm' 0 0 := ⟨hx, hb, hml, ho, hown, fun w hw => hts w (List.mem_cons_of_mem _ hw), hK, hA, hT, hE, Nat.le_refl _, by simp, by simp, Nat.le_refl _⟩
  refine walk p e s m vs.toArray below meth c A _ X ?_ s.heap [] ls hlv hP hD hS
  intro ins pc N K lv wp1 v hd hv9 hpo hN hK9 H locs ls' a1 w2 w3 w4
  simp only at a1 w2 w3 ⊢
  refine W.widen (k := rm'.2.1) (n := rm'.2.2.1) hN hK9 ?_
  rcases hv9 with ⟨rfl, x, ty, rfl, e2, e3, e4⟩ | ⟨rfl, x, rfl, e2⟩ | ⟨rfl, rfl, e2⟩
  · have hq : XQ D A (mR M') PO = va_Qi (fun (r : Int32) (u : va_W) => PO (some (.int r)) u) (XB D A) A := by
      rw [e2]
      rcases e3 with rfl | rfl <;> rfl
    rw [hq]
    rw [e2] at hr
    exact W.zret hx hb hr e4 (fun t ht hW9 => ⟨⟨x, wp1, rfl, hpo, by rw [XB, ht]; exact ⟨w2, w3⟩⟩, w4.F ht⟩) w4.2.2 hd
  · have hq : XQ D A (mR M') PO = va_Ql (fun (r : Int64) (u : va_W) => PO (some (.long r)) u) (XB D A) A := by
      rw [e2]; rfl
    rw [hq]
    rw [e2] at hr
    exact W.lret hx hb hr (fun t ht hW9 => ⟨⟨x, wp1, rfl, hpo, by rw [XB, ht]; exact ⟨w2, w3⟩⟩, w4.F ht⟩) w4.2.2 hd
  · have hq : XQ D A (mR M') PO = va_Qv (fun u : va_W => PO none u) (XB D A) A := by
      rw [e2]; rfl
    rw [hq]
    rw [e2] at hr
    exact W.vret hx hb hr (fun t ht hW9 => ⟨⟨wp1, rfl, hpo, by rw [XB, ht]; exact ⟨w2, w3⟩⟩, w4.F ht⟩) w4.2.2 hd
/-- behind a call that has run -/
theorem x_aft {H : Heap} {locs : List Loc} {ls : Array Slot} {mc ms : Nat} {vr st0 : List Value} {a0 : Array Value} (hA : ∀ q, s.heap.size ≤ q → A q) (hr9 : mR M' = none ∨ mR M' = some .int ∨ mR M' = some .boolean ∨ mR M' = some .long)
    (run : va_Run p l e R s m args below meth c H locs N K mc ms (F0 m pc ls st0) vr (XQ D (va_A wp H.size) (mR M') PO a0) (va_A wp H.size))
    (w3 : va_D A wp) (w4 : va_S A s.heap H locs)
    (k : ∀ (r : Option Value) (u : va_W) (H1 : Heap) (locs1 : List Loc), PO r u → va_P D vwCl u H1 → va_D A u → va_S A s.heap H1 locs1 → W p l e R s m args below meth c H1 locs1 (N + mc) (K + ms) Q (F0 m (pc + 3) ls (r.toList ++ vr))) : W p l e R s m args below meth c H locs N K Q (F0 m pc ls st0) := by
  have hF : ∀ q, va_A wp H.size q → A q := by
    intro q hq
    rcases hq with ⟨kq, eq, h1⟩ | h1
    · exact w3.2 _ _ h1
    · exact hA q (Nat.le_trans w4.1 h1)
  rcases hr9 with e9 | e9 | e9 | e9
  · rw [e9] at run
    refine va_callv (a := a0) run w4 (fun q _ hq => hF q hq) hF (fun u t H1 locs1 ht hvm hw hB hz hk hS => ?_)
    exact k none u H1 locs1 hw (by rw [← ht]; exact hB.1) (hB.2.weaken (fun _ _ _ hq => hF _ hq)) hS
  · rw [e9] at run
    refine va_calli (a := a0) run w4 (fun q _ hq => hF q hq) hF (fun r u t H1 locs1 ht hvm hw hB hz hk hS => ?_)
    exact k (some (.int r)) u H1 locs1 hw (by rw [← ht]; exact hB.1) (hB.2.weaken (fun _ _ _ hq => hF _ hq)) hS
  · rw [e9] at run
    refine va_calli (a := a0) run w4 (fun q _ hq => hF q hq) hF (fun r u t H1 locs1 ht hvm hw hB hz hk hS => ?_)
    exact k (some (.int r)) u H1 locs1 hw (by rw [← ht]; exact hB.1) (hB.2.weaken (fun _ _ _ hq => hF _ hq)) hS
  · rw [e9] at run
    refine va_calll (a := a0) run w4 (fun q _ hq => hF q hq) hF (fun r u t H1 locs1 ht hvm hw hB hz hk hS => ?_)
    exact k (some (.long r)) u H1 locs1 hw (by rw [← ht]; exact hB.1) (hB.2.weaken (fun _ _ _ hq => hF _ hq)) hS
/-- may the callee's room be had here -/
def x_room (R : Room) (M' : MT) (rm' : RMt) (N K : Nat) : Prop := rm'.1 + 1 ≤ R.frames ∧ 8 + (mL M' + 11) + rm'.2.2.2 ≤ R.locals ∧ N + rm'.2.1 ≤ R.cells ∧ K + rm'.2.2.1 ≤ R.slots
def x_cats (vs : List Value) : Nat := (vs.map fun v => v.category).sum
set_option maxHeartbeats 1000000 in
/-- a call of a static method -/
theorem xg_callS (hP : POK2 P RT OW) (hEW : EWOK EW) (X : Cx OW EW D cy ex M own p R s m args meth c A rm cb sb) {ix rk j z1 : Nat} {z2 : Int} {vas vr : List Value} (hat : x_at (mT M) pc = some (.invokestatic ix, 3)) (hr : e_res RT (mO M) ix = some (rk, j, z1, z2)) (hrk : rk = 4 ∨ rk = 5) (hj : P[j]? = some M') (hk0 : mK M' = 0) (hn : vas.length = mA M')
    (hst : st = vas.reverse ++ vr) (hc8 : x_cats vr ≤ 8) (met : XMet EW D cy l ex M' rm' wp vas PO) (hrm : x_room R M' rm' N K)
    (k : ∀ (r : Option Value) (u : va_W), PO r u → XG D M p l e R s m args below meth c A Q (N + rm'.2.1) (K + rm'.2.2.1) (pc + 3, lv, r.toList ++ vr, u)) : XG D M p l e R s m args below meth c A Q N K (pc, lv, st, wp) := by
  have hd := x_dec X hat
  obtain ⟨mok, tok, ow⟩ := hP.1 _ _ hj
  have hro := (res_ok hP X.2.2.2.1 hr).1
  have cb9 : ∀ w, w ∈ BIG → w.before args s = true := X.2.2.2.2.2.1
  have fix : CallFix p m c (mC M) (mL M) s args BIG own := ⟨X.1, X.2.1, X.2.2.1, X.2.2.2.2.1, cb9⟩
  have hlk : (Cond.methodLink own ix (mY M') ∈ BIG) ∨ ∃ host, Cond.methodLinkNest own ix (mY M') host ∈ NST := by
    rcases hrk with rfl | rfl
    · obtain ⟨M1, h1, h2⟩ := hro
      rw [hj] at h1
      cases h1
      exact Or.inl h2
    · obtain ⟨M1, host, h1, h2⟩ := hro
      rw [hj] at h1
      cases h1
      exact Or.inr ⟨host, h2⟩
  have hKK : KK D cy s := X.2.2.2.2.2.2.1
  have hA : ∀ q, s.heap.size ≤ q → A q := X.2.2.2.2.2.2.2.1
  intro H locs ls a1 a6 a7 a8
  simp only at a1 a6 a7 ⊢
  have hF : ∀ q, va_A wp H.size q → A q := by
    intro q hq
    rcases hq with ⟨kq, eq, h1⟩ | h1
    · exact a7.2 _ _ h1
    · exact hA q (Nat.le_trans a8.1 h1)
  have pre : ∀ (vals : List Value) (U : State), U.heap = H → s.WarmedH U.vm → PJ2 D cy EW ex wp vals H.size vals.toArray U := fun vals U hU hW => ⟨rfl, by rw [hU], by rw [hU]; exact a6, KK.warm hW hKK, a7.weaken (fun _ _ _ _ => trivial), hEW.1 _ A _ s U locs H X.2.2.2.2.2.2.2.2.2.1 hW hU a8 hF⟩
  have hW9 := lv_room (m := m) (pc := pc) (ls := ls) (rest := st) (st := vr) hc8
  have hst0 := mok.2.2.2.2.2.1 hk0
  have hstk : (F0 m pc ls st).stack = vas.reverse ++ vr := hst
  obtain ⟨r1, r2, r3, r4⟩ := hrm
  refine x_aft (M' := M') (wp := wp) (PO := PO) (mc := rm'.2.1) (ms := rm'.2.2.1) (vr := vr) (a0 := vas.toArray) hA mok.2.2.2.2.2.2.2.2 ?_ a7 a8 (fun r u H1 locs1 b1 b2 b3 b4 => k r u b1 H1 locs1 ls a1 b2 b3 b4)
  rcases hlk with hl | ⟨host, hl⟩
  · exact va_runS fix (met H.size) ⟨callB_of (mA M') cb9 (mW_good mok) rfl rfl rfl (cb9 _ mok.2.2.1) (cb9 _ hl) ⟨mok.2.2.2.1.1, mok.2.2.2.1.2, mok.2.2.2.2.1⟩ ⟨r1, r2⟩, cb9 _ hst0⟩ ⟨pj2_blind hEW, fun U hU hW => pre _ U hU hW⟩ rfl hn a1.1 hstk hW9 hd ⟨r3, r4⟩
  · exact va_runSN fix (met H.size) ⟨va_cnB (mA M') cb9 (mW_good mok) rfl rfl rfl (hKK.2.1 _ hl) (cb9 _ mok.2.2.1) ⟨mok.2.2.2.1.1, mok.2.2.2.1.2, mok.2.2.2.2.1⟩ ⟨r1, r2⟩, cb9 _ hst0, trivial⟩ ⟨pj2_blind hEW, fun U hU hW => pre _ U hU hW⟩ rfl hn a1.1 hstk hW9 hd ⟨r3, r4⟩
set_option maxHeartbeats 1000000 in
/-- a call of a method of an object: its cell by its place -/
theorem xg_callV (hP : POK2 P RT OW) (hEW : EWOK EW) (X : Cx OW EW D cy ex M own p R s m args meth c A rm cb sb) {ix rk j z1 : Nat} {z2 : Int} (i : Nat) {q : Nat} {fs vas vr : List Value} (hat : x_at (mT M) pc = some (.invokevirtual ix, 3)) (hr : e_res RT (mO M) ix = some (rk, j, z1, z2)) (hrk : rk = 4 ∨ rk = 5) (hj : P[j]? = some M') (hk0 : mK M' = 1) (hn : vas.length = mA M')
    (hst : st = vas.reverse ++ .ref q :: vr) (hq : wp[i]? = some (q, .inr (mCi M', fs))) (hc8 : x_cats vr ≤ 8) (met : XMet EW D cy l ex M' rm' wp (.ref q :: vas) PO) (hrm : x_room R M' rm' N K)
    (k : ∀ (r : Option Value) (u : va_W), PO r u → XG D M p l e R s m args below meth c A Q (N + rm'.2.1) (K + rm'.2.2.1) (pc + 3, lv, r.toList ++ vr, u)) : XG D M p l e R s m args below meth c A Q N K (pc, lv, st, wp) := by
  have hd := x_dec X hat
  obtain ⟨mok, tok, ow⟩ := hP.1 _ _ hj
  have hro := (res_ok hP X.2.2.2.1 hr).1
  have cb9 : ∀ w, w ∈ BIG → w.before args s = true := X.2.2.2.2.2.1
  have fix : CallFix p m c (mC M) (mL M) s args BIG own := ⟨X.1, X.2.1, X.2.2.1, X.2.2.2.2.1, cb9⟩
  have hlk : (Cond.methodLink own ix (mY M') ∈ BIG) ∨ ∃ host, Cond.methodLinkNest own ix (mY M') host ∈ NST := by
    rcases hrk with rfl | rfl
    · obtain ⟨M1, h1, h2⟩ := hro
      rw [hj] at h1
      cases h1
      exact Or.inl h2
    · obtain ⟨M1, host, h1, h2⟩ := hro
      rw [hj] at h1
      cases h1
      exact Or.inr ⟨host, h2⟩
  have hKK : KK D cy s := X.2.2.2.2.2.2.1
  have hA : ∀ q, s.heap.size ≤ q → A q := X.2.2.2.2.2.2.2.1
  intro H locs ls a1 a6 a7 a8
  simp only at a1 a6 a7 ⊢
  have hF : ∀ q, va_A wp H.size q → A q := by
    intro q hq
    rcases hq with ⟨kq, eq, h1⟩ | h1
    · exact a7.2 _ _ h1
    · exact hA q (Nat.le_trans a8.1 h1)
  have pre : ∀ (vals : List Value) (U : State), U.heap = H → s.WarmedH U.vm → PJ2 D cy EW ex wp vals H.size vals.toArray U := fun vals U hU hW => ⟨rfl, by rw [hU], by rw [hU]; exact a6, KK.warm hW hKK, a7.weaken (fun _ _ _ _ => trivial), hEW.1 _ A _ s U locs H X.2.2.2.2.2.2.2.2.2.1 hW hU a8 hF⟩
  have hW9 := lv_room (m := m) (pc := pc) (ls := ls) (rest := st) (st := vr) hc8
  have hstk : (F0 m pc ls st).stack = vas.reverse ++ .ref q :: vr := hst
  obtain ⟨i1, i2, r, y1, y2⟩ := mok.2.2.2.2.2.2.1 hk0
  have hrecv := va_recv hKK.1 a6 y1 hq
  rw [y2] at hrecv
  obtain ⟨r1, r2, r3, r4⟩ := hrm
  refine x_aft (M' := M') (wp := wp) (PO := PO) (mc := rm'.2.1) (ms := rm'.2.2.1) (vr := vr) (a0 := (Value.ref q :: vas).toArray) hA mok.2.2.2.2.2.2.2.2 ?_ a7 a8 (fun r u H1 locs1 b1 b2 b3 b4 => k r u b1 H1 locs1 ls a1 b2 b3 b4)
  rcases hlk with hl | ⟨host, hl⟩
  · exact va_runV (C := (mY M').cls) fix (met H.size) ⟨callB_of (mA M') cb9 (mW_good mok) rfl rfl rfl (cb9 _ mok.2.2.1) (cb9 _ hl) ⟨mok.2.2.2.1.1, mok.2.2.2.1.2, mok.2.2.2.2.1⟩ ⟨r1, r2⟩, cb9 _ i1, cb9 _ i2⟩ ⟨pj2_blind hEW, hrecv, fun U hU hW => pre _ U hU hW⟩ rfl hn a1.1 hstk hW9 hd ⟨r3, r4⟩
  · exact va_runVN (C := (mY M').cls) fix (met H.size) ⟨va_cnB (mA M') cb9 (mW_good mok) rfl rfl rfl (hKK.2.1 _ hl) (cb9 _ mok.2.2.1) ⟨mok.2.2.2.1.1, mok.2.2.2.1.2, mok.2.2.2.2.1⟩ ⟨r1, r2⟩, cb9 _ i1, cb9 _ i2⟩ ⟨pj2_blind hEW, hrecv, fun U hU hW => pre _ U hU hW⟩ rfl hn a1.1 hstk hW9 hd ⟨r3, r4⟩
end XCL
/-- two contracts of one method at one start: both ends hold of the one end -/
theorem met_and {l : Launch} {y : MethodName} {ws : List Cond} {rm : Room} {P1 P2 : Array Value → State → Prop} {Q1 Q2 : Array Value → State → Outcome → State → Prop} {mc ms mc2 ms2 : Nat} {f1 f2 : Addr → Prop} (h1 : Met l y ws rm P1 Q1 mc ms f1) (h2 : Met l y ws rm P2 Q2 mc2 ms2 f2) :
    Met l y ws rm (fun a s => P1 a s ∧ P2 a s) (fun a s o t => Q1 a s o t ∧ Q2 a s o t) mc ms f1 := by
  intro p e ha hc hk s m args below hf hS hP hK
  obtain ⟨n, o, w1, w2, w3, w4, w5⟩ := h1 p e ha hc hk s m args below hf hS hP.1 hK
  obtain ⟨n', o', v1, v2, v3, v4, v5⟩ := h2 p e ha hc hk s m args below hf hS hP.2 hK
  obtain ⟨rfl, rfl⟩ := the_end_unique (f := fun k => stepsAlone p.tables e k s) w1 w3 v1 v3
  exact ⟨n, o, w1, w2, w3, ⟨w4, v4⟩, w5⟩
