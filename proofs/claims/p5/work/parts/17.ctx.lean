/-! what a method's walk stands on -/
def isNest (w : Cond) : Bool := match w with
  | .methodLinkNest _ _ _ _ => true
  | .fieldLinkNest _ _ _ _ _ _ => true
  | _ => false
def NST : List Cond := lw_tbl.filter isNest
def KK (D : va_G) (cy : Nat → ClassId) (U : State) : Prop := va_K D vwCl (atys cy) U ∧ (∀ w ∈ NST, va_Nw w U) ∧ va_AO "NounFast$Scene" U ∧ va_AO "NounFast$Sentence" U
theorem KK.warm {D : va_G} {cy : Nat → ClassId} {s U : State} (hW : s.WarmedH U.vm) (h : KK D cy s) : KK D cy U := by
  refine ⟨va_K.moved hW.alike h.1, fun w hw => ?_, va_AO.moved hW.alike h.2.2.1, va_AO.moved hW.alike h.2.2.2⟩
  have h1 := h.2.1 w hw
  have h2 := (List.mem_filter.mp hw).2
  unfold isNest at h2
  split at h2
  · exact va_Nw.warmM hW h1
  · exact va_Nw.warmF hW h1
  · cases h2
theorem KK.calling {D : va_G} {cy : Nat → ClassId} {U : State} {g : JFrame} {mk : MethodId} {a : Array Value} (h : KK D cy U) : KK D cy (U.calling g mk a) := by
  refine ⟨va_K.moved (u := U) (U := U.calling g mk a) (Vm.Alike.refl U.vm) h.1, fun w hw => ?_, va_AO.moved (u := U) (U := U.calling g mk a) (Vm.Alike.refl U.vm) h.2.2.1, va_AO.moved (u := U) (U := U.calling g mk a) (Vm.Alike.refl U.vm) h.2.2.2⟩
  have h1 := h.2.1 w hw
  have h2 := (List.mem_filter.mp hw).2
  unfold isNest at h2
  split at h2
  · exact va_Nw.same rfl rfl h1
  · exact va_Nw.same rfl rfl h1
  · cases h2
/-- a method as caller: its class, its instructions -/
def TOK (OW : List String) (M : MT) : Prop := (∀ q ∈ mT M, decode (mC M) q.1 = .ok (q.2.2.1, q.2.2.2)) ∧ (mK M = 2 → ∀ r : vw_C, vwCl[mCi M]? = some r → ∀ k, k < r.2.2 → OW[mO M]? = some (r.2.1 k).1)
/-- a method as callee -/
def MOK (M : MT) : Prop := plainFor (mY M) = true ∧ Cond.code (mY M) (mC M) (mL M) (mR M) ∈ BIG ∧ Cond.initialized (mY M).cls ∈ BIG ∧ ((mY M).cls ≠ "java/lang/invoke/MethodHandle" ∧ (mY M).cls ≠ "java/lang/invoke/VarHandle") ∧
  (parseMethodDescriptor (mY M).desc).map (fun d => d.parameters.length) = some (mA M) ∧ (mK M = 0 → Cond.static (mY M) ∈ BIG) ∧ (mK M = 1 → Cond.instanceMethod (mY M) ∈ BIG ∧ Cond.selects (mY M).cls (mY M) (mY M) ∈ BIG ∧ ∃ r : vw_C, vwCl[mCi M]? = some r ∧ r.1 = (mY M).cls) ∧
  (mK M = 2 → (mY M).name = "<init>" ∧ Cond.instanceMethod (mY M) ∈ BIG ∧ mR M = none) ∧ (mR M = none ∨ mR M = some .int ∨ mR M = some .boolean ∨ mR M = some .long)
def ROK (P : List MT) (own : String) (i : Nat) (r : RES) : Prop := match r with
  | (0, ci, k, _) => ∃ q : vw_C, vwCl[ci]? = some q ∧ k < q.2.2 ∧ Cond.fieldLink own i (q.2.1 k).1 (q.2.1 k).2.1 (q.2.1 k).2.2.1 ∈ BIG
  | (1, ci, k, _) => ∃ (q : vw_C) (host : String), vwCl[ci]? = some q ∧ k < q.2.2 ∧ Cond.fieldLinkNest own i (q.2.1 k).1 (q.2.1 k).2.1 (q.2.1 k).2.2.1 host ∈ NST
  | (2, ci, n, _) => ∃ q : vw_C, vwCl[ci]? = some q ∧ q.2.2 = n ∧ Cond.classLink own i q.1 ∈ BIG ∧ Cond.instantiable q.1 n ∈ BIG ∧ Cond.initialized q.1 ∈ BIG
  | (3, t, _, _) => ∃ (q : vw_C) (i' : Nat), vwCl[e_acls t]? = some q ∧ i = i' + 100000 ∧ Cond.classLink own i' q.1 ∈ BIG ∧ (q.1 = "NounFast$Scene" ∨ q.1 = "NounFast$Sentence")
  | (4, j, _, _) => ∃ M : MT, P[j]? = some M ∧ Cond.methodLink own i (mY M) ∈ BIG
  | (5, j, _, _) => ∃ (M : MT) (host : String), P[j]? = some M ∧ Cond.methodLinkNest own i (mY M) host ∈ NST
  | (6, _, _, _) => Cond.methodLink own i Lib.objectInit ∈ BIG
  | (7, _, _, _) => Cond.methodLink own i arraycopyName ∈ BIG
  | (9, _, _, v) => Cond.constantLong own i (Int64.ofInt v) ∈ BIG ∧ -9223372036854775808 ≤ v ∧ v < 9223372036854775808
  | _ => True
def POK (P : List MT) (RT : List (List (Nat × RES))) (OW : List String) : Prop :=
  (∀ (j : Nat) (M : MT), P[j]? = some M → MOK M ∧ TOK OW M ∧ OW[mO M]? = some (mY M).cls) ∧ (∀ (o : Nat) (own : String) (L : List (Nat × RES)), OW[o]? = some own → RT[o]? = some L → ∀ q ∈ L, ROK P own q.1 q.2) ∧
  (Cond.instanceMethod Lib.objectInit ∈ BIG ∧ Cond.code Lib.objectInit ⟨#[0xb1]⟩ 1 none ∈ BIG ∧ Cond.native arraycopyName ∈ BIG ∧ Cond.static arraycopyName ∈ BIG ∧ Cond.initialized "java/lang/System" ∈ BIG ∧ ∀ (a : ArrayType) (t : Nat), e_atype a = some t → Cond.arrayClass (newarray.typeOf a) ∈ BIG)
def Scr (ν : Nat → Int) (b : Nat) (A : Nat → Prop) (s : State) : Prop := ∃ (L : Nat) (xs : Nat → Int32), va_X b L xs s s.heap ∧ b < s.heap.size ∧ ¬ A b ∧ (∀ k, k < L → (xs k).toInt = ν k) ∧ ν 6 = (L : Int) ∧ L < 65536
def Ctx (OW : List String) (D : va_G) (cy : Nat → ClassId) (ν : Nat → Int) (b : Nat) (M : MT) (own : String) (p : Program) (R : Room) (s : State) (m : MethodId) (args : Array Value) (meth : Method) (c : Code) (A : Nat → Prop) (sc : Bool) : Prop :=
  p.tables.exec = Jvm.exec ∧ c.code = mC M ∧ c.maxLocals = mL M ∧ OW[mO M]? = some own ∧ s.vm.findClass own = some m.cls ∧ (∀ w ∈ BIG, w.before args s = true) ∧ KK D cy s ∧ (∀ q, s.heap.size ≤ q → A q) ∧ (mK M = 2 → meth.name = "<init>") ∧ R = mRm M ∧ TOK OW M ∧ (sc = true → Scr ν b A s)
def Safe (D : va_G) (cy : Nat → ClassId) (ν : Nat → Int) (b : Nat) (pool : va_W) (al0 : List Nat) (M : MT) (p : Program) (l : Launch) (e : Env) (R : Room) (s : State) (m : MethodId) (args : Array Value) (below : List Frame) (meth : Method) (c : Code) (A : Nat → Prop) (Q : State → Prop) (S : ST) : Prop :=
  ∀ (H : Heap) (locs : List Loc) (ls : Array Slot) (lv : List (Nat × Value)) (vs : List Value) (ws : va_W), lv_has ls (mL M) lv → glv ν (alw ws) b S.2.1 lv → gvs ν (alw ws) b S.2.2.1 vs → genv ν S.2.2.2.1 → Wd D cy A s.heap pool ν b S.2.2.2.2.1 ws H locs → (∃ more, alw ws = al0 ++ more) →
    W p l e R s m args below meth c H locs S.2.2.2.2.2.1 S.2.2.2.2.2.2 Q (F0 m S.1 ls vs)
def RV (ν : Nat → Int) (al : List Nat) (b : Nat) (M : MT) (ins : Instr) (r : Option AV) (v : Option Value) : Prop :=
  (ins = .ireturn ∧ ∃ (a : AV) (x : Int32) (ty : FieldType), r = some a ∧ v = some (.int x) ∧ gv ν al b a (.int x) ∧ mR M = some ty ∧ (ty = .int ∨ ty = .boolean) ∧ narrow ty (.int x) = .int x) ∨
  (ins = .lreturn ∧ ∃ (a : AV) (x : Int64), r = some a ∧ v = some (.long x) ∧ gv ν al b a (.long x) ∧ mR M = some .long) ∨
  (ins = .return_ ∧ r = none ∧ v = none ∧ mR M = none)
def RetOK (D : va_G) (cy : Nat → ClassId) (ν : Nat → Int) (b : Nat) (pool : va_W) (al0 : List Nat) (M : MT) (p : Program) (l : Launch) (e : Env) (R : Room) (s : State) (m : MethodId) (args : Array Value) (below : List Frame) (meth : Method) (c : Code) (A : Nat → Prop) (Q : State → Prop) (outs : List OUT) : Prop :=
  ∀ o ∈ outs, ∀ (ins : Instr) (pc : Nat) (H : Heap) (locs : List Loc) (ls : Array Slot) (ws : va_W) (v : Option Value), decode (mC M) pc = .ok (ins, 1) → RV ν (alw ws) b M ins o.1 v → genv ν o.2.1 → Wd D cy A s.heap pool ν b o.2.2 ws H locs → (∃ more, alw ws = al0 ++ more) →
    W p l e R s m args below meth c H locs (mNc M) (mNs M) Q (F0 m pc ls v.toList)
section STEPS
variable {RT : List (List (Nat × RES))} {P : List MT} {OW : List String} {ν : Nat → Int} {b : Nat} {cy : Nat → ClassId} {pool : va_W} {D : va_G} {A : Nat → Prop} {al0 : List Nat} {M : MT} {own : String} {sc : Bool}
variable {p : Program} {l : Launch} {e : Env} {R : Room} {s : State} {m : MethodId} {args : Array Value} {below : List Frame} {meth : Method} {c : Code} {Q : State → Prop}
theorem s_simple {S S' : ST} {ins : Instr} {len : Nat} (X : Ctx OW D cy ν b M own p R s m args meth c A sc) (h : e_st1p M S ins len = some S') (hd : decode (mC M) S.1 = .ok (ins, len)) (k : Safe D cy ν b pool al0 M p l e R s m args below meth c A Q S') : Safe D cy ν b pool al0 M p l e R s m args below meth c A Q S := by
  obtain ⟨pc, lo, st, E, C, nc, ns⟩ := S
  unfold e_st1p at h
  simp only at h
  split at h
  · rename_i n lo' st' h1
    split at h
    · rename_i h2
      have h2 := Nat.eq_of_beq_eq_true h2
      cases h
      subst h2
      intro H locs ls lv vs ws a1 a2 a3 a4 a5 a6
      exact e_simple_ok X.1 X.2.1 h1 hd a1 a2 a3 a4 (fun ls' lv' vs' b1 b2 b3 => k H locs ls' lv' vs' ws b1 b2 b3 a4 a5 a6)
    · cases h
  · cases h
theorem s_branch {S : ST} {x : List ST} {ins : Instr} {len : Nat} (X : Ctx OW D cy ν b M own p R s m args meth c A sc) (h : e_bst S ins len = some x) (hd : decode (mC M) S.1 = .ok (ins, len)) (k : ∀ S' ∈ x, Safe D cy ν b pool al0 M p l e R s m args below meth c A Q S') : Safe D cy ν b pool al0 M p l e R s m args below meth c A Q S := by
  obtain ⟨pc, lo, st, E, C, nc, ns⟩ := S
  unfold e_bst at h
  simp only at h
  split at h
  · rename_i brs h1
    cases h
    intro H locs ls lv vs ws a1 a2 a3 a4 a5 a6
    refine e_branch_ok X.1 X.2.1 h1 hd a3 a4 (fun br hbr vs' b1 b2 => ?_)
    exact k _ (List.mem_map.mpr ⟨br, hbr, rfl⟩) H locs ls lv vs' ws a1 a2 b2 b1 a5 a6
  · cases h
end STEPS
