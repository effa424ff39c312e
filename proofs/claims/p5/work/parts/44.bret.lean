/-! ends, calls: what a contract says -/
abbrev rmR (rm : RMt) : Room := { frames := rm.1, cells := rm.2.1, slots := rm.2.2.1, locals := rm.2.2.2 }
/-- at a call: the cells, what is outside -/
def PJ2 (D : va_G) (cy : Nat → ClassId) (EW : EWt) (ex : Nat → Nat) (wp : va_W) (vs : List Value) (sz : Nat) : Array Value → State → Prop := va_Pc vs (fun U => U.heap.size = sz ∧ va_P D vwCl wp U.heap ∧ KK D cy U ∧ va_D (fun _ => True) wp ∧ EW ex (va_A wp sz) U)
/-- behind a call: names, kinds, cells, which end -/
abbrev UQ : Type := IN × List Nat × va_W × OUB
def PO2 (T : TBt) (FP : Nat → CUt → List Int → Prop) (cy : Nat → ClassId) (I0 : IN) (ks0 : List Nat) (wp0 : va_W) (wr : WR) (outs : List OUB) (u : UQ) : Prop := u.2.2.2 ∈ outs ∧ hxt I0 u.1 ∧ HS T FP cy u.1 u.2.1 u.2.2.1 u.2.2.2.2 ∧ Unch wr ks0 wp0 u.2.1 u.2.2.1
def BO2 (D : va_G) (A : Nat → Prop) (u : UQ) (t : State) : Prop := va_P D vwCl u.2.2.1 t.heap ∧ va_D A u.2.2.1
def QJ2 (T : TBt) (FP : Nat → CUt → List Int → Prop) (D : va_G) (cy : Nat → ClassId) (I0 : IN) (ks0 : List Nat) (wp0 : va_W) (wr : WR) (outs : List OUB) (A : Nat → Prop) (ret : Option FieldType) : Array Value → State → Outcome → State → Prop := match ret with
  | none => va_Qv (fun u : UQ => PO2 T FP cy I0 ks0 wp0 wr outs u ∧ u.2.2.2.1 = none) (BO2 D A) A
  | some .long => va_Ql (fun (r : Int64) (u : UQ) => PO2 T FP cy I0 ks0 wp0 wr outs u ∧ ∃ a, u.2.2.2.1 = some a ∧ hv u.1 a (.long r)) (BO2 D A) A
  | some _ => va_Qi (fun (r : Int32) (u : UQ) => PO2 T FP cy I0 ks0 wp0 wr outs u ∧ ∃ a, u.2.2.2.1 = some a ∧ hv u.1 a (.int r)) (BO2 D A) A
def RV2 (I : IN) (M : MT) (ins : Instr) (r : Option BV) (v : Option Value) : Prop :=
  (ins = .ireturn ∧ ∃ (a : BV) (x : Int32) (ty : FieldType), r = some a ∧ v = some (.int x) ∧ hv I a (.int x) ∧ mR M = some ty ∧ (ty = .int ∨ ty = .boolean) ∧ narrow ty (.int x) = .int x) ∨
  (ins = .lreturn ∧ ∃ (a : BV) (x : Int64), r = some a ∧ v = some (.long x) ∧ hv I a (.long x) ∧ mR M = some .long) ∨
  (ins = .return_ ∧ r = none ∧ v = none ∧ mR M = none)
def RetOK2 (T : TBt) (FP : Nat → CUt → List Int → Prop) (D : va_G) (cy : Nat → ClassId) (I0 : IN) (ks0 : List Nat) (wp0 : va_W) (wr : WR) (M : MT) (p : Program) (l : Launch) (e : Env) (R : Room) (s : State) (m : MethodId) (args : Array Value) (below : List Frame) (meth : Method) (c : Code) (A : Nat → Prop) (Q : State → Prop) (rm : RMt) (cb sb : Nat) (outs : List OUB) : Prop :=
  ∀ o ∈ outs, ∀ (ins : Instr) (pc : Nat) (I : IN) (H : Heap) (locs : List Loc) (ls : Array Slot) (ks : List Nat) (wp : va_W) (v : Option Value), decode (mC M) pc = .ok (ins, 1) → RV2 I M ins o.1 v → HS T FP cy I ks wp o.2 → va_P D vwCl wp H → va_D A wp → va_S A s.heap H locs → hxt I0 I → Unch wr ks0 wp0 ks wp →
    W p l e R s m args below meth c H locs (cb + rm.2.1) (sb + rm.2.2.1) Q (F0 m pc ls v.toList)
section BRET
variable {T : TBt} {FP : Nat → CUt → List Int → Prop} {OW : List String} {EW : EWt} {D : va_G} {cy : Nat → ClassId} {I0 : IN} {ks0 : List Nat} {wp0 : va_W} {wr : WR} {M : MT} {own : String}
variable {p : Program} {l : Launch} {e : Env} {R : Room} {s : State} {m : MethodId} {args : Array Value} {below : List Frame} {meth : Method} {c : Code} {A : Nat → Prop} {Q : State → Prop} {rm : RMt} {cb sb : Nat}
theorem hraw_none {rw0 : Option (Nat × Nat)} {I : IN} {raw : va_W} (h : rw0.isNone = true) (hr : hraw rw0 I raw) : raw = [] := by
  cases rw0 with
  | none => exact hr
  | some x => cases h
theorem s_ret2 {S : SB} {ins : Instr} {len : Nat} {r : Option BV} {outs : List OUB} (h : f_ret M rm S ins len = some r) (hd : decode (mC M) S.1 = .ok (ins, len)) (ho : (r, S.2.2.2.1) ∈ outs)
    (hR : RetOK2 T FP D cy I0 ks0 wp0 wr M p l e R s m args below meth c A Q rm cb sb outs) : Sf T FP D cy I0 ks0 wp0 wr M p l e R s m args below meth c A Q cb sb S := by
  obtain ⟨pc, lo, st, F, rw0, nc, ns⟩ := S
  intro I H locs ls lv vs ks wp raw a1 a2 a3 a4 a5 a6 a7 a8 a9 a10
  unfold f_ret at h
  simp only at h a2 a3 a4 a5 hd ho ⊢
  split at h
  · rename_i q
    simp only [Bool.and_eq_true] at q
    obtain ⟨q1, q2, q3, q4⟩ := q
    have q4 := beq3 q4
    subst q4
    have e9 := hraw_none q3 a5
    subst e9
    rw [List.append_nil] at a6 a7
    have q1 := Nat.le_of_ble_eq_true q1
    have q2 := Nat.le_of_ble_eq_true q2
    refine W.widen (k := cb + rm.2.1) (n := sb + rm.2.2.1) (by omega) (by omega) ?_
    split at h
    · rename_i a hr
      split at h
      · rename_i h1
        cases h
        obtain ⟨v, vs1, rfl, g1, g2⟩ := hvs_cons a3
        rw [hvs_nil g2]
        obtain ⟨x, rfl⟩ := hv_isI g1 h1
        exact hR _ ho _ pc I H locs ls ks wp (some (.int x)) hd (Or.inl ⟨rfl, a, x, .int, rfl, rfl, g1, hr, Or.inl rfl, rfl⟩) a4 a6 a7 a8 a9 a10
      · cases h
    · rename_i a hr
      split at h
      · rename_i lo9 hi9 hq1
        split at h
        · rename_i w
          simp only [Bool.and_eq_true, decide_eq_true_eq] at w
          cases h
          obtain ⟨v, vs1, rfl, g1, g2⟩ := hvs_cons a3
          rw [hvs_nil g2]
          obtain ⟨x, rfl, y1, y2⟩ := hv_int a4.2.1 g1 hq1
          refine hR _ ho _ pc I H locs ls ks wp (some (.int x)) hd (Or.inl ⟨rfl, a, x, .boolean, rfl, rfl, g1, hr, Or.inr rfl, ?_⟩) a4 a6 a7 a8 a9 a10
          rcases en_b01 (x := x) (by omega) (by omega) with rfl | rfl <;> decide
        · cases h
      · cases h
    · rename_i a hr
      split at h
      · rename_i h1
        cases h
        obtain ⟨v, vs1, rfl, g1, g2⟩ := hvs_cons a3
        rw [hvs_nil g2]
        obtain ⟨x, rfl⟩ := hv_isL g1 h1
        exact hR _ ho _ pc I H locs ls ks wp (some (.long x)) hd (Or.inr (Or.inl ⟨rfl, a, x, rfl, rfl, g1, hr⟩)) a4 a6 a7 a8 a9 a10
      · cases h
    · rename_i hr
      cases h
      rw [hvs_nil a3]
      exact hR _ ho _ pc I H locs ls ks wp none hd (Or.inr (Or.inr ⟨rfl, rfl, rfl, hr⟩)) a4 a6 a7 a8 a9 a10
    · cases h
  · cases h
theorem f_args_ok {I : IN} : ∀ {as : List BV} {vs : List Value} (i : Nat), hvs I as vs → hlv I (f_args i as) (lv_args i vs) := by
  intro as
  induction as with
  | nil => intro vs i h; rw [hvs_nil h]; trivial
  | cons a r ih =>
    intro vs i h
    obtain ⟨v, vs', rfl, g1, g2⟩ := hvs_cons h
    refine ⟨⟨rfl, g1⟩, ?_⟩
    have e9 : (if v.category = 2 then i + 2 else i + 1) = (if f_isL a = true then i + 2 else i + 1) := by
      cases h9 : f_isL a with
      | true => rw [hv_cat2 g1 h9]; rfl
      | false => rw [hv_cat1 g1 h9]; rfl
    show hlv I (f_args _ r) (lv_args (if v.category = 2 then i + 2 else i + 1) vs')
    rw [e9]
    exact ih _ g2
theorem f_ctg_ok {I : IN} {st : List BV} {vs : List Value} (h : hvs I st vs) : (vs.map fun v => v.category).sum = f_ctg st := by
  induction st generalizing vs with
  | nil => rw [hvs_nil h]; rfl
  | cons a r ih =>
    obtain ⟨v, vs', rfl, g1, g2⟩ := hvs_cons h
    rw [List.map_cons, List.sum_cons, ih g2]
    show v.category + f_ctg r = (if f_isL a = true then 2 else 1) + f_ctg r
    cases h9 : f_isL a with
    | true => rw [hv_cat2 g1 h9]; rfl
    | false => rw [hv_cat1 g1 h9]; rfl
/-- a method's contract out of its walk from the entry -/
theorem met_of2 {M' : MT} {as : List BV} {vs : List Value} {F : FS} {I : IN} {ks : List Nat} {wp : va_W} {outs : List OUB} {rm' : RMt} (sz : Nat) (hEW : EWOK EW) (hM : MOK M') (hT : TOK OW M') (ho : OW[mO M']? = some (mY M').cls) (hg : hvs I as vs) (hF : HS T FP cy I ks wp F) (hl : f_ctg as ≤ mL M')
    (walk : ∀ (p : Program) (e : Env) (s : State) (m : MethodId) (args : Array Value) (below : List Frame) (meth : Method) (c : Code) (A : Nat → Prop) (Q : State → Prop), Cx OW EW D cy I.2.2 M' (mY M').cls p (rmR rm') s m args meth c A rm' 0 0 → RetOK2 T FP D cy I ks wp wr M' p l e (rmR rm') s m args below meth c A Q rm' 0 0 outs → Sf T FP D cy I ks wp wr M' p l e (rmR rm') s m args below meth c A Q 0 0 (0, f_args 0 as, [], F, none, 0, 0)) :
    Met l (mY M') (mW M') (rmR rm') (PJ2 D cy EW I.2.2 wp vs sz) (QJ2 T FP D cy I ks wp wr outs (va_A wp sz) (mR M')) rm'.2.1 rm'.2.2.1 (va_A wp sz) := by
  obtain ⟨m1, m2, m3, m4, m5, m6, m7, m8, m9⟩ := hM
  refine va_MetF (cc := mC M') (maxL := mL M') (ret := mR M') m1 rfl ?_
  intro p e s m args below meth c s₁ B hml hv0
  obtain ⟨rfl, hsz, hP, hK, hD0, hE⟩ := hv0
  have hx := B.exec
  have hb := B.bytes
  have hr := B.returns
  have hts := atoms_spec (ws := mW M') B.pre
  have hown : s.vm.findClass (mY M').cls = some m.cls := findClass_of_methodNamed B.named
  have hlocks := B.notSynchronized
  subst hsz
  have hD := hD0.self (sz := s.heap.size)
  generalize hAe : va_A wp s.heap.size = A at hD hE ⊢
  have hA : ∀ q : Nat, s.heap.size ≤ q → A q := fun q h => by rw [← hAe]; exact Or.inr h
  have hS : va_S A s.heap s.heap [] := va_S.rf
  have hlen : (lg_sl vs).length ≤ mL M' := by rw [lg_len, f_ctg_ok hg]; exact hl
  have hlv := lv_entry vs (n := mL M') hlen
  rw [lg_entry_eq]
  generalize (lg_sl vs ++ List.replicate (mL M' - (lg_sl vs).length) Slot.unset).toArray = ls at hlv ⊢
  have X : Cx OW EW D cy I.2.2 M' (mY M').cls p (rmR rm') s m vs.toArray meth c A rm' 0 0 := ⟨hx, hb, hml, ho, hown, fun w hw => hts w (List.mem_cons_of_mem _ hw), hK, hA, hT, hE, Nat.le_refl _, by simp, by simp, Nat.le_refl _⟩
  refine walk p e s m vs.toArray below meth c A _ X ?_ I s.heap [] ls (lv_args 0 vs) [] ks wp [] hlv (f_args_ok 0 hg) trivial hF rfl (by rw [List.append_nil]; exact hP) (by rw [List.append_nil]; exact hD) hS hxt.rf Unch.rf
  intro o ho9 ins pc I1 H locs ls' ks1 wp1 v hd hv9 hF' w2 w3 w4 hx1 hu
  have po : PO2 T FP cy I ks wp wr outs (I1, ks1, wp1, o) := ⟨ho9, hx1, hF', hu⟩
  rw [Nat.zero_add, Nat.zero_add]
  rcases hv9 with ⟨rfl, a, x, ty, e1, rfl, g1, e2, e3, e4⟩ | ⟨rfl, a, x, e1, rfl, g1, e2⟩ | ⟨rfl, e1, rfl, e2⟩
  · have hq : QJ2 T FP D cy I ks wp wr outs A (mR M') = va_Qi (fun (r : Int32) (u : UQ) => PO2 T FP cy I ks wp wr outs u ∧ ∃ a, u.2.2.2.1 = some a ∧ hv u.1 a (.int r)) (BO2 D A) A := by
      rw [e2]
      rcases e3 with rfl | rfl <;> rfl
    rw [hq]
    rw [e2] at hr
    exact W.zret hx hb hr e4 (fun t ht hW9 => ⟨⟨x, (I1, ks1, wp1, o), rfl, ⟨po, a, e1, g1⟩, by rw [BO2, ht]; exact ⟨w2, w3⟩⟩, w4.F ht⟩) w4.2.2 hd
  · have hq : QJ2 T FP D cy I ks wp wr outs A (mR M') = va_Ql (fun (r : Int64) (u : UQ) => PO2 T FP cy I ks wp wr outs u ∧ ∃ a, u.2.2.2.1 = some a ∧ hv u.1 a (.long r)) (BO2 D A) A := by
      rw [e2]; rfl
    rw [hq]
    rw [e2] at hr
    exact W.lret hx hb hr (fun t ht hW9 => ⟨⟨x, (I1, ks1, wp1, o), rfl, ⟨po, a, e1, g1⟩, by rw [BO2, ht]; exact ⟨w2, w3⟩⟩, w4.F ht⟩) w4.2.2 hd
  · have hq : QJ2 T FP D cy I ks wp wr outs A (mR M') = va_Qv (fun u : UQ => PO2 T FP cy I ks wp wr outs u ∧ u.2.2.2.1 = none) (BO2 D A) A := by
      rw [e2]; rfl
    rw [hq]
    rw [e2] at hr
    exact W.vret hx hb hr (fun t ht hW9 => ⟨⟨(I1, ks1, wp1, o), rfl, ⟨po, e1⟩, by rw [BO2, ht]; exact ⟨w2, w3⟩⟩, w4.F ht⟩) w4.2.2 hd
theorem pj2_blind {wp : va_W} {vs : List Value} {sz : Nat} {ex : Nat → Nat} (hEW : EWOK EW) : FrameBlind (PJ2 D cy EW ex wp vs sz) := fun a U g mk q => by
  obtain ⟨q0, q1, qP, qK, qD, qE⟩ := q
  exact ⟨q0, q1, qP, qK.calling, qD, hEW.2 _ _ _ _ _ _ qE⟩
def rvl (I : IN) (r : Option BV) (v : Option Value) : Prop := match r, v with
  | none, none => True
  | some a, some x => hv I a x
  | _, _ => False
/-- behind a call that has run -/
theorem s_aft2 {M' : MT} {H : Heap} {locs : List Loc} {ls : Array Slot} {pc nc ns mc ms : Nat} {vr : List Value} {ks : List Nat} {wp : va_W} {st0 : List Value} {a0 : Array Value} {outs : List OUB} {Ic : IN} {wrc : WR} (hA : ∀ q, s.heap.size ≤ q → A q) (hr9 : mR M' = none ∨ mR M' = some .int ∨ mR M' = some .boolean ∨ mR M' = some .long)
    (run : va_Run p l e R s m args below meth c H locs nc ns mc ms (F0 m pc ls st0) vr (QJ2 T FP D cy Ic ks wp wrc outs (va_A wp H.size) (mR M') a0) (va_A wp H.size))
    (w3 : va_D A wp) (w4 : va_S A s.heap H locs)
    (k : ∀ (u : UQ) (r : Option Value) (H1 : Heap) (locs1 : List Loc), PO2 T FP cy Ic ks wp wrc outs u → rvl u.1 u.2.2.2.1 r → va_P D vwCl u.2.2.1 H1 → va_D A u.2.2.1 → va_S A s.heap H1 locs1 → W p l e R s m args below meth c H1 locs1 (nc + mc) (ns + ms) Q (F0 m (pc + 3) ls (r.toList ++ vr))) : W p l e R s m args below meth c H locs nc ns Q (F0 m pc ls st0) := by
  have hF : ∀ q, va_A wp H.size q → A q := by
    intro q hq
    rcases hq with ⟨kq, eq, h1⟩ | h1
    · exact w3.2 _ _ h1
    · exact hA q (Nat.le_trans w4.1 h1)
  rcases hr9 with e9 | e9 | e9 | e9
  · rw [e9] at run
    refine va_callv (a := a0) run w4 (fun q _ hq => hF q hq) hF (fun u t H1 locs1 ht hvm hw hB hz hk hS => ?_)
    exact k u none H1 locs1 hw.1 (by rw [hw.2]; trivial) (by rw [← ht]; exact hB.1) (hB.2.weaken (fun _ _ _ hq => hF _ hq)) hS
  · rw [e9] at run
    refine va_calli (a := a0) run w4 (fun q _ hq => hF q hq) hF (fun r u t H1 locs1 ht hvm hw hB hz hk hS => ?_)
    obtain ⟨a, ha, ga⟩ := hw.2
    exact k u (some (.int r)) H1 locs1 hw.1 (by rw [ha]; exact ga) (by rw [← ht]; exact hB.1) (hB.2.weaken (fun _ _ _ hq => hF _ hq)) hS
  · rw [e9] at run
    refine va_calli (a := a0) run w4 (fun q _ hq => hF q hq) hF (fun r u t H1 locs1 ht hvm hw hB hz hk hS => ?_)
    obtain ⟨a, ha, ga⟩ := hw.2
    exact k u (some (.int r)) H1 locs1 hw.1 (by rw [ha]; exact ga) (by rw [← ht]; exact hB.1) (hB.2.weaken (fun _ _ _ hq => hF _ hq)) hS
  · rw [e9] at run
    refine va_calll (a := a0) run w4 (fun q _ hq => hF q hq) hF (fun r u t H1 locs1 ht hvm hw hB hz hk hS => ?_)
    obtain ⟨a, ha, ga⟩ := hw.2
    exact k u (some (.long r)) H1 locs1 hw.1 (by rw [ha]; exact ga) (by rw [← ht]; exact hB.1) (hB.2.weaken (fun _ _ _ hq => hF _ hq)) hS
theorem f_take_ok {I : IN} : ∀ (n : Nat) {st acc as rest : List BV} {vs vacc : List Value}, f_take n st acc = some (as, rest) → hvs I st vs → hvs I acc vacc → ∃ vas vr, vs = vas ++ vr ∧ vas.length = n ∧ hvs I as (vas.reverse ++ vacc) ∧ hvs I rest vr := by
  intro n
  induction n with
  | zero =>
    intro st acc as rest vs vacc h h1 h2
    simp only [f_take] at h
    cases h
    exact ⟨[], vs, rfl, rfl, h2, h1⟩
  | succ n ih =>
    intro st acc as rest vs vacc h h1 h2
    unfold f_take at h
    cases st with
    | nil => cases h
    | cons a r =>
      simp only at h
      obtain ⟨v, vs', rfl, g1, g2⟩ := hvs_cons h1
      obtain ⟨vas, vr, rfl, e2, g3, g4⟩ := ih h g2 (show hvs I (a :: acc) (v :: vacc) from ⟨g1, h2⟩)
      refine ⟨v :: vas, vr, rfl, by simp [e2], ?_, g4⟩
      simpa using g3
end BRET
