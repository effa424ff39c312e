/-! the z engine: steps at the heap, blocks, branches, contracts -/
abbrev ZS : Type := Nat × List (Nat × ZV) × List ZV × ZW
abbrev ZH : Type := Nat × List ZV × ZW × List Prop
def zidx (j : Int) (n : Nat) : Prop := 0 ≤ j ∧ j < (n : Int) ∧ j < 2147483648
def z_hst (RT : List (List (Nat × RES))) (M : MT) (ins : Instr) (i : Nat) (st : List ZV) (Y : ZW) : Option ZH := match ins with
  | .getfield ix => (match e_res RT (mO M) ix, st, Y[i]? with
    | some (kd, ci, k, _), .inr (.inr (some q)) :: st', some (q', .inl (ci', fs)) => (match fs[k]? with
      | some v => if (Nat.ble kd 1 && Nat.beq ci ci') = true then some (3, v :: st', Y, [q = q']) else none
      | none => none)
    | _, _, _ => none)
  | .putfield ix => (match e_res RT (mO M) ix, st, Y[i]? with
    | some (kd, ci, k, _), v :: .inr (.inr (some q)) :: st', some (q', .inl (ci', fs)) => if (Nat.ble kd 1 && (Nat.beq ci ci' && (f_plainF ci k && decide (k < fs.length)))) = true then some (3, st', Y.set i (q', .inl (ci', fs.set k v)), [q = q', narrow (clTy ci k) (zv v) = zv v, fits (clTy ci k) (zv v) = true]) else none
    | _, _, _ => none)
  | .arraylength => (match st, Y[i]? with
    | .inr (.inr (some q)) :: st', some (q', .inr (.inl (t, n, _))) => some (1, .inl (n : Int) :: st', Y, [q = q', t < 6])
    | .inr (.inr (some q)) :: st', some (q', .inr (.inr (n, _))) => some (1, .inl (n : Int) :: st', Y, [q = q'])
    | _, _ => none)
  | .iaload => (match st, Y[i]? with
    | .inl j :: .inr (.inr (some q)) :: st', some (q', .inr (.inl (t, n, f))) => some (1, .inl (f j.toNat) :: st', Y, [q = q', t = 0, zidx j n])
    | _, _ => none)
  | .baload => (match st, Y[i]? with
    | .inl j :: .inr (.inr (some q)) :: st', some (q', .inr (.inl (t, n, f))) => some (1, .inl (f j.toNat) :: st', Y, [q = q', t = 1, zidx j n])
    | _, _ => none)
  | .laload => (match st, Y[i]? with
    | .inl j :: .inr (.inr (some q)) :: st', some (q', .inr (.inr (n, f))) => some (1, .inr (.inl (f j.toNat)) :: st', Y, [q = q', zidx j n])
    | _, _ => none)
  | .iastore => (match st, Y[i]? with
    | .inl x :: .inl j :: .inr (.inr (some q)) :: st', some (q', .inr (.inl (t, n, f))) => some (1, st', Y.set i (q', .inr (.inl (t, n, zup f j.toNat x))), [q = q', t = 0, zidx j n])
    | _, _ => none)
  | .lastore => (match st, Y[i]? with
    | .inr (.inl x) :: .inl j :: .inr (.inr (some q)) :: st', some (q', .inr (.inr (n, f))) => some (1, st', Y.set i (q', .inr (.inr (n, zup f j.toNat x))), [q = q', zidx j n])
    | _, _ => none)
  | .ldc2_w ix => (match e_res RT (mO M) ix with
    | some (kd, _, _, v) => if Nat.beq kd 9 = true then some (3, .inr (.inl v) :: st, Y, []) else none
    | none => none)
  | .ldc ix => (match e_res RT (mO M) ix with
    | some (kd, _, _, v) => if Nat.beq kd 11 = true then some (2, .inl v :: st, Y, []) else none
    | none => none)
  | .ldc_w ix => (match e_res RT (mO M) ix with
    | some (kd, _, _, v) => if Nat.beq kd 11 = true then some (3, .inl v :: st, Y, []) else none
    | none => none)
  | _ => none
def z_one (RT : List (List (Nat × RES))) (M : MT) (hs : List Nat) (S : ZS) : Option (ZS × List Nat × List Prop) := match S with
  | (pc, lv, st, Y) => (match x_at (mT M) pc with
    | some (ins, len) => (match x_jmp pc ins with
      | some tgt => if Nat.beq len 3 = true then some ((tgt, lv, st, Y), hs, []) else none
      | none => if x_hint ins = true then (match hs with
          | i :: hs' => (match z_hst RT M ins i st Y with
            | some (n, st', Y', ob) => if Nat.beq n len = true then some ((pc + n, lv, st', Y'), hs', ob) else none
            | none => none)
          | [] => none)
        else (match z_mov (mL M) ins lv st with
          | some (n, lv', st', ob) => if Nat.beq n len = true then some ((pc + n, lv', st', Y), hs, ob) else none
          | none => none))
    | none => none)
def z_blk (RT : List (List (Nat × RES))) (M : MT) : Nat → List Nat → ZS → Option (ZS × List Prop)
  | 0, _, S => some (S, [])
  | n + 1, hs, S => (match z_one RT M hs S with
    | some (S', hs', ob) => (match z_blk RT M n hs' S' with
      | some (S2, ob2) => some (S2, ob ++ ob2)
      | none => none)
    | none => none)
def zs (cy : Nat → ClassId) (r : va_W) (S : ZS) : XS := (S.1, zl S.2.1, S.2.2.1.map zv, zw cy S.2.2.2 ++ r)
theorem zw_at {cy : Nat → ClassId} {Y : ZW} {r : va_W} {i : Nat} {q : Nat} {e : ZE} (h : Y[i]? = some (q, e)) : (zw cy Y ++ r)[i]? = some (q, ze cy e) := by
  rw [List.getElem?_append_left (by rw [zw, List.length_map]; exact (List.getElem?_eq_some_iff.mp h).1), zw, List.getElem?_map, h]
  rfl
theorem zw_set {cy : Nat → ClassId} {Y : ZW} {r : va_W} {i : Nat} {q q' : Nat} {e e' : ZE} (h : Y[i]? = some (q, e)) : (zw cy Y ++ r).set i (q', ze cy e') = zw cy (Y.set i (q', e')) ++ r := by
  rw [List.set_append_left _ _ (by rw [zw, List.length_map]; exact (List.getElem?_eq_some_iff.mp h).1), zw, zw, List.map_set]
  rfl
set_option maxHeartbeats 4000000 in
theorem z_hst_ok {RT : List (List (Nat × RES))} {cy : Nat → ClassId} {r : va_W} {M : MT} {ins : Instr} {i n : Nat} {st st' : List ZV} {Y Y' : ZW} {ob : List Prop} (h : z_hst RT M ins i st Y = some (n, st', Y', ob)) (ho : x_all ob) : ∃ ob', x_hst RT cy M ins i (st.map zv) (zw cy Y ++ r) = some (n, st'.map zv, zw cy Y' ++ r, ob') ∧ x_all ob' := by
  unfold z_hst at h
  split at h
  · split at h
    · rename_i kd ci k z q st1 q' ci' fs hr hw
      split at h
      · rename_i v hv
        split at h
        · rename_i w
          cases h
          refine ⟨[q = q'], ?_, ho⟩
          unfold x_hst
          simp only [hr, List.map_cons, zv, zw_at hw, ze, List.getElem?_map, hv, Option.map_some, w, if_true]
        · cases h
      · cases h
    · cases h
  · split at h
    · rename_i kd ci k z v q st1 q' ci' fs hr hw
      split at h
      · rename_i w
        cases h
        refine ⟨_, ?_, ho⟩
        rw [← zw_set hw]
        unfold x_hst
        simp only [hr, List.map_cons, zw_at hw, ze, show zv (.inr (.inr (some q))) = Value.ref q from rfl]
        simp only [List.length_map, w, if_true, List.map_set]
      · cases h
    · cases h
  · split at h
    · rename_i q st1 q' t n0 f hw
      cases h
      refine ⟨[q = q', ∃ t', t' < 6 ∧ cy t = cy t'], ?_, ho.1, ⟨t, ho.2.1, rfl⟩, trivial⟩
      unfold x_hst
      simp only [List.map_cons, zv, zw_at hw, ze, Int32.ofInt_eq_ofNat]
    · rename_i q st1 q' n0 f hw
      cases h
      refine ⟨[q = q', ∃ t', t' < 6 ∧ cy 3 = cy t'], ?_, ho.1, ⟨3, by decide, rfl⟩, trivial⟩
      unfold x_hst
      simp only [List.map_cons, zv, zw_at hw, ze, Int32.ofInt_eq_ofNat]
    · cases h
  · split at h
    · rename_i j q st1 q' t n0 f hw
      cases h
      obtain ⟨o1, o2, o3, -⟩ := ho
      subst o2
      refine ⟨[q = q', cy 0 = cy 0, vp_in (Int32.ofInt j) n0], ?_, o1, rfl, z_vin o3, trivial⟩
      unfold x_hst
      simp only [List.map_cons, zv, zw_at hw, ze, rI, z_tn o3.1 o3.2.2]
    · cases h
  · split at h
    · rename_i j q st1 q' t n0 f hw
      cases h
      obtain ⟨o1, o2, o3, -⟩ := ho
      subst o2
      refine ⟨[q = q', cy 1 = cy 1, vp_in (Int32.ofInt j) n0], ?_, o1, rfl, z_vin o3, trivial⟩
      unfold x_hst
      simp only [List.map_cons, zv, zw_at hw, ze, rI, z_tn o3.1 o3.2.2]
    · cases h
  · split at h
    · rename_i j q st1 q' n0 f hw
      cases h
      obtain ⟨o1, o3, -⟩ := ho
      refine ⟨[q = q', cy 3 = cy 3, vp_in (Int32.ofInt j) n0], ?_, o1, rfl, z_vin o3, trivial⟩
      unfold x_hst
      simp only [List.map_cons, zv, zw_at hw, ze, rL, z_tn o3.1 o3.2.2]
    · cases h
  · split at h
    · rename_i x j q st1 q' t n0 f hw
      cases h
      obtain ⟨o1, o2, o3, -⟩ := ho
      subst o2
      refine ⟨[q = q', cy 0 = cy 0, vp_in (Int32.ofInt j) n0], ?_, o1, rfl, z_vin o3, trivial⟩
      rw [← zw_set hw]
      unfold x_hst
      simp only [List.map_cons, zv, zw_at hw, ze, z_tn o3.1 o3.2.2, z_upI]
    · cases h
  · split at h
    · rename_i x j q st1 q' n0 f hw
      cases h
      obtain ⟨o1, o3, -⟩ := ho
      refine ⟨[q = q', cy 3 = cy 3, vp_in (Int32.ofInt j) n0], ?_, o1, rfl, z_vin o3, trivial⟩
      rw [← zw_set hw]
      unfold x_hst
      simp only [List.map_cons, zv, zw_at hw, ze, z_tn o3.1 o3.2.2, z_upL]
    · cases h
  · split at h
    · rename_i kd z1 z2 v hr
      split at h
      · rename_i w
        cases h
        refine ⟨[], ?_, trivial⟩
        unfold x_hst
        simp only [hr, w, if_true, List.map_cons, zv]
      · cases h
    · cases h
  · split at h
    · rename_i kd z1 z2 v hr
      split at h
      · rename_i w
        cases h
        refine ⟨[], ?_, trivial⟩
        unfold x_hst
        simp only [hr, w, if_true, List.map_cons, zv]
      · cases h
    · cases h
  · split at h
    · rename_i kd z1 z2 v hr
      split at h
      · rename_i w
        cases h
        refine ⟨[], ?_, trivial⟩
        unfold x_hst
        simp only [hr, w, if_true, List.map_cons, zv]
      · cases h
    · cases h
  · cases h
theorem z_one_ok {RT : List (List (Nat × RES))} {cy : Nat → ClassId} {r : va_W} {M : MT} {hs hs' : List Nat} {S S' : ZS} {ob : List Prop} (h : z_one RT M hs S = some (S', hs', ob)) (ho : x_all ob) : ∃ ob', x_one RT cy M hs (zs cy r S) = some (zs cy r S', hs', ob') ∧ x_all ob' := by
  obtain ⟨pc, lv, st, Y⟩ := S
  unfold z_one at h
  simp only at h
  unfold x_one zs
  simp only
  split at h
  · rename_i ins len hat
    rw [hat]
    simp only
    split at h
    · rename_i tgt hj
      rw [hj]
      simp only
      split at h
      · rename_i w
        cases h
        refine ⟨[], ?_, trivial⟩
        rw [if_pos w]
      · cases h
    · rename_i hj
      rw [hj]
      simp only
      split at h
      · rename_i w
        rw [if_pos w]
        split at h
        · simp only
          split at h
          · rename_i n st' Y' ob1 hh
            split at h
            · rename_i w2
              cases h
              obtain ⟨ob', g1, g2⟩ := z_hst_ok (cy := cy) (r := r) hh ho
              refine ⟨ob', ?_, g2⟩
              rw [g1]
              simp only [w2, if_true]
            · cases h
          · cases h
        · cases h
      · rename_i w
        rw [if_neg w]
        split at h
        · rename_i n lv' st' ob1 hm
          split at h
          · rename_i w2
            cases h
            obtain ⟨ob', g1, g2⟩ := z_mov_ok hm ho
            refine ⟨ob', ?_, g2⟩
            rw [g1]
            simp only [w2, if_true]
          · cases h
        · cases h
  · cases h
def z_args : Nat → List ZV → List (Nat × ZV)
  | _, [] => []
  | i, v :: vs => (i, v) :: z_args (cond (z_isL v) (i + 2) (i + 1)) vs
def ZG (D : va_G) (cy : Nat → ClassId) (r : va_W) (M : MT) (p : Program) (l : Launch) (e : Env) (R : Room) (s : State) (m : MethodId) (args : Array Value) (below : List Frame) (meth : Method) (c : Code) (A : Nat → Prop) (Q : State → Prop) (N K : Nat) (S : ZS) : Prop := XG D M p l e R s m args below meth c A Q N K (zs cy r S)
/-- a contract: given cells and arguments, the rest of the world is left alone -/
def ZMet (EW : EWt) (D : va_G) (cy : Nat → ClassId) (l : Launch) (ex : Nat → Nat) (M : MT) (rm : RMt) (Y : ZW) (vs : List ZV) (PO : Option ZV → ZW → Prop) : Prop :=
  ∀ r : va_W, XMet EW D cy l ex M rm (zw cy Y ++ r) (vs.map zv) (fun v u => ∃ (z : Option ZV) (Y' : ZW), v = z.map zv ∧ u = zw cy Y' ++ r ∧ PO z Y')
def ZRet (D : va_G) (cy : Nat → ClassId) (r : va_W) (M : MT) (p : Program) (l : Launch) (e : Env) (R : Room) (s : State) (m : MethodId) (args : Array Value) (below : List Frame) (meth : Method) (c : Code) (A : Nat → Prop) (Q : State → Prop) (rm : RMt) (PO : Option ZV → ZW → Prop) : Prop := XRet D M p l e R s m args below meth c A Q rm (fun v u => ∃ (z : Option ZV) (Y' : ZW), v = z.map zv ∧ u = zw cy Y' ++ r ∧ PO z Y')
section ZHP
variable {P : List MT} {RT : List (List (Nat × RES))} {OW : List String} {EW : EWt} {D : va_G} {cy : Nat → ClassId} {r : va_W} {ex : Nat → Nat} {M M' : MT} {own : String}
variable {p : Program} {l : Launch} {e : Env} {R : Room} {s : State} {m : MethodId} {args : Array Value} {below : List Frame} {meth : Method} {c : Code} {A : Nat → Prop} {Q : State → Prop} {rm rm' : RMt} {cb sb N K : Nat} {pc : Nat} {lv : List (Nat × ZV)} {st : List ZV} {Y : ZW} {PO : Option ZV → ZW → Prop}
theorem zg_blk (hP : POK2 P RT OW) (X : Cx OW EW D cy ex M own p R s m args meth c A rm cb sb) : ∀ (n : Nat) (hs : List Nat) {S S' : ZS} {ob : List Prop}, z_blk RT M n hs S = some (S', ob) → x_all ob → ZG D cy r M p l e R s m args below meth c A Q N K S' → ZG D cy r M p l e R s m args below meth c A Q N K S := by
  intro n
  induction n with
  | zero =>
    intro hs S S' ob h ho k
    simp only [z_blk] at h
    cases h
    exact k
  | succ n ih =>
    intro hs S S' ob h ho k
    unfold z_blk at h
    split at h
    · rename_i S1 hs1 ob1 h1
      split at h
      · rename_i S2 ob2 h2
        cases h
        obtain ⟨g1, g2⟩ := x_all_app ho
        obtain ⟨ob', w1, w2⟩ := z_one_ok (cy := cy) (r := r) h1 g1
        exact x_one_ok hP X w1 w2 (ih _ h2 g2 k)
      · cases h
    · cases h
/-- fewer locals, in any order -/
theorem zg_lv (lv' : List (Nat × ZV)) (h : ∀ q ∈ lv', q ∈ lv) (k : ZG D cy r M p l e R s m args below meth c A Q N K (pc, lv', st, Y)) : ZG D cy r M p l e R s m args below meth c A Q N K (pc, lv, st, Y) := by
  intro H locs ls a1 a2 a3 a4
  refine k H locs ls ⟨a1.1, a1.2.1, fun q hq => ?_⟩ a2 a3 a4
  obtain ⟨q0, h0, rfl⟩ := List.mem_map.mp hq
  exact a1.2.2 _ (List.mem_map.mpr ⟨q0, h q0 h0, rfl⟩)
theorem zg_cv {S S2 : ZS} (h : S = S2) (k : ZG D cy r M p l e R s m args below meth c A Q N K S2) : ZG D cy r M p l e R s m args below meth c A Q N K S := by
  rw [h]
  exact k
theorem zg_icmp (X : Cx OW EW D cy ex M own p R s m args meth c A rm cb sb) {cnd : Jvm.ClassFile.Cond} {off : Int} (tgt : Nat) {a b : Int} (hat : x_at (mT M) pc = some (.if_icmp cnd off, 3)) (ht : (pc : Int) + off = (tgt : Int)) (ha : zin a) (hb : zin b)
    (kt : x_cnd cnd a b → ZG D cy r M p l e R s m args below meth c A Q N K (tgt, lv, st, Y)) (kf : x_ncd cnd a b → ZG D cy r M p l e R s m args below meth c A Q N K (pc + 3, lv, st, Y)) : ZG D cy r M p l e R s m args below meth c A Q N K (pc, lv, .inl b :: .inl a :: st, Y) := by
  refine xg_icmp X tgt hat ht (fun h => kt ?_) (fun h => kf ?_)
  · rw [z_o32 ha, z_o32 hb] at h
    exact h
  · rw [z_o32 ha, z_o32 hb] at h
    exact h
theorem zg_if (X : Cx OW EW D cy ex M own p R s m args meth c A rm cb sb) {cnd : Jvm.ClassFile.Cond} {off : Int} (tgt : Nat) {a : Int} (hat : x_at (mT M) pc = some (.ifCond cnd off, 3)) (ht : (pc : Int) + off = (tgt : Int)) (ha : zin a)
    (kt : x_cnd cnd a 0 → ZG D cy r M p l e R s m args below meth c A Q N K (tgt, lv, st, Y)) (kf : x_ncd cnd a 0 → ZG D cy r M p l e R s m args below meth c A Q N K (pc + 3, lv, st, Y)) : ZG D cy r M p l e R s m args below meth c A Q N K (pc, lv, .inl a :: st, Y) := by
  refine xg_ifc X tgt hat ht (fun h => kt ?_) (fun h => kf ?_)
  · rw [z_o32 ha] at h
    exact h
  · rw [z_o32 ha] at h
    exact h
theorem zl_args : ∀ (vs : List ZV) (k : Nat), lv_args k (vs.map zv) = zl (z_args k vs) := by
  intro vs
  induction vs with
  | nil => intro k; rfl
  | cons v vs ih =>
    intro k
    rcases v with x | x | (_ | x) <;> exact congrArg (List.cons _) (ih _)
theorem met_ofz {vs : List ZV} (hEW : EWOK EW) (hM : MOK M') (hT : TOK OW M') (ho : OW[mO M']? = some (mY M').cls) (hl : (lg_sl (vs.map zv)).length ≤ mL M')
    (walk : ∀ (r : va_W) (p : Program) (e : Env) (s : State) (m : MethodId) (args : Array Value) (below : List Frame) (meth : Method) (c : Code) (A : Nat → Prop) (Q : State → Prop), Cx OW EW D cy ex M' (mY M').cls p (rmR rm') s m args meth c A rm' 0 0 → ZRet D cy r M' p l e (rmR rm') s m args below meth c A Q rm' PO → ZG D cy r M' p l e (rmR rm') s m args below meth c A Q 0 0 (0, z_args 0 vs, [], Y)) :
    ZMet EW D cy l ex M' rm' Y vs PO := by
  intro r
  refine met_ofx hEW hM hT ho hl (fun p e s m args below meth c A Q X hR => ?_)
  rw [zl_args]
  exact walk r p e s m args below meth c A Q X hR
theorem zg_reti {a : Int} (X : Cx OW EW D cy ex M own p R s m args meth c A rm cb sb) (hR : ZRet D cy r M p l e R s m args below meth c A Q rm PO) (hat : x_at (mT M) pc = some (.ireturn, 1)) (hm : mR M = some .int) (hN : N ≤ rm.2.1) (hK : K ≤ rm.2.2.1) (hp : PO (some (.inl a)) Y) : ZG D cy r M p l e R s m args below meth c A Q N K (pc, lv, [.inl a], Y) :=
  hR .ireturn pc N K _ _ (some (.int (Int32.ofInt a))) (x_dec X hat) (Or.inl ⟨rfl, _, .int, rfl, hm, Or.inl rfl, rfl⟩) ⟨some (.inl a), Y, rfl, rfl, hp⟩ hN hK
theorem zg_retb {a : Int} (X : Cx OW EW D cy ex M own p R s m args meth c A rm cb sb) (hR : ZRet D cy r M p l e R s m args below meth c A Q rm PO) (hat : x_at (mT M) pc = some (.ireturn, 1)) (hm : mR M = some .boolean) (hN : N ≤ rm.2.1) (hK : K ≤ rm.2.2.1) (ha : a = 0 ∨ a = 1) (hp : PO (some (.inl a)) Y) : ZG D cy r M p l e R s m args below meth c A Q N K (pc, lv, [.inl a], Y) :=
  hR .ireturn pc N K _ _ (some (.int (Int32.ofInt a))) (x_dec X hat) (Or.inl ⟨rfl, _, .boolean, rfl, hm, Or.inr rfl, by rcases ha with rfl | rfl <;> decide⟩) ⟨some (.inl a), Y, rfl, rfl, hp⟩ hN hK
theorem zg_retv (X : Cx OW EW D cy ex M own p R s m args meth c A rm cb sb) (hR : ZRet D cy r M p l e R s m args below meth c A Q rm PO) (hat : x_at (mT M) pc = some (.return_, 1)) (hm : mR M = none) (hN : N ≤ rm.2.1) (hK : K ≤ rm.2.2.1) (hp : PO none Y) : ZG D cy r M p l e R s m args below meth c A Q N K (pc, lv, [], Y) :=
  hR .return_ pc N K _ _ none (x_dec X hat) (Or.inr (Or.inr ⟨rfl, rfl, hm⟩)) ⟨none, Y, rfl, rfl, hp⟩ hN hK
def z_cats (vs : List ZV) : Nat := (vs.map fun v => cond (z_isL v) 2 1).sum
theorem z_cats_ok (vs : List ZV) : x_cats (vs.map zv) = z_cats vs := by
  unfold x_cats z_cats
  rw [List.map_map]
  refine congrArg List.sum (congrArg (fun t => List.map t vs) ?_)
  funext v
  rcases v with x | x | (_ | x) <;> rfl
theorem zw_app {Y1 Y2 : ZW} {r : va_W} : zw cy (Y1 ++ Y2) ++ r = zw cy Y1 ++ (zw cy Y2 ++ r) := by
  rw [zw, List.map_append, List.append_assoc]
  rfl
theorem zg_aft {z : Option ZV} {Y1 Y2 : ZW} {vr : List ZV} (k : ZG D cy r M p l e R s m args below meth c A Q N K (pc, lv, z.toList ++ vr, Y1 ++ Y2)) : XG D M p l e R s m args below meth c A Q N K (pc, zl lv, (z.map zv).toList ++ vr.map zv, zw cy Y1 ++ (zw cy Y2 ++ r)) := by
  have h : ZG D cy r M p l e R s m args below meth c A Q N K (pc, lv, z.toList ++ vr, Y1 ++ Y2) = XG D M p l e R s m args below meth c A Q N K (pc, zl lv, (z.map zv).toList ++ vr.map zv, zw cy Y1 ++ (zw cy Y2 ++ r)) := by
    unfold ZG zs
    simp only
    rw [zw_app, List.map_append]
    cases z <;> rfl
  rw [← h]
  exact k
theorem zg_callS (hP : POK2 P RT OW) (hEW : EWOK EW) (X : Cx OW EW D cy ex M own p R s m args meth c A rm cb sb) {ix rk j z1 : Nat} {z2 : Int} {vas vr : List ZV} {Y1 Y2 : ZW} (hat : x_at (mT M) pc = some (.invokestatic ix, 3)) (hr : e_res RT (mO M) ix = some (rk, j, z1, z2)) (hrk : rk = 4 ∨ rk = 5) (hj : P[j]? = some M') (hk0 : mK M' = 0) (hn : vas.length = mA M')
    (hst : st = vas.reverse ++ vr) (hc8 : z_cats vr ≤ 8) (hY : Y = Y1 ++ Y2) (met : ZMet EW D cy l ex M' rm' Y1 vas PO) (hrm : x_room R M' rm' N K)
    (k : ∀ (z : Option ZV) (Y' : ZW), PO z Y' → ZG D cy r M p l e R s m args below meth c A Q (N + rm'.2.1) (K + rm'.2.2.1) (pc + 3, lv, z.toList ++ vr, Y' ++ Y2)) : ZG D cy r M p l e R s m args below meth c A Q N K (pc, lv, st, Y) := by
  subst hst
  subst hY
  have h0 : ZG D cy r M p l e R s m args below meth c A Q N K (pc, lv, vas.reverse ++ vr, Y1 ++ Y2) = XG D M p l e R s m args below meth c A Q N K (pc, zl lv, (vas.map zv).reverse ++ vr.map zv, zw cy Y1 ++ (zw cy Y2 ++ r)) := by
    unfold ZG zs
    simp only
    rw [zw_app, List.map_append, List.map_reverse]
  rw [h0]
  refine xg_callS (vas := vas.map zv) (vr := vr.map zv) hP hEW X hat hr hrk hj hk0 (by rw [List.length_map]; exact hn) rfl (by rw [z_cats_ok]; exact hc8) (met (zw cy Y2 ++ r)) hrm (fun v u hu => ?_)
  obtain ⟨z, Y', rfl, rfl, hp⟩ := hu
  exact zg_aft (k z Y' hp)
theorem zg_callV (hP : POK2 P RT OW) (hEW : EWOK EW) (X : Cx OW EW D cy ex M own p R s m args meth c A rm cb sb) {ix rk j z1 : Nat} {z2 : Int} (i : Nat) {q : Nat} {fs vas vr : List ZV} {Y1 Y2 : ZW} (hat : x_at (mT M) pc = some (.invokevirtual ix, 3)) (hr : e_res RT (mO M) ix = some (rk, j, z1, z2)) (hrk : rk = 4 ∨ rk = 5) (hj : P[j]? = some M') (hk0 : mK M' = 1) (hn : vas.length = mA M')
    (hst : st = vas.reverse ++ .inr (.inr (some q)) :: vr) (hq : Y[i]? = some (q, .inl (mCi M', fs))) (hc8 : z_cats vr ≤ 8) (hY : Y = Y1 ++ Y2) (met : ZMet EW D cy l ex M' rm' Y1 (.inr (.inr (some q)) :: vas) PO) (hrm : x_room R M' rm' N K)
    (k : ∀ (z : Option ZV) (Y' : ZW), PO z Y' → ZG D cy r M p l e R s m args below meth c A Q (N + rm'.2.1) (K + rm'.2.2.1) (pc + 3, lv, z.toList ++ vr, Y' ++ Y2)) : ZG D cy r M p l e R s m args below meth c A Q N K (pc, lv, st, Y) := by
  subst hst
  have hq9 := zw_at (cy := cy) (r := r) hq
  subst hY
  have h0 : ZG D cy r M p l e R s m args below meth c A Q N K (pc, lv, vas.reverse ++ .inr (.inr (some q)) :: vr, Y1 ++ Y2) = XG D M p l e R s m args below meth c A Q N K (pc, zl lv, (vas.map zv).reverse ++ .ref q :: vr.map zv, zw cy Y1 ++ (zw cy Y2 ++ r)) := by
    unfold ZG zs
    simp only
    rw [zw_app, List.map_append, List.map_reverse]
    rfl
  rw [h0]
  rw [zw_app] at hq9
  refine xg_callV (vas := vas.map zv) (vr := vr.map zv) hP hEW X i hat hr hrk hj hk0 (by rw [List.length_map]; exact hn) rfl hq9 (by rw [z_cats_ok]; exact hc8) (met (zw cy Y2 ++ r)) hrm (fun v u hu => ?_)
  obtain ⟨z, Y', rfl, rfl, hp⟩ := hu
  exact zg_aft (k z Y' hp)
theorem zg_tin (X : Cx OW EW D cy ex M own p R s m args meth c A rm cb sb) {dflt lo hi : Int} {offs : Array Int} {len : Nat} {a off : Int} {tgt : Nat} (hat : x_at (mT M) pc = some (.tableswitch dflt lo hi offs, len)) (ha : zin a) (h1 : ¬ a < lo) (h2 : ¬ hi < a) (ho : offs[(a - lo).toNat]? = some off) (ht : (pc : Int) + off = (tgt : Int))
    (k : ZG D cy r M p l e R s m args below meth c A Q N K (tgt, lv, st, Y)) : ZG D cy r M p l e R s m args below meth c A Q N K (pc, lv, .inl a :: st, Y) := by
  intro H locs ls a1 a2 a3 a4
  have e := z_o32 ha
  exact lv_tableIn X.1 X.2.1 (x_dec X hat) (by rw [e]; exact h1) (by rw [e]; exact h2) (by rw [e]; exact ho) ht (k H locs ls a1 a2 a3 a4)
theorem zg_tout (X : Cx OW EW D cy ex M own p R s m args meth c A rm cb sb) {dflt lo hi : Int} {offs : Array Int} {len : Nat} {a : Int} {tgt : Nat} (hat : x_at (mT M) pc = some (.tableswitch dflt lo hi offs, len)) (ha : zin a) (h : a < lo ∨ hi < a) (ht : (pc : Int) + dflt = (tgt : Int))
    (k : ZG D cy r M p l e R s m args below meth c A Q N K (tgt, lv, st, Y)) : ZG D cy r M p l e R s m args below meth c A Q N K (pc, lv, .inl a :: st, Y) := by
  intro H locs ls a1 a2 a3 a4
  have e := z_o32 ha
  exact lv_tableOut X.1 X.2.1 (x_dec X hat) (by rw [e]; exact h) ht (k H locs ls a1 a2 a3 a4)
end ZHP
