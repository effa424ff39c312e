/-! the program as tables, and the run -/
/-- what an entry of the constant pool is: its sort and numbers -/
abbrev RES : Type := Nat × Nat × Nat × Int
/-- name, code, locals, answer; class, sort (0 static, 1 of an object, 2 maker), parameters, kind of the object; room; instructions -/
abbrev MT : Type := MethodName × ByteArray × Nat × Option FieldType × (Nat × Nat × Nat × Nat) × (Nat × Nat × Nat × Nat) × List INS
abbrev mY (M : MT) : MethodName := M.1
abbrev mC (M : MT) : ByteArray := M.2.1
abbrev mL (M : MT) : Nat := M.2.2.1
abbrev mR (M : MT) : Option FieldType := M.2.2.2.1
abbrev mO (M : MT) : Nat := M.2.2.2.2.1.1
abbrev mK (M : MT) : Nat := M.2.2.2.2.1.2.1
abbrev mA (M : MT) : Nat := M.2.2.2.2.1.2.2.1
abbrev mCi (M : MT) : Nat := M.2.2.2.2.1.2.2.2
abbrev mFr (M : MT) : Nat := M.2.2.2.2.2.1.1
abbrev mNc (M : MT) : Nat := M.2.2.2.2.2.1.2.1
abbrev mNs (M : MT) : Nat := M.2.2.2.2.2.1.2.2.1
abbrev mLo (M : MT) : Nat := M.2.2.2.2.2.1.2.2.2
abbrev mT (M : MT) : List INS := M.2.2.2.2.2.2
abbrev mRm (M : MT) : Room := { frames := mFr M, cells := mNc M, slots := mNs M, locals := mLo M }
def e_lk (x : List (Nat × RES)) (i : Nat) : Option RES := match x with
  | [] => none
  | (j, r) :: t => if Nat.beq j i = true then some r else e_lk t i
def e_res (RT : List (List (Nat × RES))) (o i : Nat) : Option RES := match RT[o]? with
  | some x => e_lk x i
  | none => none
/-- a number that is known and not negative -/
def e_known (E : EV) (a : AV) : Option Nat := match e_iv E a with
  | some (lo, hi) => if (decide (lo = hi) && decide (0 ≤ lo)) = true then some lo.toNat else none
  | none => none
def e_cats (st : List AV) : Nat := match st with
  | [] => 0
  | a :: r => (if e_isL a = true then 2 else 1) + e_cats r
def e_ald (ins : Instr) (t : Nat) : Bool := match ins with
  | .iaload => Nat.beq t 0
  | .baload => Nat.beq t 1 || Nat.beq t 2
  | .laload => Nat.beq t 3
  | .aaload => Nat.ble 4 t
  | _ => false
def e_initOk (M : MT) (ci k : Nat) : Bool := match vwCl[ci]? with
  | some r => if Nat.ble r.2.2 k = true then false else if (r.2.1 k).2.2.2 = true then Nat.beq (mK M) 2 && Nat.beq ci (mCi M) else true
  | none => false
/-- steps at the heap, with one end -/
def e_hstep (RT : List (List (Nat × RES))) (M : MT) (sc : Bool) (S : ST) (ins : Instr) (len : Nat) : Option ST := match S with
  | (pc, lo, st, E, C, nc, ns) => (match ins with
    | .getfield i => (match e_res RT (mO M) i, st with
      | some (kd, ci, k, _), a :: st' => (match e_cell C a with
        | some (_, .inr (ci', fs)) => (match fs[k]? with
          | some v => if (Nat.ble kd 1 && (Nat.beq ci ci' && Nat.beq len 3)) = true then some (pc + 3, lo, v :: st', E, C, nc, ns) else none
          | none => none)
        | _ => none)
      | _, _ => none)
    | .putfield i => (match e_res RT (mO M) i, st with
      | some (kd, ci, k, _), v :: a :: st' => (match e_cell C a with
        | some (n, .inr (ci', fs)) => if (Nat.beq kd 0 && (Nat.beq ci ci' && (Nat.beq len 3 && (decide (k < fs.length) && (e_fits E (clTy ci k) v && e_initOk M ci k))))) = true then some (pc + 3, lo, st', E, C.set n (.inr (ci', fs.set k v)), nc, ns) else none
        | _ => none)
      | _, _ => none)
    | .arraylength => (match st with
      | a :: st' => (match e_cell C a with
        | some (_, .inl (t, n, _, _)) => if (Nat.ble t 5 && (decide (n < 65536) && Nat.beq len 1)) = true then some (pc + 1, lo, aI (n : Int) :: st', E, C, nc, ns) else none
        | _ => (match a with
          | .inr (.inr (.inr (.inr _))) => if (sc && Nat.beq len 1) = true then some (pc + 1, lo, aV 6 0 :: st', E, C, nc, ns) else none
          | _ => none))
      | _ => none)
    | .new i => (match e_res RT (mO M) i with
      | some (kd, ci, n, _) => (match e_dflts (clTy ci) 0 n with
        | some fs => if (Nat.beq kd 2 && (Nat.beq len 3 && (Nat.ble (nc + 1) (mNc M) && Nat.ble (ns + n) (mNs M)))) = true then some (pc + 3, lo, aR C.length :: st, E, C ++ [.inr (ci, fs)], nc + 1, ns + n) else none
        | none => none)
      | none => none)
    | .newarray at9 => (match e_atype at9, st with
      | some t, a :: st' => (match e_known E a with
        | some n => if (decide (n < 65536) && (Nat.beq len 2 && (Nat.ble (nc + 1) (mNc M) && Nat.ble (ns + n) (mNs M)))) = true then some (pc + 2, lo, aR C.length :: st', E, C ++ [.inl (t, n, (if t = 3 then aL 0 0 else aI 0), [])], nc + 1, ns + n) else none
        | none => none)
      | _, _ => none)
    | .anewarray i => (match e_res RT (mO M) (i + 100000), st with
      | some (kd, t, _, _), a :: st' => (match e_known E a with
        | some n => if (Nat.beq kd 3 && (Nat.ble 4 t && (Nat.ble t 5 && (decide (n < 65536) && (Nat.beq len 3 && (Nat.ble (nc + 1) (mNc M) && Nat.ble (ns + n) (mNs M))))))) = true then some (pc + 3, lo, aR C.length :: st', E, C ++ [.inl (t, n, aN, [])], nc + 1, ns + n) else none
        | none => none)
      | _, _ => none)
    | .ldc2_w i => (match e_res RT (mO M) i with
      | some (kd, _, _, v) => if (Nat.beq kd 9 && Nat.beq len 3) = true then some (pc + 3, lo, aL v v :: st, E, C, nc, ns) else none
      | none => none)
    | .invokespecial i => (match e_res RT (mO M) i, st with
      | some (kd, _, _, _), (.inr (.inr (.inr (.inl (some _))))) :: st' => if (Nat.beq kd 6 && (Nat.beq len 3 && (Nat.ble 1 (mFr M) && (Nat.ble (e_cats st' + 12) (mLo M))))) = true then some (pc + 3, lo, st', E, C, nc, ns) else none
      | _, _ => none)
    | .invokestatic i => (match e_res RT (mO M) i, st with
      | some (kd, _, _, _), nn :: dp :: r1 :: sp :: r0 :: st' => (match e_cell C r0, e_cell C r1, e_known E nn, e_known E dp, e_known E sp with
        | some (_, .inl (0, n0, d0, x0)), some (i1, .inl (0, n1, _, _)), some n, some 0, some 0 => if (Nat.beq kd 7 && (Nat.beq len 3 && (Nat.beq n0 n && (Nat.beq n1 n && (decide (n < 65536) && (Nat.ble 1 (mFr M) && Nat.ble (e_cats st' + (nativeFrameWords "java/lang/System" "arraycopy" 5 + 11)) (mLo M))))))) = true then some (pc + 3, lo, st', E, C.set i1 (.inl (0, n1, d0, x0)), nc, ns) else none
        | _, _, _, _, _ => none)
      | _, _ => none)
    | _ => none)
/-- steps at a row's place: a place that is not known is told apart first -/
def e_span (E : EV) (k : Nat) (lo : Int) (n : Nat) : List EV := match n with
  | 0 => []
  | n + 1 => E.set k (lo, lo) :: e_span E k (lo + 1) n
def e_astep (M : MT) (sc : Bool) (S : ST) (ins : Instr) (len : Nat) : Option (List ST) := match S with
  | (pc, lo, st, E, C, nc, ns) =>
    (match (match ins with | .iaload => some (0 : Nat) | .baload => some 0 | .laload => some 0 | .aaload => some 0 | .iastore => some 1 | .bastore => some 1 | .lastore => some 1 | .aastore => some 1 | _ => none) with
    | some 0 => (match st with
      | i :: a :: st' => (match e_known E i with
        | some j => (match e_cell C a with
          | some (_, .inl (t, n, d, x)) => if (Nat.ble t 5 && (decide (j < n) && (decide (n < 65536) && (Nat.beq len 1 && e_ald ins t)))) = true then some [(pc + 1, lo, e_get d x j :: st', E, C, nc, ns)] else none
          | _ => (match a with
            | .inr (.inr (.inr (.inr _))) => (match E[6]? with | some (l6, _) => if (sc && (Nat.beq len 1 && (decide (ins = .iaload) && decide ((j : Int) < l6)))) = true then some [(pc + 1, lo, aV j 0 :: st', E, C, nc, ns)] else none | none => none)
            | _ => none))
        | none => (match i with
          | .inr (.inl (k, _)) => (match E[k]? with
            | some (l, h) => if decide (h - l < 64) = true then some ((e_span E k l (h - l + 1).toNat).map (fun E1 => (pc, lo, st, E1, C, nc, ns))) else none
            | none => none)
          | _ => none))
      | _ => none)
    | some _ => (match st with
      | v :: i :: a :: st' => (match e_known E i with
        | some j => (match e_cell C a with
          | some (n0, .inl (t, n, d, x)) => if (Nat.ble t 5 && (decide (j < n) && (decide (n < 65536) && (Nat.beq len 1 && (e_aop ins t && e_afits E C t v))))) = true then some [(pc + 1, lo, st', E, C.set n0 (.inl (t, n, d, e_put d x j v)), nc, ns)] else none
          | _ => none)
        | none => (match i with
          | .inr (.inl (k, _)) => (match E[k]? with
            | some (l, h) => if decide (h - l < 64) = true then some ((e_span E k l (h - l + 1).toNat).map (fun E1 => (pc, lo, st, E1, C, nc, ns))) else none
            | none => none)
          | _ => none))
      | _ => none)
    | none => none)
def e_args (i : Nat) (as : List AV) : List (Nat × AV) := match as with
  | [] => []
  | a :: r => (i, a) :: e_args (if e_isL a = true then i + 2 else i + 1) r
def e_take (n : Nat) (st acc : List AV) : Option (List AV × List AV) := match n with
  | 0 => some (acc, st)
  | n + 1 => (match st with
    | a :: r => e_take n r (a :: acc)
    | [] => none)
/-- a call: the method, its arguments, the state behind it without its answer -/
def e_call (P : List MT) (RT : List (List (Nat × RES))) (M : MT) (S : ST) (ins : Instr) (len : Nat) : Option (MT × Nat × List AV × ST) := match S with
  | (pc, lo, st, E, C, nc, ns) =>
    (match (match ins with | .invokestatic i => some ((0 : Nat), i) | .invokevirtual i => some (1, i) | .invokespecial i => some (2, i) | _ => none) with
    | some (kd, i) => (match e_res RT (mO M) i with
      | some (rk, j, _, _) => (match P[j]? with
        | some M' => (match e_take (mA M') st [] with
          | some (as, rest) => (match (if Nat.beq kd 0 = true then some (as, rest) else (match rest with
              | (.inr (.inr (.inr (.inl (some n))))) :: rest' => (match C[n]? with
                | some (.inr (ci, _)) => if Nat.beq ci (mCi M') = true then some (aR n :: as, rest') else none
                | _ => none)
              | _ => none)) with
            | some (as', rest') => if ((Nat.beq rk 4 || Nat.beq rk 5) && (Nat.beq (mK M') kd && (Nat.beq len 3 && (Nat.ble (e_cats rest') 8 && (Nat.ble (mFr M' + 1) (mFr M) && (Nat.ble (8 + (mL M' + 11) + mLo M') (mLo M) && (Nat.ble (nc + mNc M') (mNc M) && (Nat.ble (ns + mNs M') (mNs M) && Nat.ble (e_cats as') (mL M'))))))))) = true then some (M', j, as', (pc + 3, lo, rest', E, C, nc + mNc M', ns + mNs M')) else none
            | none => none)
          | none => none)
        | none => none)
      | none => none)
    | none => none)
/-- an end: what is answered -/
def e_ret (M : MT) (S : ST) (ins : Instr) (len : Nat) : Option (Option AV) := match S with
  | (_, _, st, E, _, nc, ns) => if (Nat.ble nc (mNc M) && (Nat.ble ns (mNs M) && Nat.beq len 1)) = true then (match ins, st, mR M with
    | .ireturn, [a], some .int => (match e_iv E a with | some _ => some (some a) | none => none)
    | .ireturn, [a], some .boolean => (match e_iv E a with | some (lo, hi) => if (decide (0 ≤ lo) && decide (hi ≤ 1)) = true then some (some a) else none | none => none)
    | .lreturn, [a], some .long => if e_isL a = true then some (some a) else none
    | .return_, [], none => some none
    | _, _, _ => none) else none
def e_suf (T : List INS) (pc : Nat) : List INS := match T with
  | [] => []
  | q :: r => if Nat.beq q.1 pc = true then q :: r else e_suf r pc
def e_next (M : MT) (tl : List INS) (pc : Nat) : List INS := match tl with
  | q :: r => if Nat.beq q.1 pc = true then q :: r else e_suf (mT M) pc
  | [] => e_suf (mT M) pc
def e_cat (f : ST → Option (List OUT)) (x : List ST) : Option (List OUT) := match x with
  | [] => some []
  | S :: r => (match f S with
    | some a => (match e_cat f r with
      | some q => some (a ++ q)
      | none => none)
    | none => none)
/-- behind a call -/
def e_aft (M' : MT) (S : ST) (o : OUT) : ST := match S, o with
  | (pc, lo, rest, _, _, nc, ns), (r, E, C) => (pc, lo, (match r with | some a => a :: rest | none => rest), E, C, nc, ns)
def e_st1p (M : MT) (S : ST) (ins : Instr) (len : Nat) : Option ST := match S with
  | (pc, lo, st, E, C, nc, ns) => (match e_simple (mL M) E ins lo st with
    | some (n, lo', st') => if Nat.beq n len = true then some (pc + n, lo', st', E, C, nc, ns) else none
    | none => none)
def e_bst (S : ST) (ins : Instr) (len : Nat) : Option (List ST) := match S with
  | (pc, lo, st, E, C, nc, ns) => (match e_branch E pc ins len st with
    | some brs => some (brs.map (fun q => (q.1, lo, q.2.2, q.2.1, C, nc, ns)))
    | none => none)
/-! one state lies within another -/
def e_leV (E : EV) (a a' : AV) : Bool := if a = a' then true else (match a' with
  | .inl (l', h') => (match e_iv E a with | some (l, h) => decide (l' ≤ l) && decide (h ≤ h') | none => false)
  | .inr (.inl _) => (match e_iv E a, e_iv E a' with | some (l, h), some (l2, h2) => decide (l = h) && (decide (l2 = h2) && decide (l = l2)) | _, _ => false)
  | .inr (.inr (.inl (l', h'))) => (match a with | .inr (.inr (.inl (l, h))) => decide (l' ≤ l) && decide (h ≤ h') | _ => false)
  | _ => false)
def e_leVs (E : EV) (x y : List AV) : Bool := match x, y with
  | [], [] => true
  | a :: r, a' :: r' => e_leV E a a' && e_leVs E r r'
  | _, _ => false
def e_leL (E : EV) (x y : List (Nat × AV)) : Bool := match y with
  | [] => true
  | (i, a') :: r => (match e_find x i with | some a => e_leV E a a' | none => false) && e_leL E x r
def e_leE (x y : EV) : Bool := match x, y with
  | _, [] => true
  | (l, h) :: r, (l', h') :: r' => decide (l' ≤ l) && (decide (h ≤ h') && e_leE r r')
  | [], _ :: _ => false
def e_leA (E : EV) (d d' : AV) (x x' : List (Nat × AV)) : Bool := e_leV E d d' && (x.all (fun q => e_leV E (e_get d x q.1) (e_get d' x' q.1)) && x'.all (fun q => e_leV E (e_get d x q.1) (e_get d' x' q.1)))
def e_leC (E : EV) (c c' : AC) : Bool := match c, c' with
  | .inl (t, n, d, x), .inl (t', n', d', x') => Nat.beq t t' && (Nat.beq n n' && e_leA E d d' x x')
  | .inr (ci, fs), .inr (ci', fs') => Nat.beq ci ci' && e_leVs E fs fs'
  | _, _ => false
def e_leCs (E : EV) (x y : List AC) : Bool := match x, y with
  | [], [] => true
  | a :: r, a' :: r' => e_leC E a a' && e_leCs E r r'
  | _, _ => false
def e_le (S S' : ST) : Bool := match S, S' with
  | (pc, lo, st, E, C, nc, ns), (pc', lo', st', E', C', nc', ns') => Nat.beq pc pc' && (e_leVs E st st' && (e_leE E E' && (e_leL E lo lo' && (e_leCs E C C' && (Nat.ble nc nc' && Nat.ble ns ns')))))
def e_any (S : ST) (cuts : List ST) : Bool := match cuts with
  | [] => false
  | S2 :: r => if e_le S S2 = true then true else e_any S r
theorem e_any_ok {S : ST} : ∀ {cuts : List ST}, e_any S cuts = true → ∃ S2, S2 ∈ cuts ∧ e_le S S2 = true := by
  intro cuts
  induction cuts with
  | nil => intro h; cases h
  | cons S2 r ih =>
    intro h
    unfold e_any at h
    split at h
    · rename_i h1
      exact ⟨S2, List.mem_cons_self, h1⟩
    · obtain ⟨S3, h1, h2⟩ := ih h
      exact ⟨S3, List.mem_cons_of_mem _ h1, h2⟩
def e_run (P : List MT) (RT : List (List (Nat × RES))) (cuts : List ST) : Nat → Bool → Bool → MT → List INS → ST → Option (List OUT)
  | 0, _, _, _, _, _ => none
  | fuel + 1, tp, sc, M, suf, S => (match suf with
    | [] => none
    | (pc, tag, ins, len) :: tl => if Nat.beq pc S.1 = true then (match tag with
      | 0 => (match e_st1p M S ins len with
        | some S' => e_run P RT cuts fuel tp sc M (e_next M tl S'.1) S'
        | none => none)
      | 1 => (match e_bst S ins len with
        | some x => e_cat (fun S' => e_run P RT cuts fuel tp sc M (e_next M tl S'.1) S') x
        | none => none)
      | 2 => (match e_hstep RT M sc S ins len with
        | some S' => e_run P RT cuts fuel tp sc M (e_next M tl S'.1) S'
        | none => none)
      | 3 => (match e_astep M sc S ins len with
        | some x => e_cat (fun S' => e_run P RT cuts fuel tp sc M (e_next M tl S'.1) S') x
        | none => none)
      | 4 => (match e_call P RT M S ins len with
        | some (M', _, as, S') => (match e_run P RT cuts fuel false false M' (mT M') (0, e_args 0 as, [], S.2.2.2.1, S.2.2.2.2.1, 0, 0) with
          | some outs => e_cat (fun S2 => e_run P RT cuts fuel tp sc M (e_next M tl S2.1) S2) (outs.map (e_aft M' S'))
          | none => none)
        | none => none)
      | 5 => (match e_ret M S ins len with
        | some r => some [(r, S.2.2.2.1, S.2.2.2.2.1)]
        | none => none)
      | _ => if (tp && e_any S cuts) = true then some [] else none) else none)
