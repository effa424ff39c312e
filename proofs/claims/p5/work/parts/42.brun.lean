/-! the run -/
def f_una (i : Instr) : Bool := match i with
  | .ineg => true
  | .i2b => true
  | .i2l => true
  | .l2i => true
  | _ => false
/-- a byte's eight bits as a number: told apart by its sign -/
def f_oct (ins : Instr) (E : EB) (x y : BV) : Option (Option EB × Option EB) := match ins with
  | .iand => (match x, y with
    | .inr (.inl _), .inl m => if decide (m = 255) = true then (match f_iv E x with
      | some (l, h) => if (decide (-128 ≤ l) && decide (h ≤ 127)) = true then some (f_clamp E x iMin (-1), f_clamp E x 0 iMax) else none
      | none => none) else none
    | _, _ => none)
  | _ => none
def f_ari (M : MT) (S : SB) (ins : Instr) (len : Nat) : Option (List SB) := match S with
  | (pc, lo, st, (n, E, CF, SF), rw, nc, ns) => (match ins with
    | .iinc i d => (match f_find lo i with
      | some a => (match f_add E a (bI d) with
        | some r => (match f_push r n E with | (v, n', E') => if (e_rng16 d && (decide (i < mL M) && Nat.beq len 3)) = true then some [(pc + 3, f_st1 lo i v, st, (n', E', CF, SF), rw, nc, ns)] else none)
        | none => none)
      | none => none)
    | _ => if Nat.beq len 1 = true then (if f_una ins = true then (match st with
        | x :: st' => (match f_un ins E x with
          | some r => (match f_push r n E with | (v, n', E') => some [(pc + 1, lo, v :: st', (n', E', CF, SF), rw, nc, ns)])
          | none => none)
        | _ => none)
      else (match st with
        | y :: x :: st' => (match f_oct ins E x y with
          | some (neg, pos) => some ((match neg with | some E1 => [(pc + 1, lo, bV n 0 :: st', (n + 1, (n, 128, 255) :: E1, CF, SF), rw, nc, ns)] | none => []) ++ (match pos with | some E1 => [(pc + 1, lo, x :: st', (n, E1, CF, SF), rw, nc, ns)] | none => []))
          | none => (match f_two ins E x y with
            | some r => (match f_push r n E with | (v, n', E') => some [(pc + 1, lo, v :: st', (n', E', CF, SF), rw, nc, ns)])
            | none => none))
        | _ => none)) else none)
/-- a measure: multiples of named numbers and a number -/
abbrev MEt : Type := List (Int × Nat) × Int
/-- a place where paths end that is told by a state: pc, locals, stack, numbers and facts, cells and slots made so far, measure -/
abbrev CUt' : Type := Nat × List (Nat × BV) × List BV × FS × (Nat × Nat) × MEt
abbrev OUB : Type := Option BV × FS
/-- method, room, arguments and facts, ends, places written, cuts, marks (pc, 0 cut or 1 hook, which), calls by a spec (pc, which) -/
abbrev SPt : Type := Nat × RMt × (List BV × FS) × List OUB × WR × List CUt' × List (Nat × Nat × Nat) × List (Nat × List Nat)
abbrev pM (s : SPt) : Nat := s.1
abbrev pR (s : SPt) : RMt := s.2.1
abbrev pA (s : SPt) : List BV := s.2.2.1.1
abbrev pF (s : SPt) : FS := s.2.2.1.2
abbrev pO (s : SPt) : List OUB := s.2.2.2.1
abbrev pW (s : SPt) : WR := s.2.2.2.2.1
abbrev pC (s : SPt) : List CUt' := s.2.2.2.2.2.1
abbrev pK (s : SPt) : List (Nat × Nat × Nat) := s.2.2.2.2.2.2.1
abbrev pJ (s : SPt) : List (Nat × List Nat) := s.2.2.2.2.2.2.2
/-- which name is what -/
def s_1 (x : List (Nat × BV)) (t c : BV) : List (Nat × BV) := match t with
  | .inr (.inl (k, d)) => (match f_find x k with | some _ => x | none => if f_isI c = true then (k, f_off c (-d)) :: x else x)
  | .inr (.inr (.inr (.inl (some (_, _, some k))))) => (match f_find x k with | some _ => x | none => (match c with | .inr (.inr (.inr (.inl (some (_, _, some k'))))) => (k, bV k' 0) :: x | _ => x))
  | _ => x
def s_L (lo : List (Nat × BV)) (x : List (Nat × BV)) (lo' : List (Nat × BV)) : List (Nat × BV) := match lo' with
  | [] => x
  | (i, t) :: r => (match f_find lo i with | some a => s_L lo (s_1 x t a) r | none => s_L lo x r)
def s_T (x : List (Nat × BV)) (st' st : List BV) : List (Nat × BV) := match st', st with
  | t :: r', a :: r => s_T (s_1 x t a) r' r
  | _, _ => x
def s_sub (x : List (Nat × BV)) (a : BV) : Option BV := match a with
  | .inr (.inl (k, c)) => (match f_find x k with | some b => some (f_off b c) | none => none)
  | y => some y
def s_C (CF : List CFt) (x : List (Nat × BV)) (CF' : List CFt) : List (Nat × BV) := match CF' with
  | [] => x
  | (κ, b, p, v) :: r => (match (match b with | none => some none | some k => (match f_find x k with | some (.inr (.inl (k', _))) => some (some k') | _ => none)), s_sub x p with
    | some b', some p' => (match f_cf CF κ b' p' with | some w => s_C CF (s_1 x v w) r | none => s_C CF x r)
    | _, _ => s_C CF x r)
def f_sfind (SF : List SFt) (id : Nat) (a b : BV) : Option BV := match SF with
  | [] => none
  | g :: r => (match g.2 with
    | [a', b', c'] => if (Nat.beq g.1 id && (bv_eq a' a && bv_eq b' b)) = true then some c' else f_sfind r id a b
    | _ => f_sfind r id a b)
def f_sfin2 (SF : List SFt) (id : Nat) (a : BV) : Option BV := match SF with
  | [] => none
  | g :: r => (match g.2 with
    | [a', c'] => if (Nat.beq g.1 id && bv_eq a' a) = true then some c' else f_sfin2 r id a
    | _ => f_sfin2 r id a)
def s_F (SF : List SFt) (x : List (Nat × BV)) (SF' : List SFt) : List (Nat × BV) := match SF' with
  | [] => x
  | f :: r => (match f.2 with
    | [a, b, c] => if Nat.ble 16 f.1 = true then (match s_sub x a, s_sub x b with
      | some a', some b' => (match f_sfind SF f.1 a' b' with | some w => s_F SF (s_1 x c w) r | none => s_F SF x r)
      | _, _ => s_F SF x r) else s_F SF x r
    | [a, c] => if Nat.ble 16 f.1 = true then (match s_sub x a with
      | some a' => (match f_sfin2 SF f.1 a' with | some w => s_F SF (s_1 x c w) r | none => s_F SF x r)
      | none => s_F SF x r) else s_F SF x r
    | _ => s_F SF x r)
def s_fin (np : Nat) (x : List (Nat × BV)) (E' : EB) (n' : Nat) : List BV := (List.range n').map (fun k => if Nat.blt k np = true then bV k 0 else (match f_find x k with
  | some b => b
  | none => (match f_lk E' k with | some (lo, _) => bI lo | none => bI 0)))
def s_0 (np : Nat) : List (Nat × BV) := (List.range np).map (fun k => (k, bV k 0))
def g_ckI (np : Nat) (σ : List BV) : Bool := (List.range np).all (fun k => (match σ[k]? with | some (.inr (.inl (j, c))) => Nat.beq j k && decide (c = 0) | _ => false))
/-- the least that multiples of named numbers are -/
def m_lb (E : EB) (x : List (Int × Nat)) (c : Int) : Option Int := match x with
  | [] => some c
  | (w, k) :: r => (match f_lk E k, m_lb E r c with
    | some (lo, hi), some b => some (b + (if decide (0 ≤ w) = true then w * lo else w * hi))
    | _, _ => none)
def m_add (x : List (Int × Nat)) (w : Int) (k : Nat) : List (Int × Nat) := match x with
  | [] => [(w, k)]
  | (v, j) :: r => if Nat.beq j k = true then (v + w, j) :: r else (v, j) :: m_add r w k
def m_nrm (x : List (Int × Nat)) : List (Int × Nat) := match x with
  | [] => []
  | (w, k) :: r => m_add (m_nrm r) w k
def m_inst (σ : List BV) (m : List (Int × Nat)) (c : Int) : Option MEt := match m with
  | [] => some ([], c)
  | (w, k) :: r => (match σ[k]?, m_inst σ r c with
    | some (.inl n), some (x, d) => some (x, d + w * n)
    | some (.inr (.inl (k', e))), some (x, d) => some ((w, k') :: x, d + w * e)
    | _, _ => none)
def m_neg (x : List (Int × Nat)) : List (Int × Nat) := x.map (fun q => (-q.1, q.2))
/-- are they above 0 -/
def m_rm (x : List (Int × Nat)) (w : Int) (k : Nat) : Option (List (Int × Nat)) := match x with
  | [] => none
  | (v, j) :: r => if (decide (v = w) && Nat.beq j k) = true then some r else (match m_rm r w k with | some r' => some ((v, j) :: r') | none => none)
def m_pos (E : EB) (SF : List SFt) (x : List (Int × Nat)) (c : Int) : Bool := (match m_lb E x c with | some b => decide (1 ≤ b) | none => false) || x.any (fun q => decide (1 ≤ q.1) && (match m_rm x q.1 q.2 with
  | some x1 => x1.any (fun r => decide (r.1 = -q.1) && (match m_rm x1 r.1 r.2 with
    | some x2 => (match m_lb E x2 c with
      | some b => (f_lk E q.2).isSome && ((f_lk E r.2).isSome && ((decide (1 ≤ q.1 + b) && g_leq E SF 6 (bV r.2 1) (bV q.2 0)) || (decide (1 ≤ b) && g_leq E SF 6 (bV r.2 0) (bV q.2 0))))
      | none => false)
    | none => false))
  | none => false))
def g_meas (E : EB) (SF : List SFt) (m0 : Option MEt) (σ : List BV) (m : MEt) : Bool := match m0 with
  | none => true
  | some (x0, c0) => (match m_inst σ m.1 m.2 with
    | some (x1, c1) => m_pos E SF ((m_nrm (x0 ++ m_neg x1)).filter (fun q => !(decide (q.1 = 0)))) (c0 - c1)
    | none => false)
def g_all (np : Nat) (F : FS) (lo : List (Nat × BV)) (st : List BV) (F' : FS) (lo' : List (Nat × BV)) (st' : List BV) (σ : List BV) : Bool :=
  g_ckI np σ && (g_ckS F.1 σ && (decide (σ.length = F'.1) && (g_ckE F.2.1 σ F'.2.1 && (g_ckC F.2.1 F.2.2.1 σ F'.2.2.1 && (g_ckF F.2.1 F.2.2.2 σ F'.2.2.2 && (g_ckL F.2.1 lo σ lo' && g_ckT F.2.1 st σ st'))))))
def g_sig (np : Nat) (F : FS) (lo : List (Nat × BV)) (st : List BV) (F' : FS) (lo' : List (Nat × BV)) (st' : List BV) : List BV :=
  s_fin np (s_F F.2.2.2 (s_C F.2.2.1 (s_T (s_L lo (s_0 np) lo') st' st) F'.2.2.1) F'.2.2.2) F'.2.1 F'.1
def g_cut (np : Nat) (m0 : Option MEt) (S : SB) (c : CUt') : Bool := match S, c with
  | (pc, lo, st, F, rw, nc, ns), (pc', lo', st', F', (nc', ns'), m) => if Nat.beq pc pc' = true then
      (match g_sig np F lo st F' lo' st' with | σ => g_all np F lo st F' lo' st' σ && (Nat.ble nc nc' && (Nat.ble ns ns' && (rw.isNone && g_meas F.2.1 F.2.2.2 m0 σ m)))) else false
def g_out (np : Nat) (o o' : OUB) : Bool := match g_sig np o.2 [] o.1.toList o'.2 [] o'.1.toList with
  | σ => g_all np o.2 [] o.1.toList o'.2 [] o'.1.toList σ && decide (o.1.isSome = o'.1.isSome)
/-- behind a call by a spec: what one of its ends says to the caller -/
def g_keepC (E : EB) (wr : WR) (f : CFt) : Bool := wr.all (fun w => !(Nat.beq w.1 f.1) || (match f_iv E f.2.2.1 with | some (l, h) => decide (h < (w.2.1 : Int)) || decide ((w.2.2 : Int) < l) | none => false))
def g_keepS (T : TBt) (E : EB) (wr : WR) (f : SFt) : Bool := match T.2.2[f.1]? with
  | some L => L.all (fun s => wr.all (fun w => !(Nat.beq w.1 s.1) || (match f_sb f.2 s.2.1, f_sb f.2 s.2.2 with | some a, some b => f_lez E b (bI (w.2.1 : Int)) || f_lez E (bI ((w.2.2 : Int) + 1)) a | _, _ => false)))
  | none => false
def g_addE (σ : List BV) (np n : Nat) (Eo : EB) (ks : List Nat) (E : EB) : Option EB := match ks with
  | [] => some E
  | k :: r => (match f_lk Eo k with
    | some (lo, hi) => if Nat.blt k np = true then (match σ[k]? with | some b => (match f_iv E b with | some _ => (match f_clamp E b lo hi with | some E1 => g_addE σ np n Eo r E1 | none => none) | none => g_addE σ np n Eo r E) | none => g_addE σ np n Eo r E) else g_addE σ np n Eo r ((n + (k - np), lo, hi) :: E)
    | none => g_addE σ np n Eo r E)
def g_subC (σ : List BV) (CF : List CFt) : List CFt := CF.filterMap (fun f => match (match f.2.1 with | none => some none | some k => (match σ[k]? with | some (.inr (.inl (k', c))) => if decide (c = 0) = true then some (some k') else none | _ => none)), g_sub σ f.2.2.1, g_sub σ f.2.2.2 with
  | some b, some p, some v => some (f.1, b, p, v)
  | _, _, _ => none)
def g_subF (σ : List BV) (SF : List SFt) : List SFt := SF.filterMap (fun f => match g_subs σ f.2 with | some as => some (f.1, as) | none => none)
def g_aft (T : TBt) (sp : SPt) (σ : List BV) (F : FS) (o : OUB) : Option (List (Option BV × FS)) :=
  if Nat.ble (pF sp).1 o.2.1 = true then
    (match σ ++ (List.range (o.2.1 - (pF sp).1)).map (fun i => bV (F.1 + i) 0) with
    | σ' => (match g_addE σ' (pF sp).1 F.1 o.2.2.1 (List.range o.2.1) F.2.1 with
      | none => some []
      | some E' => (match (match o.1 with | none => some none | some a => (match g_sub σ' a with | some b => some (some b) | none => none)) with
        | some r => some [(r, (F.1 + (o.2.1 - (pF sp).1), E', g_subC σ' o.2.2.2.1 ++ F.2.2.1.filter (g_keepC F.2.1 (pW sp)), g_subF σ' o.2.2.2.2 ++ F.2.2.2.filter (g_keepS T F.2.1 (pW sp))))]
        | none => none)))
  else none
def g_cat {α : Type} (f : α → Option (List OUB)) (x : List α) : Option (List OUB) := match x with
  | [] => some []
  | S :: r => (match f S with
    | some a => (match g_cat f r with
      | some q => some (a ++ q)
      | none => none)
    | none => none)
def g_cats (f : OUB → Option (List (Option BV × FS))) (x : List OUB) : Option (List (Option BV × FS)) := match x with
  | [] => some []
  | S :: r => (match f S with
    | some a => (match g_cats f r with
      | some q => some (a ++ q)
      | none => none)
    | none => none)
def f_take (n : Nat) (st acc : List BV) : Option (List BV × List BV) := match n with
  | 0 => some (acc, st)
  | n + 1 => (match st with
    | a :: r => f_take n r (a :: acc)
    | [] => none)
def f_ctg (st : List BV) : Nat := match st with
  | [] => 0
  | a :: r => (if f_isL a = true then 2 else 1) + f_ctg r
def f_args (i : Nat) (as : List BV) : List (Nat × BV) := match as with
  | [] => []
  | a :: r => (i, a) :: f_args (if f_isL a = true then i + 2 else i + 1) r
/-- a call: the method, its arguments, the rest of the stack -/
def f_call (T : TBt) (P : List MT) (RT : List (List (Nat × RES))) (M : MT) (S : SB) (ins : Instr) (len : Nat) : Option (Nat × MT × List BV × List BV) := match S with
  | (_, _, st, F, rw, _, _) =>
    (match (match ins with | .invokestatic i => some ((0 : Nat), i) | .invokevirtual i => some (1, i) | _ => none) with
    | some (kd, i) => (match e_res RT (mO M) i with
      | some (rk, j, _, _) => (match P[j]? with
        | some M' => (match f_take (mA M') st [] with
          | some (as, rest) => (match (if Nat.beq kd 0 = true then some (as, rest) else (match rest with
              | r :: rest' => (match f_kd T F.2.1 r with
                | some (_, _, _, .inr (ci, _)) => if Nat.beq ci (mCi M') = true then some (r :: as, rest') else none
                | _ => none)
              | _ => none)) with
            | some (as', rest') => if ((Nat.beq rk 4 || Nat.beq rk 5) && (Nat.beq (mK M') kd && (Nat.beq len 3 && (rw.isNone && (Nat.ble (f_ctg rest') 8 && Nat.ble (f_ctg as') (mL M')))))) = true then some (j, M', as', rest') else none
            | none => none)
          | none => none)
        | none => none)
      | none => none)
    | none => none)
def f_ret (M : MT) (rm : RMt) (S : SB) (ins : Instr) (len : Nat) : Option (Option BV) := match S with
  | (_, _, st, F, rw, nc, ns) => if (Nat.ble nc rm.2.1 && (Nat.ble ns rm.2.2.1 && (rw.isNone && Nat.beq len 1))) = true then (match ins, st, mR M with
    | .ireturn, [a], some .int => if f_isI a = true then some (some a) else none
    | .ireturn, [a], some .boolean => (match f_iv F.2.1 a with | some (lo, hi) => if (decide (0 ≤ lo) && decide (hi ≤ 1)) = true then some (some a) else none | none => none)
    | .lreturn, [a], some .long => if f_isL a = true then some (some a) else none
    | .return_, [], none => some none
    | _, _, _ => none) else none
def f_mst (M : MT) (S : SB) (ins : Instr) (len : Nat) : Option SB := match S with
  | (pc, lo, st, F, rw, nc, ns) => (match f_mov (mL M) ins lo st with
    | some (n, lo', st') => if Nat.beq n len = true then some (pc + n, lo', st', F, rw, nc, ns) else none
    | none => none)
def f_bst (S : SB) (ins : Instr) (len : Nat) : Option (List SB) := match S with
  | (pc, lo, st, (n, E, CF, SF), rw, nc, ns) => (match f_branch E pc ins len st with
    | some brs => some (brs.map (fun q => (q.1, lo, q.2.2.2, (n, q.2.1, CF, q.2.2.1.map (fun x => (0, [x.1, x.2])) ++ SF), rw, nc, ns)))
    | none => none)
def f_mark (marks : List (Nat × Nat × Nat)) (pc sk : Nat) : Option (Nat × Nat) := match marks with
  | [] => none
  | (q, r) :: t => if Nat.beq q pc = true then (match sk with | 0 => some r | k + 1 => f_mark t pc k) else f_mark t pc sk
def f_pick (x : List (Nat × List Nat)) (k : Nat) : Option (List Nat) := match x with
  | [] => none
  | (j, r) :: t => if Nat.beq j k = true then some r else f_pick t k
/-- the specs of a method, if one of them stands before -/
def f_pickd (x : List (Nat × List Nat)) (k lim : Nat) : Option (List Nat) := match f_pick x k with
  | some cs => if cs.all (fun i => Nat.ble lim i) = true then none else some cs
  | none => none
def f_aftS (S : SB) (rest : List BV) (dc ds : Nat) (q : Option BV × FS) : SB := match S with
  | (pc, lo, _, _, rw, nc, ns) => (pc + 3, lo, (match q.1 with | some a => a :: rest | none => rest), q.2, rw, nc + dc, ns + ds)
/-- the tables that a run reads: kinds, program, its pools, which methods are called by which spec, specs, hooks, steps outside -/
abbrev GT : Type := TBt × List MT × List (List (Nat × RES)) × List (Nat × List Nat) × List SPt × (Nat → SB → Option (List FS)) × (MT → WR → RMt → SB → Instr → Nat → Option (List SB))
/-- the first contract that fits -/
def g_try (G : GT) (lim : Nat) (wr : WR) (rm : RMt) (S : SB) (M' : MT) (j : Nat) (as : List BV) (cs : List Nat) : Option (SPt × List BV) := match cs with
  | [] => none
  | i :: r => (match G.2.2.2.2.1[i]? with
    | some sp => (match g_sig 0 S.2.2.2.1 [] as (pF sp) [] (pA sp) with
      | σ => if (Nat.blt i lim && (Nat.beq (pM sp) j && (Nat.ble ((pR sp).1 + 1) rm.1 && (Nat.ble (19 + mL M' + (pR sp).2.2.2) rm.2.2.2 && (Nat.ble (S.2.2.2.2.2.1 + (pR sp).2.1) rm.2.1 && (Nat.ble (S.2.2.2.2.2.2 + (pR sp).2.2.1) rm.2.2.1 && ((pW sp).all (fun w => f_wr wr w.1 w.2.1 w.2.2) && g_all 0 S.2.2.2.1 [] as (pF sp) [] (pA sp) σ))))))) = true then some (sp, σ) else g_try G lim wr rm S M' j as r)
    | none => g_try G lim wr rm S M' j as r)
def f_run (G : GT) (lim : Nat) (wr : WR) (np : Nat) (m0 : Option MEt) (cuts : List CUt') (marks : List (Nat × Nat × Nat)) (cls : List (Nat × List Nat)) : Nat → Bool → Nat → RMt → MT → List INS → SB → Option (List OUB)
  | 0, _, _, _, _, _, _ => none
  | fuel + 1, tp, sk, rm, M, suf, S => (match suf with
    | [] => none
    | (pc, tag, ins, len) :: tl => if Nat.beq pc S.1 = true then
      (match (if tp = true then f_mark marks pc sk else none) with
      | some (0, _) => if cuts.any (g_cut np m0 S) = true then some [] else none
      | some (_, h) => (match G.2.2.2.2.2.1 h S with
        | some L => g_cat (fun F => f_run G lim wr np m0 cuts marks cls fuel tp (sk + 1) rm M suf (S.1, S.2.1, S.2.2.1, F, S.2.2.2.2)) L
        | none => none)
      | none => (match tag with
        | 0 => (match f_mst M S ins len with
          | some S' => f_run G lim wr np m0 cuts marks cls fuel tp 0 rm M (e_next M tl S'.1) S'
          | none => none)
        | 1 => (match f_bst S ins len with
          | some x => g_cat (fun S' => f_run G lim wr np m0 cuts marks cls fuel tp 0 rm M (e_next M tl S'.1) S') x
          | none => none)
        | 2 => (match f_hst G.1 G.2.2.1 M wr S ins len with
          | some S' => f_run G lim wr np m0 cuts marks cls fuel tp 0 rm M (e_next M tl S'.1) S'
          | none => none)
        | 3 => (match f_ari M S ins len with
          | some x => g_cat (fun S' => f_run G lim wr np m0 cuts marks cls fuel tp 0 rm M (e_next M tl S'.1) S') x
          | none => none)
        | 4 => (match f_call G.1 G.2.1 G.2.2.1 M S ins len with
          | some (j, M', as, rest) => (match (match (if tp = true then f_pick cls pc else none) with | some i => some i | none => f_pickd G.2.2.2.1 j lim) with
            | some cs => (match g_try G lim wr rm S M' j as cs with
              | some (sp, σ) => (match g_cats (g_aft G.1 sp σ S.2.2.2.1) (pO sp) with
                | some L => g_cat (fun q => f_run G lim wr np m0 cuts marks cls fuel tp 0 rm M (e_next M tl (pc + 3)) (f_aftS S rest (pR sp).2.1 (pR sp).2.2.1 q)) L
                | none => none)
              | none => none)
            | none => if (Nat.ble 1 rm.1 && (Nat.ble (19 + mL M') rm.2.2.2 && (Nat.ble S.2.2.2.2.2.1 rm.2.1 && Nat.ble S.2.2.2.2.2.2 rm.2.2.1))) = true then (match f_run G lim wr np m0 cuts marks cls fuel false 0 (rm.1 - 1, 0, 0, rm.2.2.2 - (19 + mL M')) M' (mT M') (0, f_args 0 as, [], S.2.2.2.1, none, 0, 0) with
              | some outs => g_cat (fun q => f_run G lim wr np m0 cuts marks cls fuel tp 0 rm M (e_next M tl (pc + 3)) (f_aftS S rest 0 0 q)) outs
              | none => none) else none)
          | none => none)
        | 5 => (match f_ret M rm S ins len with
          | some r => some [(r, S.2.2.2.1)]
          | none => none)
        | _ => (match G.2.2.2.2.2.2 M wr rm S ins len with
          | some x => g_cat (fun S' => f_run G lim wr np m0 cuts marks cls fuel tp 0 rm M (e_next M tl S'.1) S') x
          | none => none))) else none)
/-- a spec is as it says -/
def f_chk0 (G : GT) (i fuel : Nat) (sp : SPt) : Bool := match G.2.1[pM sp]? with
  | some M => (match f_run G i (pW sp) (pF sp).1 none (pC sp) (pK sp) (pJ sp) fuel true 0 (pR sp) M (mT M) (0, f_args 0 (pA sp), [], pF sp, none, 0, 0) with
    | some outs => outs.all (fun o => (pO sp).any (g_out (pF sp).1 o))
    | none => false)
  | none => false
def f_chkC (G : GT) (i fuel : Nat) (sp : SPt) (c : CUt') : Bool := match G.2.1[pM sp]? with
  | some M => (match c with
    | (pc, lo, st, F, (nc, ns), m) => (match m_lb F.2.1 m.1 m.2 with | some b => decide (0 ≤ b) | none => false) && (match f_run G i (pW sp) (pF sp).1 (some m) (pC sp) (pK sp) (pJ sp) fuel true 1 (pR sp) M (e_suf (mT M) pc) (pc, lo, st, F, none, nc, ns) with
      | some outs => outs.all (fun o => (pO sp).any (g_out (pF sp).1 o))
      | none => false))
  | none => false
