/-! the engine: values, cells, states, one step at a time -/
/-- an abstract value: an int between two numbers; an int that is a named number and a constant; a long between two numbers; a reference to a cell by its place, or null; the script -/
abbrev AV : Type := (Int × Int) ⊕ ((Nat × Int) ⊕ ((Int × Int) ⊕ ((Option Nat) ⊕ Unit)))
/-- an abstract cell: an array (its type's number, its length, what it holds but for some places, these places) or an object (its kind, its fields) -/
abbrev AC : Type := (Nat × Nat × AV × List (Nat × AV)) ⊕ (Nat × List AV)
abbrev EV : Type := List (Int × Int)
/-- pc, locals, stack, named numbers, cells, cells made, slots made -/
abbrev ST : Type := Nat × List (Nat × AV) × List AV × EV × List AC × Nat × Nat
abbrev OUT : Type := Option AV × EV × List AC
abbrev aI (n : Int) : AV := .inl (n, n)
abbrev aTop : AV := .inl (-2147483648, 2147483647)
abbrev aL (lo hi : Int) : AV := .inr (.inr (.inl (lo, hi)))
abbrev aLtop : AV := .inr (.inr (.inl (-9223372036854775808, 9223372036854775807)))
abbrev aV (k : Nat) (c : Int) : AV := .inr (.inl (k, c))
abbrev aR (a : Nat) : AV := .inr (.inr (.inr (.inl (some a))))
abbrev aN : AV := .inr (.inr (.inr (.inl none)))
abbrev aS : AV := .inr (.inr (.inr (.inr ())))
def e_iv (E : EV) (a : AV) : Option (Int × Int) := match a with
  | .inl q => some q
  | .inr (.inl (k, c)) => (match E[k]? with | some (lo, hi) => some (lo + c, hi + c) | none => none)
  | .inr (.inr _) => none
def e_mk (lo hi : Int) : AV := if (decide (-2147483648 ≤ lo) && decide (hi ≤ 2147483647)) = true then .inl (lo, hi) else aTop
def e_find (lo : List (Nat × AV)) (i : Nat) : Option AV := match lo with
  | [] => none
  | (j, a) :: r => if Nat.beq j i = true then some a else e_find r i
def e_isL (a : AV) : Bool := match a with
  | .inr (.inr (.inl _)) => true
  | _ => false
def e_st1 (lo : List (Nat × AV)) (i : Nat) (a : AV) : List (Nat × AV) := (i, a) :: lo.filter (fun q => !(q.1 == i) && !(q.1 + 1 == i && e_isL q.2))
def e_st2 (lo : List (Nat × AV)) (i : Nat) (a : AV) : List (Nat × AV) := (i, a) :: lo.filter (fun q => !(q.1 == i) && (!(q.1 == i + 1) && !(q.1 + 1 == i && e_isL q.2)))
def e_isI (a : AV) : Bool := match a with
  | .inl _ => true
  | .inr (.inl _) => true
  | _ => false
def e_isR (a : AV) : Bool := match a with
  | .inr (.inr (.inr _)) => true
  | _ => false
/-- a sum -/
def e_add (E : EV) (a b : AV) : Option AV := match e_iv E a, e_iv E b with
  | some (la, ha), some (lb, hb) =>
    (match a with
    | .inr (.inl (k, c)) => if (decide (lb = hb) && (decide (-2147483648 ≤ la + lb) && decide (ha + lb ≤ 2147483647))) = true then some (aV k (c + lb)) else some (e_mk (la + lb) (ha + hb))
    | _ => some (e_mk (la + lb) (ha + hb)))
  | _, _ => none
def e_sub (E : EV) (a b : AV) : Option AV := match e_iv E a, e_iv E b with
  | some (la, ha), some (lb, hb) =>
    (match a with
    | .inr (.inl (k, c)) => if (decide (lb = hb) && (decide (-2147483648 ≤ la - lb) && decide (ha - lb ≤ 2147483647))) = true then some (aV k (c - lb)) else some (e_mk (la - hb) (ha - lb))
    | _ => some (e_mk (la - hb) (ha - lb)))
  | _, _ => none
def e_mul (E : EV) (a b : AV) : Option AV := match e_iv E a, e_iv E b with
  | some (la, ha), some (lb, hb) => if (decide (0 ≤ la) && decide (0 ≤ lb)) = true then some (e_mk (la * lb) (ha * hb)) else some aTop
  | _, _ => none
/-- exact where both are known and not negative -/
def e_bit (f : Nat → Nat → Nat) (E : EV) (a b : AV) (other : AV) : AV := match e_iv E a, e_iv E b with
  | some (la, ha), some (lb, hb) => if (decide (la = ha) && (decide (lb = hb) && (decide (0 ≤ la) && decide (0 ≤ lb)))) = true then aI ((f la.toNat lb.toNat : Nat) : Int) else other
  | _, _ => other
def e_and (E : EV) (a b : AV) : Option AV := match e_iv E a, e_iv E b with
  | some (la, ha), some (lb, hb) => some (e_bit (fun x y => x &&& y) E a b (if decide (0 ≤ lb) = true then .inl (0, hb) else if decide (0 ≤ la) = true then .inl (0, ha) else aTop))
  | _, _ => none
def e_or (E : EV) (a b : AV) : Option AV := match e_iv E a, e_iv E b with
  | some _, some _ => some (e_bit (fun x y => x ||| y) E a b aTop)
  | _, _ => none
def e_xor (E : EV) (a b : AV) : Option AV := match e_iv E a, e_iv E b with
  | some _, some _ => some (e_bit (fun x y => x ^^^ y) E a b aTop)
  | _, _ => none
def e_shl (E : EV) (a b : AV) : Option AV := match e_iv E a, e_iv E b with
  | some (la, ha), some (lb, hb) => if (decide (lb = hb) && (decide (0 ≤ lb) && (decide (lb < 32) && decide (0 ≤ la)))) = true then some (e_mk (la * 2 ^ lb.toNat) (ha * 2 ^ lb.toNat)) else some aTop
  | _, _ => none
def e_shr (E : EV) (a b : AV) : Option AV := match e_iv E a, e_iv E b with
  | some (la, ha), some (lb, hb) => if (decide (lb = hb) && (decide (0 ≤ lb) && (decide (lb < 32) && decide (0 ≤ la)))) = true then some (.inl (0, ha)) else some aTop
  | _, _ => none
def e_top2 (E : EV) (a b : AV) : Option AV := match e_iv E a, e_iv E b with
  | some _, some _ => some aTop
  | _, _ => none
/-- a remainder by a known number above 0 -/
def e_rem (E : EV) (a b : AV) : Option AV := match e_iv E a, e_iv E b with
  | some (la, ha), some (lb, hb) => if (decide (lb = hb) && (decide (0 < lb) && decide (0 ≤ la))) = true then (if decide (ha < lb) = true then some (.inl (la, ha)) else if decide (la = ha) = true then some (aI (la % lb)) else some (.inl (0, lb - 1))) else none
  | _, _ => none
def e_div (E : EV) (a b : AV) : Option AV := match e_iv E a, e_iv E b with
  | some (la, ha), some (lb, hb) => if (decide (lb = hb) && decide (0 < lb)) = true then (if decide (0 ≤ la) = true then some (.inl (la / lb, ha / lb)) else some aTop) else none
  | _, _ => none
def e_bin (i : Instr) (E : EV) (a b : AV) : Option AV := match i with
  | .iadd => e_add E a b
  | .isub => e_sub E a b
  | .imul => e_mul E a b
  | .iand => e_and E a b
  | .ior => e_or E a b
  | .ixor => e_xor E a b
  | .ishl => e_shl E a b
  | .ishr => e_shr E a b
  | .iushr => e_top2 E a b
  | .irem => e_rem E a b
  | .idiv => e_div E a b
  | _ => none
def e_un (i : Instr) (E : EV) (a : AV) : Option AV := match i with
  | .ineg => (match e_iv E a with | some (la, ha) => some (e_mk (-ha) (-la)) | none => none)
  | .i2b => (match e_iv E a with | some (la, ha) => if (decide (-128 ≤ la) && decide (ha ≤ 127)) = true then some a else some (.inl (-128, 127)) | none => none)
  | .i2l => (match e_iv E a with | some (la, ha) => some (aL la ha) | none => none)
  | _ => none
/-- the array's value at a place -/
def e_get (d : AV) (x : List (Nat × AV)) (j : Nat) : AV := match x with
  | [] => d
  | (i, a) :: r => if Nat.beq i j = true then a else e_get d r j
def e_put (d : AV) (x : List (Nat × AV)) (j : Nat) (a : AV) : List (Nat × AV) := if a = d then x.filter (fun q => !(Nat.beq q.1 j)) else (j, a) :: x.filter (fun q => !(Nat.beq q.1 j))
/-- an int is between two numbers: the named numbers then; none if it can't be -/
def e_clamp (E : EV) (a : AV) (lo hi : Int) : Option EV := match a with
  | .inl (la, ha) => if (decide (la ≤ hi) && decide (lo ≤ ha)) = true then some E else none
  | .inr (.inl (k, c)) => (match E[k]? with
    | some (la, ha) => if (decide (max la (lo - c) ≤ min ha (hi - c))) = true then some (E.set k (max la (lo - c), min ha (hi - c))) else none
    | none => none)
  | _ => none
def e_clamp2 (E : EV) (a : AV) (la ha : Int) (b : AV) (lb hb : Int) : Option EV := match e_clamp E a la ha with
  | some E1 => e_clamp E1 b lb hb
  | none => none
/-- the named numbers where two ints are so: 0 equal, 1 not, 2 less, 3 not less -/
def e_rel (E : EV) (r : Nat) (a b : AV) : Option (List EV) := match e_iv E a, e_iv E b with
  | some (la, ha), some (lb, hb) =>
    (match r with
    | 0 => some (e_clamp2 E a lb hb b la ha).toList
    | 1 => if (decide (la = ha) && (decide (lb = hb) && decide (la = lb))) = true then some [] else
        (match a, b with
        | .inr (.inl (k, c)), .inr (.inl (k', c')) => if (Nat.beq k k' && decide (c = c')) = true then some [] else some [E]
        | _, _ => if decide (lb = hb) = true then some ((e_clamp E a (-2147483648) (lb - 1)).toList ++ (e_clamp E a (lb + 1) 2147483647).toList) else some [E])
    | 2 => some (e_clamp2 E a (-2147483648) (hb - 1) b (la + 1) 2147483647).toList
    | _ => some (e_clamp2 E a lb 2147483647 b (-2147483648) ha).toList)
  | _, _ => none
def e_o2l (x : Option EV) (f : EV → ST) : List ST := match x with
  | some E => [f E]
  | none => []
/-- the cell that a reference names -/
def e_cell (C : List AC) (a : AV) : Option (Nat × AC) := match a with
  | .inr (.inr (.inr (.inl (some i)))) => (match C[i]? with | some c => some (i, c) | none => none)
  | _ => none
