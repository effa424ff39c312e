/-! the second engine: ints are known or have names, cells are told by kinds, facts of cells beside them -/
/-- an int that is known; a named number and a constant; a long between two numbers; null or a reference to a cell of a kind (not null; its name); what lies outside (0 the script, 1 what is being made, 2 .. rows and texts) -/
abbrev BV : Type := Int ⊕ ((Nat × Int) ⊕ ((Int × Int) ⊕ ((Option (Nat × Bool × Option Nat)) ⊕ Nat)))
/-- what the named numbers lie between -/
abbrev EB : Type := List (Nat × Int × Int)
abbrev bI (n : Int) : BV := .inl n
abbrev bV (k : Nat) (c : Int) : BV := .inr (.inl (k, c))
abbrev bL (lo hi : Int) : BV := .inr (.inr (.inl (lo, hi)))
abbrev bN : BV := .inr (.inr (.inr (.inl none)))
abbrev bP (κ : Nat) (nn : Bool) (nm : Option Nat) : BV := .inr (.inr (.inr (.inl (some (κ, nn, nm)))))
abbrev bX (j : Nat) : BV := .inr (.inr (.inr (.inr j)))
abbrev iMin : Int := -2147483648
abbrev iMax : Int := 2147483647
abbrev lMin : Int := -9223372036854775808
abbrev lMax : Int := 9223372036854775807
def f_lk (E : EB) (k : Nat) : Option (Int × Int) := match E with
  | [] => none
  | (j, q) :: r => if Nat.beq j k = true then some q else f_lk r k
def f_iv (E : EB) (a : BV) : Option (Int × Int) := match a with
  | .inl n => some (n, n)
  | .inr (.inl (k, c)) => (match f_lk E k with | some (lo, hi) => some (lo + c, hi + c) | none => none)
  | .inr (.inr _) => none
/-- a reckoned int: one that is known or named, or between two numbers -/
abbrev RB : Type := BV ⊕ (Int × Int)
def f_mk (lo hi : Int) : RB := if (decide (iMin ≤ lo) && decide (hi ≤ iMax)) = true then (if decide (lo = hi) = true then .inl (bI lo) else .inr (lo, hi)) else .inr (iMin, iMax)
abbrev f_top : RB := .inr (iMin, iMax)
def f_isI (a : BV) : Bool := match a with
  | .inl _ => true
  | .inr (.inl _) => true
  | _ => false
def f_isL (a : BV) : Bool := match a with
  | .inr (.inr (.inl _)) => true
  | _ => false
def f_isR (a : BV) : Bool := match a with
  | .inr (.inr (.inr _)) => true
  | _ => false
def f_off (a : BV) (d : Int) : BV := match a with
  | .inl n => .inl (n + d)
  | .inr (.inl (k, c)) => .inr (.inl (k, c + d))
  | x => x
def f_add (E : EB) (a b : BV) : Option RB := match f_iv E a, f_iv E b with
  | some (la, ha), some (lb, hb) =>
    if (decide (iMin ≤ la + lb) && decide (ha + hb ≤ iMax)) = true then
      (if decide (lb = hb) = true then some (.inl (f_off a lb)) else if decide (la = ha) = true then some (.inl (f_off b la)) else some (.inr (la + lb, ha + hb)))
    else some f_top
  | _, _ => none
def f_sub (E : EB) (a b : BV) : Option RB := match f_iv E a, f_iv E b with
  | some (la, ha), some (lb, hb) =>
    if (decide (iMin ≤ la - hb) && decide (ha - lb ≤ iMax)) = true then
      (if decide (lb = hb) = true then some (.inl (f_off a (-lb))) else some (.inr (la - hb, ha - lb)))
    else some f_top
  | _, _ => none
def f_mul (E : EB) (a b : BV) : Option RB := match f_iv E a, f_iv E b with
  | some (la, ha), some (lb, hb) => if (decide (0 ≤ la) && decide (0 ≤ lb)) = true then some (f_mk (la * lb) (ha * hb)) else some f_top
  | _, _ => none
/-- the least number of ones only that is not less -/
def f_ones (h : Int) : Int := if decide (h ≤ 0) = true then 0 else ((2 ^ (Nat.log2 h.toNat + 1) : Nat) : Int) - 1
def f_bit (g : Nat → Nat → Nat) (la ha lb hb : Int) (other : RB) : RB := if (decide (la = ha) && (decide (lb = hb) && (decide (0 ≤ la) && decide (0 ≤ lb)))) = true then .inl (bI ((g la.toNat lb.toNat : Nat) : Int)) else other
def f_and (E : EB) (a b : BV) : Option RB := match f_iv E a, f_iv E b with
  | some (la, ha), some (lb, hb) => some (f_bit (fun x y => x &&& y) la ha lb hb (if decide (0 ≤ lb) = true then (if (decide (0 ≤ la) && decide (ha ≤ hb)) = true then .inr (0, ha) else .inr (0, hb)) else if decide (0 ≤ la) = true then .inr (0, ha) else f_top))
  | _, _ => none
def f_or (E : EB) (a b : BV) : Option RB := match f_iv E a, f_iv E b with
  | some (la, ha), some (lb, hb) => some (f_bit (fun x y => x ||| y) la ha lb hb (if (decide (0 ≤ la) && decide (0 ≤ lb)) = true then .inr (max la lb, f_ones (max ha hb)) else f_top))
  | _, _ => none
def f_xor (E : EB) (a b : BV) : Option RB := match f_iv E a, f_iv E b with
  | some (la, ha), some (lb, hb) => some (f_bit (fun x y => x ^^^ y) la ha lb hb (if (decide (0 ≤ la) && decide (0 ≤ lb)) = true then .inr (0, f_ones (max ha hb)) else f_top))
  | _, _ => none
def f_shl (E : EB) (a b : BV) : Option RB := match f_iv E a, f_iv E b with
  | some (la, ha), some (lb, hb) => if (decide (0 ≤ lb) && (decide (hb < 32) && decide (0 ≤ la))) = true then some (f_mk (la * 2 ^ lb.toNat) (ha * 2 ^ hb.toNat)) else some f_top
  | _, _ => none
def f_shr (E : EB) (a b : BV) : Option RB := match f_iv E a, f_iv E b with
  | some (la, ha), some (lb, hb) => if (decide (0 ≤ lb) && (decide (hb < 32) && decide (0 ≤ la))) = true then some (.inr (0, ha / 2 ^ lb.toNat)) else some f_top
  | _, _ => none
def f_ushr (E : EB) (a b : BV) : Option RB := match f_iv E a, f_iv E b with
  | some _, some (lb, hb) => if (decide (lb = hb) && (decide (0 < lb) && decide (lb < 32))) = true then some (.inr (0, 4294967295 / 2 ^ lb.toNat)) else some f_top
  | _, _ => none
def f_rem (E : EB) (a b : BV) : Option RB := match f_iv E a, f_iv E b with
  | some (la, ha), some (lb, hb) => if decide (0 < lb) = true then (if decide (0 ≤ la) = true then (if decide (ha < lb) = true then some (.inl a) else if (decide (lb = hb) && decide (la / lb = ha / lb)) = true then some (.inr (la % lb, ha % lb)) else some (.inr (0, hb - 1))) else some f_top) else none
  | _, _ => none
def f_div (E : EB) (a b : BV) : Option RB := match f_iv E a, f_iv E b with
  | some (la, ha), some (lb, hb) => if decide (0 < lb) = true then (if decide (0 ≤ la) = true then some (.inr (la / hb, ha / lb)) else some f_top) else none
  | _, _ => none
def f_bin (i : Instr) (E : EB) (a b : BV) : Option RB := match i with
  | .iadd => f_add E a b
  | .isub => f_sub E a b
  | .imul => f_mul E a b
  | .iand => f_and E a b
  | .ior => f_or E a b
  | .ixor => f_xor E a b
  | .ishl => f_shl E a b
  | .ishr => f_shr E a b
  | .iushr => f_ushr E a b
  | .irem => f_rem E a b
  | .idiv => f_div E a b
  | _ => none
/-- longs -/
def f_mkL (lo hi : Int) : RB := if (decide (lMin ≤ lo) && decide (hi ≤ lMax)) = true then .inl (bL lo hi) else .inl (bL lMin lMax)
abbrev f_topL : RB := .inl (bL lMin lMax)
def f_binL (i : Instr) (E : EB) (a b : BV) : Option RB := match a with
  | .inr (.inr (.inl (la, ha))) => (match b with
    | .inr (.inr (.inl (lb, hb))) => (match i with
      | .ladd => some (f_mkL (la + lb) (ha + hb))
      | .land => if (decide (0 ≤ lb)) = true then (if (decide (0 ≤ la) && decide (ha ≤ hb)) = true then some (.inl (bL 0 ha)) else some (.inl (bL 0 hb))) else some f_topL
      | .lor => if (decide (0 ≤ la) && decide (0 ≤ lb)) = true then some (f_mkL 0 (f_ones (max ha hb))) else some f_topL
      | .lcmp => if decide (ha < lb) = true then some (.inl (bI (-1))) else if decide (hb < la) = true then some (.inl (bI 1)) else if (decide (la = ha) && (decide (lb = hb) && decide (la = lb))) = true then some (.inl (bI 0)) else some (.inr (-1, 1))
      | _ => none)
    | _ => (match f_iv E b with
      | some (lb, hb) => (match i with
        | .lshl => if (decide (lb = hb) && (decide (0 ≤ lb) && (decide (lb < 64) && decide (0 ≤ la)))) = true then some (f_mkL (la * 2 ^ lb.toNat) (ha * 2 ^ lb.toNat)) else some f_topL
        | .lshr => if (decide (lb = hb) && (decide (0 ≤ lb) && (decide (lb < 64) && decide (0 ≤ la)))) = true then some (.inl (bL 0 (ha / 2 ^ lb.toNat))) else some f_topL
        | .lushr => some f_topL
        | _ => none)
      | none => none))
  | _ => none
def f_un (i : Instr) (E : EB) (a : BV) : Option RB := match i with
  | .ineg => (match f_iv E a with | some (la, ha) => some (f_mk (-ha) (-la)) | none => none)
  | .i2b => (match f_iv E a with | some (la, ha) => if (decide (-128 ≤ la) && decide (ha ≤ 127)) = true then some (.inl a) else some (.inr (-128, 127)) | none => none)
  | .i2l => (match f_iv E a with | some (la, ha) => some (.inl (bL la ha)) | none => none)
  | .l2i => (match a with | .inr (.inr (.inl (la, ha))) => some (f_mk la ha) | _ => none)
  | _ => none
/-- what was reckoned, with a name if it has none -/
def f_push (r : RB) (n : Nat) (E : EB) : BV × Nat × EB := match r with
  | .inl a => (a, n, E)
  | .inr (lo, hi) => (bV n 0, n + 1, (n, lo, hi) :: E)
/-- the same -/
def on_eq (a b : Option Nat) : Bool := match a with
  | none => (match b with | none => true | some _ => false)
  | some x => (match b with | some y => Nat.beq x y | none => false)
def bv_eq (a b : BV) : Bool := match a with
  | .inl x => (match b with | .inl y => decide (x = y) | _ => false)
  | .inr (.inl (k, c)) => (match b with | .inr (.inl (k', c')) => Nat.beq k k' && decide (c = c') | _ => false)
  | .inr (.inr (.inl (l, h))) => (match b with | .inr (.inr (.inl (l', h'))) => decide (l = l') && decide (h = h') | _ => false)
  | .inr (.inr (.inr (.inl none))) => (match b with | .inr (.inr (.inr (.inl none))) => true | _ => false)
  | .inr (.inr (.inr (.inl (some (κ, nn, nm))))) => (match b with | .inr (.inr (.inr (.inl (some (κ', nn', nm'))))) => Nat.beq κ κ' && ((nn == nn') && on_eq nm nm') | _ => false)
  | .inr (.inr (.inr (.inr j))) => (match b with | .inr (.inr (.inr (.inr j'))) => Nat.beq j j' | _ => false)
def bvs_eq (x y : List BV) : Bool := match x with
  | [] => (match y with | [] => true | _ => false)
  | a :: r => (match y with | b :: t => bv_eq a b && bvs_eq r t | [] => false)
theorem on_eq_ok {a b : Option Nat} (h : on_eq a b = true) : a = b := by
  cases a <;> cases b <;> simp only [on_eq] at h
  · rfl
  · cases h
  · cases h
  · rw [Nat.eq_of_beq_eq_true h]
theorem bv_eq_ok {a b : BV} (h : bv_eq a b = true) : a = b := by
  rcases a with c | ⟨k, c⟩ | ⟨lo, hi⟩ | (_ | ⟨κ, nn, nm⟩) | j <;> rcases b with c' | ⟨k', c'⟩ | ⟨lo', hi'⟩ | (_ | ⟨κ', nn', nm'⟩) | j' <;> simp only [bv_eq] at h <;> try cases h
  · rw [of_decide_eq_true h]
  · simp only [Bool.and_eq_true, decide_eq_true_eq] at h
    rw [Nat.eq_of_beq_eq_true h.1, h.2]
  · simp only [Bool.and_eq_true, decide_eq_true_eq] at h
    rw [h.1, h.2]
  · rfl
  · simp only [Bool.and_eq_true, beq_iff_eq] at h
    rw [Nat.eq_of_beq_eq_true h.1, h.2.1, on_eq_ok h.2.2]
  · rw [Nat.eq_of_beq_eq_true h]
theorem bvs_eq_ok {x y : List BV} (h : bvs_eq x y = true) : x = y := by
  induction x generalizing y with
  | nil => cases y with
    | nil => rfl
    | cons => simp only [bvs_eq] at h; cases h
  | cons a r ih => cases y with
    | nil => simp only [bvs_eq] at h; cases h
    | cons b t =>
      simp only [bvs_eq, Bool.and_eq_true] at h
      rw [bv_eq_ok h.1, ih h.2]
