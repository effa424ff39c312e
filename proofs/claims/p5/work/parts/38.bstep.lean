/-! steps at the heap -/
/-- may a field of this type hold it -/
def f_fits (E : EB) (ty : FieldType) (a : BV) : Bool := match ty with
  | .int => f_isI a
  | .boolean => (match f_iv E a with | some (lo, hi) => decide (0 ≤ lo) && decide (hi ≤ 1) | none => false)
  | .long => f_isL a
  | .object _ => f_isR a
  | .array _ => f_isR a
  | _ => false
def f_plainF (ci k : Nat) : Bool := match vwCl[ci]? with
  | some r => Nat.blt k r.2.2 && !((r.2.1 k).2.2.2)
  | none => false
/-- may a row of this type hold it -/
def f_afit (T : TBt) (E : EB) (t : Nat) (a : BV) : Bool := match t with
  | 0 => f_isI a
  | 1 => (match f_iv E a with | some (lo, hi) => decide (-128 ≤ lo) && decide (hi ≤ 127) | none => false)
  | 2 => (match f_iv E a with | some (lo, hi) => decide (0 ≤ lo) && decide (hi ≤ 1) | none => false)
  | 3 => f_isL a
  | _ => (match a with
    | .inr (.inr (.inr (.inl none))) => true
    | .inr (.inr (.inr (.inl (some (κ, _, _))))) => (match T.1[κ]? with | some (.inr (ci, _)) => Nat.beq ci (e_acls t) | _ => false)
    | _ => false)
/-- the kind that a reference surely points to -/
def f_kd (T : TBt) (E : EB) (a : BV) : Option (Nat × Bool × Option Nat × KD) := match a with
  | .inr (.inr (.inr (.inl (some (κ, nn, nm))))) => if f_nn E a = true then (match T.1[κ]? with | some d => some (κ, nn, nm, d) | none => none) else none
  | _ => none
def f_lds (ins : Instr) : Bool := match ins with
  | .iaload => true
  | .baload => true
  | .laload => true
  | .aaload => true
  | _ => false
def f_sts (ins : Instr) : Bool := match ins with
  | .iastore => true
  | .bastore => true
  | .lastore => true
  | .aastore => true
  | _ => false
/-- a place of a row that is surely within it -/
def f_pl (E : EB) (i : BV) (n : Nat) : Option (Nat × Nat) := match f_iv E i with
  | some (l, h) => if (decide (0 ≤ l) && decide (h < (n : Int))) = true then some (l.toNat, h.toNat) else none
  | none => none
def f_hst (T : TBt) (RT : List (List (Nat × RES))) (M : MT) (wr : WR) (S : SB) (ins : Instr) (len : Nat) : Option SB := match S with
  | (pc, lo, st, F, rw, nc, ns) => (match ins with
    | .getfield i => (match e_res RT (mO M) i, st with
      | some (kd, ci, k, _), a :: st' => (match f_kd T F.2.1 a with
        | some (κ, nn, nm, .inr (ci', tys)) => (match tys[k]? with
          | some t => if (Nat.ble kd 1 && (Nat.beq ci ci' && Nat.beq len 3)) = true then (match f_load T κ nn nm (bI (k : Int)) t F with | (v, F') => some (pc + 3, lo, v :: st', F', rw, nc, ns)) else none
          | none => none)
        | _ => none)
      | _, _ => none)
    | .putfield i => (match e_res RT (mO M) i, st with
      | some (kd, ci, k, _), v :: a :: st' => (match f_kd T F.2.1 a with
        | some (κ, nn, nm, .inr (ci', tys)) => (match tys[k]? with
          | some t => if (Nat.ble kd 1 && (Nat.beq ci ci' && (Nat.beq len 3 && (f_fit F.2.1 v t && (f_fits F.2.1 (clTy ci k) v && (f_plainF ci k && f_wr wr κ k k)))))) = true then some (pc + 3, lo, st', f_store T κ nn nm (bI (k : Int)) v F, rw, nc, ns) else none
          | none => none)
        | _ => none)
      | _, _ => none)
    | .arraylength => (match st with
      | a :: st' => (match f_kd T F.2.1 a with
        | some (_, _, _, .inl (t, n, _)) => if (Nat.ble t 5 && (decide (n < 65536) && Nat.beq len 1)) = true then some (pc + 1, lo, bI (n : Int) :: st', F, rw, nc, ns) else none
        | _ => none)
      | _ => none)
    | .ldc2_w i => (match e_res RT (mO M) i with
      | some (kd, _, _, v) => if (Nat.beq kd 9 && Nat.beq len 3) = true then some (pc + 3, lo, bL v v :: st, F, rw, nc, ns) else none
      | none => none)
    | .ldc i => (match e_res RT (mO M) i with
      | some (kd, _, _, v) => if (Nat.beq kd 11 && Nat.beq len 2) = true then some (pc + 2, lo, bI v :: st, F, rw, nc, ns) else none
      | none => none)
    | .ldc_w i => (match e_res RT (mO M) i with
      | some (kd, _, _, v) => if (Nat.beq kd 11 && Nat.beq len 3) = true then some (pc + 3, lo, bI v :: st, F, rw, nc, ns) else none
      | none => none)
    | _ => if f_lds ins = true then (match st with
        | i :: a :: st' => (match f_kd T F.2.1 a with
          | some (κ, nn, nm, .inl (t, n, x)) => (match f_pl F.2.1 i n with
            | some (l, h) => (match k_hull x l h with
              | some ty => if (Nat.ble t 5 && (decide (n < 65536) && (Nat.beq len 1 && e_ald ins t))) = true then (match f_load T κ nn nm i ty F with | (v, F') => some (pc + 1, lo, v :: st', F', rw, nc, ns)) else none
              | none => none)
            | none => none)
          | _ => none)
        | _ => none)
      else if f_sts ins = true then (match st with
        | v :: i :: a :: st' => (match f_kd T F.2.1 a with
          | some (κ, nn, nm, .inl (t, n, x)) => (match f_pl F.2.1 i n with
            | some (l, h) => if (Nat.ble t 5 && (decide (n < 65536) && (Nat.beq len 1 && (e_aop ins t && (f_afit T F.2.1 t v && (k_all (f_fit F.2.1 v) x l h && f_wr wr κ l h)))))) = true then some (pc + 1, lo, st', f_store T κ nn nm i v F, rw, nc, ns) else none
            | none => none)
          | _ => none)
        | _ => none)
      else none)
