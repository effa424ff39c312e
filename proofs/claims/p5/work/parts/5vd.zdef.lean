/-! the z engine: the exact engine with numbers for ints -/
def rI (F : Nat → Int) : Nat → Int32 := fun k => Int32.ofInt (F k)
def rL (F : Nat → Int) : Nat → Int64 := fun k => Int64.ofInt (F k)
def zup (F : Nat → Int) (k : Nat) (z : Int) : Nat → Int := fun j => cond (Nat.beq j k) z (F j)
abbrev ZV : Type := Int ⊕ (Int ⊕ Option Nat)
abbrev zI (z : Int) : ZV := .inl z
abbrev zL (z : Int) : ZV := .inr (.inl z)
abbrev zR (q : Nat) : ZV := .inr (.inr (some q))
abbrev zN : ZV := .inr (.inr none)
def zv (v : ZV) : Value := match v with
  | .inl z => .int (Int32.ofInt z)
  | .inr (.inl z) => .long (Int64.ofInt z)
  | .inr (.inr (some q)) => .ref q
  | .inr (.inr none) => .null
/-- an object; a row of ints (bytes, bits); a row of longs -/
abbrev ZE : Type := (Nat × List ZV) ⊕ ((Nat × Nat × (Nat → Int)) ⊕ (Nat × (Nat → Int)))
abbrev ZW : Type := List (Nat × ZE)
def ze (cy : Nat → ClassId) (e : ZE) : va_E := match e with
  | .inl (ci, fs) => .inr (ci, fs.map zv)
  | .inr (.inl (t, n, f)) => .inl (cy t, n, .inl (rI f))
  | .inr (.inr (n, f)) => .inl (cy 3, n, .inr (.inl (rL f)))
def zc (cy : Nat → ClassId) (q : Nat × ZE) : Nat × va_E := (q.1, ze cy q.2)
def zw (cy : Nat → ClassId) (Y : ZW) : va_W := Y.map (zc cy)
def zq (q : Nat × ZV) : Nat × Value := (q.1, zv q.2)
def zl (lv : List (Nat × ZV)) : List (Nat × Value) := lv.map zq
def z_isL (v : ZV) : Bool := match v with
  | .inr (.inl _) => true
  | _ => false
def z_find (lv : List (Nat × ZV)) (i : Nat) : Option ZV := match lv with
  | [] => none
  | (j, v) :: r => if Nat.beq j i = true then some v else z_find r i
def z_s1 (lv : List (Nat × ZV)) (i : Nat) (v : ZV) : List (Nat × ZV) := (i, v) :: lv.filter (fun q => !(q.1 == i) && !(q.1 + 1 == i && z_isL q.2))
def z_s2 (lv : List (Nat × ZV)) (i : Nat) (v : ZV) : List (Nat × ZV) := (i, v) :: lv.filter (fun q => !(q.1 == i) && (!(q.1 == i + 1) && !(q.1 + 1 == i && z_isL q.2)))
abbrev ZO : Type := Nat × List (Nat × ZV) × List ZV × List Prop
def zin (a : Int) : Prop := -2147483648 ≤ a ∧ a < 2147483648
def zand (a b : Int) : Int := (Int32.ofInt a &&& Int32.ofInt b).toInt
def zor (a b : Int) : Int := (Int32.ofInt a ||| Int32.ofInt b).toInt
def zshl (a b : Int) : Int := (Int32.ofInt a <<< (Int32.ofInt b &&& 31)).toInt
def zshr (a b : Int) : Int := (Int32.ofInt a >>> (Int32.ofInt b &&& 31)).toInt
def zdiv (a b : Int) : Int := (Int32.ofInt a / Int32.ofInt b).toInt
def zrem (a b : Int) : Int := (Int32.ofInt a - Int32.ofInt a / Int32.ofInt b * Int32.ofInt b).toInt
def zbyt (a : Int) : Int := ((Int32.ofInt a).toInt8.toInt32).toInt
def zlor (a b : Int) : Int := (Int64.ofInt a ||| Int64.ofInt b).toInt
def zlcmp (a b : Int) : Int := (lg_cmp (Int64.ofInt a) (Int64.ofInt b)).toInt
def z_ldI (len : Nat) (lv : List (Nat × ZV)) (st : List ZV) (i : Nat) : Option ZO := match z_find lv i with
  | some (.inl x) => some (len, lv, .inl x :: st, [])
  | _ => none
def z_ldL (len : Nat) (lv : List (Nat × ZV)) (st : List ZV) (i : Nat) : Option ZO := match z_find lv i with
  | some (.inr (.inl x)) => some (len, lv, .inr (.inl x) :: st, [])
  | _ => none
def z_ldR (len : Nat) (lv : List (Nat × ZV)) (st : List ZV) (i : Nat) : Option ZO := match z_find lv i with
  | some (.inr (.inr x)) => some (len, lv, .inr (.inr x) :: st, [])
  | _ => none
def z_srI (len nL : Nat) (lv : List (Nat × ZV)) (st : List ZV) (i : Nat) : Option ZO := match st with
  | .inl x :: st' => if decide (i < nL) = true then some (len, z_s1 lv i (.inl x), st', []) else none
  | _ => none
def z_srR (len nL : Nat) (lv : List (Nat × ZV)) (st : List ZV) (i : Nat) : Option ZO := match st with
  | .inr (.inr x) :: st' => if decide (i < nL) = true then some (len, z_s1 lv i (.inr (.inr x)), st', []) else none
  | _ => none
def z_srL (len nL : Nat) (lv : List (Nat × ZV)) (st : List ZV) (i : Nat) : Option ZO := match st with
  | .inr (.inl x) :: st' => if decide (i + 1 < nL) = true then some (len, z_s2 lv i (.inr (.inl x)), st', []) else none
  | _ => none
def z_b2 (f : Int → Int → Int) (ob : Int → List Prop) (lv : List (Nat × ZV)) (st : List ZV) : Option ZO := match st with
  | .inl y :: .inl x :: st' => some (1, lv, .inl (f x y) :: st', ob y)
  | _ => none
def z_b2L (f : Int → Int → ZV) (lv : List (Nat × ZV)) (st : List ZV) : Option ZO := match st with
  | .inr (.inl y) :: .inr (.inl x) :: st' => some (1, lv, f x y :: st', [])
  | _ => none
def z_mov (nL : Nat) (ins : Instr) (lv : List (Nat × ZV)) (st : List ZV) : Option ZO := match ins with
  | .iconst n => some (1, lv, .inl n :: st, [])
  | .bipush n => if e_rng8 n = true then some (2, lv, .inl n :: st, []) else none
  | .sipush n => if e_rng16 n = true then some (3, lv, .inl n :: st, []) else none
  | .lconst k => some (1, lv, .inr (.inl (k.val : Int)) :: st, [])
  | .aconst_null => some (1, lv, .inr (.inr none) :: st, [])
  | .iload_n k => z_ldI 1 lv st k.val
  | .iload i => z_ldI 2 lv st i
  | .lload_n k => z_ldL 1 lv st k.val
  | .lload i => z_ldL 2 lv st i
  | .aload_n k => z_ldR 1 lv st k.val
  | .aload i => z_ldR 2 lv st i
  | .istore_n k => z_srI 1 nL lv st k.val
  | .istore i => z_srI 2 nL lv st i
  | .astore_n k => z_srR 1 nL lv st k.val
  | .astore i => z_srR 2 nL lv st i
  | .lstore_n k => z_srL 1 nL lv st k.val
  | .lstore i => z_srL 2 nL lv st i
  | .iinc i n => (match z_find lv i with
    | some (.inl x) => if decide (i < nL) = true then some (3, z_s1 lv i (.inl (x + n)), st, []) else none
    | _ => none)
  | .iadd => z_b2 (fun x y => x + y) (fun _ => []) lv st
  | .isub => z_b2 (fun x y => x - y) (fun _ => []) lv st
  | .imul => z_b2 (fun x y => x * y) (fun _ => []) lv st
  | .iand => z_b2 zand (fun _ => []) lv st
  | .ior => z_b2 zor (fun _ => []) lv st
  | .ishl => z_b2 zshl (fun _ => []) lv st
  | .ishr => z_b2 zshr (fun _ => []) lv st
  | .idiv => z_b2 zdiv (fun y => [¬ Int32.ofInt y = 0]) lv st
  | .irem => z_b2 zrem (fun y => [¬ Int32.ofInt y = 0]) lv st
  | .ladd => z_b2L (fun x y => .inr (.inl (x + y))) lv st
  | .lor => z_b2L (fun x y => .inr (.inl (zlor x y))) lv st
  | .lcmp => z_b2L (fun x y => .inl (zlcmp x y)) lv st
  | .lshl => (match st with
    | .inl y :: .inr (.inl x) :: st' => some (1, lv, .inr (.inl (zlshl x y)) :: st', [])
    | _ => none)
  | .i2l => (match st with
    | .inl x :: st' => some (1, lv, .inr (.inl x) :: st', [zin x])
    | _ => none)
  | .i2b => (match st with
    | .inl x :: st' => some (1, lv, .inl (zbyt x) :: st', [])
    | _ => none)
  | .l2i => (match st with
    | .inr (.inl x) :: st' => some (1, lv, .inl x :: st', [])
    | _ => none)
  | .dup => (match st with
    | a :: st' => if z_isL a = false then some (1, lv, a :: a :: st', []) else none
    | _ => none)
  | .dup2 => (match st with
    | a :: b :: st' => if (z_isL a || z_isL b) = false then some (1, lv, a :: b :: a :: b :: st', []) else none
    | _ => none)
  | .pop => (match st with
    | a :: st' => if z_isL a = false then some (1, lv, st', []) else none
    | _ => none)
  | _ => none
/-! it steps as the exact engine does -/
theorem z_cat (v : ZV) : ((zv v).category == 2) = z_isL v := by
  rcases v with x | x | (_ | x) <;> rfl
theorem z_c1 {v : ZV} (h : z_isL v = false) : x_c1 (zv v) = true := by
  rcases v with x | x | (_ | x)
  · rfl
  · cases h
  · rfl
  · rfl
theorem z_find_ok : ∀ (lv : List (Nat × ZV)) (i : Nat), x_find (zl lv) i = (z_find lv i).map zv := by
  intro lv i
  induction lv with
  | nil => rfl
  | cons q r ih =>
    obtain ⟨j, v⟩ := q
    show (if Nat.beq j i = true then some (zv v) else x_find (zl r) i) = _
    simp only [z_find]
    split
    · rfl
    · exact ih
theorem z_s1_ok (lv : List (Nat × ZV)) (i : Nat) (v : ZV) : zl (z_s1 lv i v) = x_s1 (zl lv) i (zv v) := by
  unfold zl z_s1 x_s1
  rw [List.filter_map, List.map_cons]
  refine congrArg (fun t => (i, zv v) :: t) (congrArg (List.map zq) ?_)
  refine congrArg (fun t => List.filter t lv) ?_
  funext q
  simp only [Function.comp, zq, z_cat]
theorem z_s2_ok (lv : List (Nat × ZV)) (i : Nat) (v : ZV) : zl (z_s2 lv i v) = x_s2 (zl lv) i (zv v) := by
  unfold zl z_s2 x_s2
  rw [List.filter_map, List.map_cons]
  refine congrArg (fun t => (i, zv v) :: t) (congrArg (List.map zq) ?_)
  refine congrArg (fun t => List.filter t lv) ?_
  funext q
  simp only [Function.comp, zq, z_cat]
theorem z_oT (x : Int32) : Int32.ofInt x.toInt = x := Int32.ofInt_toInt x
theorem z_oTL (x : Int64) : Int64.ofInt x.toInt = x := Int64.ofInt_toInt x
theorem z_o32 {n : Int} (h : zin n) : (Int32.ofInt n).toInt = n := en_o32 h.1 h.2
theorem z_i2l {z : Int} (h : zin z) : (Int32.ofInt z).toInt64 = Int64.ofInt z := by
  obtain ⟨h1, h2⟩ := h
  apply Int64.toInt_inj.mp
  rw [Int32.toInt_toInt64, z_o32 ⟨h1, h2⟩, Int64.toInt_ofInt]
  exact (fb_bmodL (by omega) (by omega)).symm
theorem z_tn {z : Int} (h1 : 0 ≤ z) (h2 : z < 2147483648) : (Int32.ofInt z).toNatClampNeg = z.toNat := by
  show (Int32.ofInt z).toInt.toNat = z.toNat
  rw [z_o32 ⟨by omega, h2⟩]
theorem z_vin {z : Int} {n : Nat} (h : 0 ≤ z ∧ z < (n : Int) ∧ z < 2147483648) : vp_in (Int32.ofInt z) n := by
  obtain ⟨h1, h2, h3⟩ := h
  have e := z_o32 (n := z) ⟨by omega, h3⟩
  rintro (h | h)
  · have := (fa_lt _ _).mp h
    rw [en_0, e] at this
    omega
  · rw [z_tn h1 h3] at h
    omega
theorem z_upI {F : Nat → Int} {k : Nat} {z : Int} : upd (rI F) k (Int32.ofInt z) = rI (zup F k z) := by
  funext j
  simp only [upd, rI, zup]
  split
  · rename_i h
    subst h
    rw [Nat.beq_refl]
    rfl
  · rename_i h
    cases hb : Nat.beq j k with
    | false => rfl
    | true => exact absurd (Nat.eq_of_beq_eq_true hb) h
theorem z_upL {F : Nat → Int} {k : Nat} {z : Int} : vp_updL (rL F) k (Int64.ofInt z) = rL (zup F k z) := by
  funext j
  simp only [vp_updL, rL, zup]
  split
  · rename_i h
    subst h
    rw [Nat.beq_refl]
    rfl
  · rename_i h
    cases hb : Nat.beq j k with
    | false => rfl
    | true => exact absurd (Nat.eq_of_beq_eq_true hb) h
theorem z_ldI_ok {len i n : Nat} {lv lv' : List (Nat × ZV)} {st st' : List ZV} {ob : List Prop} (h : z_ldI len lv st i = some (n, lv', st', ob)) : x_ldI len (zl lv) (st.map zv) i = some (n, zl lv', st'.map zv, []) := by
  unfold z_ldI at h
  split at h
  · rename_i x hx
    cases h
    unfold x_ldI
    rw [z_find_ok, hx]
    rfl
  · cases h
theorem z_ldL_ok {len i n : Nat} {lv lv' : List (Nat × ZV)} {st st' : List ZV} {ob : List Prop} (h : z_ldL len lv st i = some (n, lv', st', ob)) : x_ldL len (zl lv) (st.map zv) i = some (n, zl lv', st'.map zv, []) := by
  unfold z_ldL at h
  split at h
  · rename_i x hx
    cases h
    unfold x_ldL
    rw [z_find_ok, hx]
    rfl
  · cases h
theorem z_ldR_ok {len i n : Nat} {lv lv' : List (Nat × ZV)} {st st' : List ZV} {ob : List Prop} (h : z_ldR len lv st i = some (n, lv', st', ob)) : x_ldR len (zl lv) (st.map zv) i = some (n, zl lv', st'.map zv, []) := by
  unfold z_ldR at h
  split at h
  · rename_i x hx
    cases h
    unfold x_ldR
    rw [z_find_ok, hx]
    cases x <;> rfl
  · cases h
theorem z_srI_ok {len nL i n : Nat} {lv lv' : List (Nat × ZV)} {st st' : List ZV} {ob : List Prop} (h : z_srI len nL lv st i = some (n, lv', st', ob)) : x_srI len nL (zl lv) (st.map zv) i = some (n, zl lv', st'.map zv, []) := by
  unfold z_srI at h
  split at h
  · split at h
    · rename_i q
      cases h
      rw [z_s1_ok]
      show (if decide (i < nL) = true then _ else _) = _
      rw [if_pos q]
      rfl
    · cases h
  · cases h
theorem z_srR_ok {len nL i n : Nat} {lv lv' : List (Nat × ZV)} {st st' : List ZV} {ob : List Prop} (h : z_srR len nL lv st i = some (n, lv', st', ob)) : x_srR len nL (zl lv) (st.map zv) i = some (n, zl lv', st'.map zv, []) := by
  unfold z_srR at h
  split at h
  · rename_i x st1
    split at h
    · rename_i q
      cases h
      rw [z_s1_ok]
      cases x with
      | none =>
        show (if decide (i < nL) = true then _ else _) = _
        rw [if_pos q]
        rfl
      | some x =>
        show (if decide (i < nL) = true then _ else _) = _
        rw [if_pos q]
        rfl
    · cases h
  · cases h
theorem z_srL_ok {len nL i n : Nat} {lv lv' : List (Nat × ZV)} {st st' : List ZV} {ob : List Prop} (h : z_srL len nL lv st i = some (n, lv', st', ob)) : x_srL len nL (zl lv) (st.map zv) i = some (n, zl lv', st'.map zv, []) := by
  unfold z_srL at h
  split at h
  · split at h
    · rename_i q
      cases h
      rw [z_s2_ok]
      show (if decide (i + 1 < nL) = true then _ else _) = _
      rw [if_pos q]
      rfl
    · cases h
  · cases h
theorem z_b2_ok {f : Int → Int → Int} {f' : Int32 → Int32 → Int32} {g : Int → List Prop} {g' : Int32 → List Prop} {n : Nat} {lv lv' : List (Nat × ZV)} {st st' : List ZV} {ob : List Prop} (hf : ∀ x y, f' (Int32.ofInt x) (Int32.ofInt y) = Int32.ofInt (f x y)) (hg : ∀ y, g' (Int32.ofInt y) = g y) (h : z_b2 f g lv st = some (n, lv', st', ob)) : x_b2 f' g' (zl lv) (st.map zv) = some (n, zl lv', st'.map zv, ob) := by
  unfold z_b2 at h
  split at h
  · rename_i y x st1
    cases h
    show some (1, zl lv, Value.int (f' (Int32.ofInt x) (Int32.ofInt y)) :: st1.map zv, g' (Int32.ofInt y)) = _
    rw [hf, hg]
    rfl
  · cases h
theorem z_b2L_ok {f : Int → Int → ZV} {f' : Int64 → Int64 → Value} {n : Nat} {lv lv' : List (Nat × ZV)} {st st' : List ZV} {ob : List Prop} (hf : ∀ x y, f' (Int64.ofInt x) (Int64.ofInt y) = zv (f x y)) (h : z_b2L f lv st = some (n, lv', st', ob)) : x_b2L f' (zl lv) (st.map zv) = some (n, zl lv', st'.map zv, ob) := by
  unfold z_b2L at h
  split at h
  · rename_i y x st1
    cases h
    show some (1, zl lv, f' (Int64.ofInt x) (Int64.ofInt y) :: st1.map zv, []) = _
    rw [hf]
    rfl
  · cases h
set_option maxHeartbeats 4000000 in
theorem z_mov_ok {nL : Nat} {ins : Instr} {n : Nat} {lv lv' : List (Nat × ZV)} {st st' : List ZV} {ob : List Prop} (h : z_mov nL ins lv st = some (n, lv', st', ob)) (ho : x_all ob) : ∃ ob', x_mov nL ins (zl lv) (st.map zv) = some (n, zl lv', st'.map zv, ob') ∧ x_all ob' := by
  unfold z_mov at h
  split at h
  · cases h
    exact ⟨[], rfl, trivial⟩
  · split at h
    · rename_i q
      cases h
      refine ⟨[], ?_, trivial⟩
      show (if _ then _ else _) = _
      rw [if_pos q]
      rfl
    · cases h
  · split at h
    · rename_i q
      cases h
      refine ⟨[], ?_, trivial⟩
      show (if _ then _ else _) = _
      rw [if_pos q]
      rfl
    · cases h
  · rename_i k
    cases h
    refine ⟨[], ?_, trivial⟩
    show some (1, zl lv, Value.long (Int64.ofNat k.val) :: st.map zv, []) = some (1, zl lv, Value.long (Int64.ofInt (k.val : Int)) :: st.map zv, [])
    rw [Int64.ofInt_eq_ofNat]
  · cases h
    exact ⟨[], rfl, trivial⟩
  · exact ⟨[], z_ldI_ok h, trivial⟩
  · exact ⟨[], z_ldI_ok h, trivial⟩
  · exact ⟨[], z_ldL_ok h, trivial⟩
  · exact ⟨[], z_ldL_ok h, trivial⟩
  · exact ⟨[], z_ldR_ok h, trivial⟩
  · exact ⟨[], z_ldR_ok h, trivial⟩
  · exact ⟨[], z_srI_ok h, trivial⟩
  · exact ⟨[], z_srI_ok h, trivial⟩
  · exact ⟨[], z_srR_ok h, trivial⟩
  · exact ⟨[], z_srR_ok h, trivial⟩
  · exact ⟨[], z_srL_ok h, trivial⟩
  · exact ⟨[], z_srL_ok h, trivial⟩
  · split at h
    · rename_i i n0 _ x hx
      split at h
      · rename_i q
        cases h
        refine ⟨[], ?_, trivial⟩
        rw [z_s1_ok]
        show (match x_find (zl lv) i with | some (.int x) => _ | _ => _) = _
        rw [z_find_ok, hx]
        show (if decide (i < nL) = true then some (3, x_s1 (zl lv) i (.int (Int32.ofInt x + Int32.ofInt n0)), st.map zv, []) else none) = _
        rw [if_pos q, ← Int32.ofInt_add]
        rfl
      · cases h
    · cases h
  · exact ⟨_, z_b2_ok (fun x y => (Int32.ofInt_add x y).symm) (fun _ => rfl) h, ho⟩
  · exact ⟨_, z_b2_ok (fun x y => (Int32.ofInt_sub x y).symm) (fun _ => rfl) h, ho⟩
  · exact ⟨_, z_b2_ok (fun x y => (Int32.ofInt_mul x y).symm) (fun _ => rfl) h, ho⟩
  · exact ⟨_, z_b2_ok (fun x y => (z_oT _).symm) (fun _ => rfl) h, ho⟩
  · exact ⟨_, z_b2_ok (fun x y => (z_oT _).symm) (fun _ => rfl) h, ho⟩
  · exact ⟨_, z_b2_ok (fun x y => (z_oT _).symm) (fun _ => rfl) h, ho⟩
  · exact ⟨_, z_b2_ok (fun x y => (z_oT _).symm) (fun _ => rfl) h, ho⟩
  · exact ⟨_, z_b2_ok (fun x y => (z_oT _).symm) (fun _ => rfl) h, ho⟩
  · exact ⟨_, z_b2_ok (fun x y => (z_oT _).symm) (fun _ => rfl) h, ho⟩
  · exact ⟨_, z_b2L_ok (f := fun x y => .inr (.inl (x + y))) (fun x y => congrArg Value.long (Int64.ofInt_add x y).symm) h, ho⟩
  · exact ⟨_, z_b2L_ok (f := fun x y => .inr (.inl (zlor x y))) (fun x y => congrArg Value.long (z_oTL _).symm) h, ho⟩
  · exact ⟨_, z_b2L_ok (f := fun x y => .inl (zlcmp x y)) (fun x y => congrArg Value.int (z_oT _).symm) h, ho⟩
  · split at h
    · rename_i y x st1
      cases h
      refine ⟨[], ?_, trivial⟩
      show some (1, zl lv, Value.long (Int64.ofInt x <<< ((Int32.ofInt y).toInt64 &&& 63)) :: st1.map zv, []) = some (1, zl lv, Value.long (Int64.ofInt (zlshl x y)) :: st1.map zv, [])
      rw [zlshl, z_oTL]
    · cases h
  · split at h
    · rename_i x st1
      cases h
      refine ⟨[], ?_, trivial⟩
      show some (1, zl lv, Value.long (Int32.ofInt x).toInt64 :: st1.map zv, []) = some (1, zl lv, Value.long (Int64.ofInt x) :: st1.map zv, [])
      rw [z_i2l ho.1]
    · cases h
  · split at h
    · rename_i x st1
      cases h
      refine ⟨[], ?_, trivial⟩
      show some (1, zl lv, Value.int ((Int32.ofInt x).toInt8.toInt32) :: st1.map zv, []) = some (1, zl lv, Value.int (Int32.ofInt (zbyt x)) :: st1.map zv, [])
      rw [zbyt, z_oT]
    · cases h
  · split at h
    · rename_i x st1
      cases h
      refine ⟨[], ?_, trivial⟩
      show some (1, zl lv, Value.int (Int64.ofInt x).toInt32 :: st1.map zv, []) = some (1, zl lv, Value.int (Int32.ofInt x) :: st1.map zv, [])
      rw [Int64.toInt32_ofInt]
    · cases h
  · split at h
    · rename_i a st1
      split at h
      · rename_i q
        cases h
        refine ⟨[], ?_, trivial⟩
        show (if x_c1 (zv a) = true then _ else _) = _
        rw [if_pos (z_c1 q)]
        rfl
      · cases h
    · cases h
  · split at h
    · rename_i a b st1
      split at h
      · rename_i q
        simp only [Bool.or_eq_false_iff] at q
        cases h
        refine ⟨[], ?_, trivial⟩
        show (if (x_c1 (zv a) && x_c1 (zv b)) = true then _ else _) = _
        rw [z_c1 q.1, z_c1 q.2]
        rfl
      · cases h
    · cases h
  · split at h
    · rename_i a st1
      split at h
      · rename_i q
        cases h
        refine ⟨[], ?_, trivial⟩
        show (if x_c1 (zv a) = true then _ else _) = _
        rw [if_pos (z_c1 q)]
      · cases h
    · cases h
  · cases h
