/-! the exact engine: plain values, a step at a time, and what must hold beside it -/
def x_find (lv : List (Nat × Value)) (i : Nat) : Option Value := match lv with
  | [] => none
  | (j, v) :: r => if Nat.beq j i = true then some v else x_find r i
def x_s1 (lv : List (Nat × Value)) (i : Nat) (v : Value) : List (Nat × Value) := (i, v) :: lv.filter (fun q => !(q.1 == i) && !(q.1 + 1 == i && q.2.category == 2))
def x_s2 (lv : List (Nat × Value)) (i : Nat) (v : Value) : List (Nat × Value) := (i, v) :: lv.filter (fun q => !(q.1 == i) && (!(q.1 == i + 1) && !(q.1 + 1 == i && q.2.category == 2)))
def x_all : List Prop → Prop
  | [] => True
  | P :: r => P ∧ x_all r
/-- how long, locals, stack, what must hold -/
abbrev XO : Type := Nat × List (Nat × Value) × List Value × List Prop
def x_ldI (len : Nat) (lv : List (Nat × Value)) (st : List Value) (i : Nat) : Option XO := match x_find lv i with
  | some (.int x) => some (len, lv, .int x :: st, [])
  | _ => none
def x_ldL (len : Nat) (lv : List (Nat × Value)) (st : List Value) (i : Nat) : Option XO := match x_find lv i with
  | some (.long x) => some (len, lv, .long x :: st, [])
  | _ => none
def x_ldR (len : Nat) (lv : List (Nat × Value)) (st : List Value) (i : Nat) : Option XO := match x_find lv i with
  | some (.ref x) => some (len, lv, .ref x :: st, [])
  | some .null => some (len, lv, .null :: st, [])
  | _ => none
def x_srI (len nL : Nat) (lv : List (Nat × Value)) (st : List Value) (i : Nat) : Option XO := match st with
  | .int x :: st' => if decide (i < nL) = true then some (len, x_s1 lv i (.int x), st', []) else none
  | _ => none
def x_srR (len nL : Nat) (lv : List (Nat × Value)) (st : List Value) (i : Nat) : Option XO := match st with
  | .ref x :: st' => if decide (i < nL) = true then some (len, x_s1 lv i (.ref x), st', []) else none
  | .null :: st' => if decide (i < nL) = true then some (len, x_s1 lv i .null, st', []) else none
  | _ => none
def x_srL (len nL : Nat) (lv : List (Nat × Value)) (st : List Value) (i : Nat) : Option XO := match st with
  | .long x :: st' => if decide (i + 1 < nL) = true then some (len, x_s2 lv i (.long x), st', []) else none
  | _ => none
def x_b2 (f : Int32 → Int32 → Int32) (ob : Int32 → List Prop) (lv : List (Nat × Value)) (st : List Value) : Option XO := match st with
  | .int y :: .int x :: st' => some (1, lv, .int (f x y) :: st', ob y)
  | _ => none
def x_b2L (f : Int64 → Int64 → Value) (lv : List (Nat × Value)) (st : List Value) : Option XO := match st with
  | .long y :: .long x :: st' => some (1, lv, f x y :: st', [])
  | _ => none
def x_u1 (f : Int32 → Value) (lv : List (Nat × Value)) (st : List Value) : Option XO := match st with
  | .int x :: st' => some (1, lv, f x :: st', [])
  | _ => none
def x_c1 (v : Value) : Bool := Nat.beq v.category 1
def x_mov (nL : Nat) (ins : Instr) (lv : List (Nat × Value)) (st : List Value) : Option XO := match ins with
  | .iconst n => some (1, lv, .int (Int32.ofInt n) :: st, [])
  | .bipush n => if e_rng8 n = true then some (2, lv, .int (Int32.ofInt n) :: st, []) else none
  | .sipush n => if e_rng16 n = true then some (3, lv, .int (Int32.ofInt n) :: st, []) else none
  | .lconst k => some (1, lv, .long (Int64.ofNat k.val) :: st, [])
  | .aconst_null => some (1, lv, .null :: st, [])
  | .iload_n k => x_ldI 1 lv st k.val
  | .iload i => x_ldI 2 lv st i
  | .lload_n k => x_ldL 1 lv st k.val
  | .lload i => x_ldL 2 lv st i
  | .aload_n k => x_ldR 1 lv st k.val
  | .aload i => x_ldR 2 lv st i
  | .istore_n k => x_srI 1 nL lv st k.val
  | .istore i => x_srI 2 nL lv st i
  | .astore_n k => x_srR 1 nL lv st k.val
  | .astore i => x_srR 2 nL lv st i
  | .lstore_n k => x_srL 1 nL lv st k.val
  | .lstore i => x_srL 2 nL lv st i
  | .iinc i n => (match x_find lv i with
    | some (.int x) => if decide (i < nL) = true then some (3, x_s1 lv i (.int (x + Int32.ofInt n)), st, []) else none
    | _ => none)
  | .iadd => x_b2 (fun x y => x + y) (fun _ => []) lv st
  | .isub => x_b2 (fun x y => x - y) (fun _ => []) lv st
  | .imul => x_b2 (fun x y => x * y) (fun _ => []) lv st
  | .iand => x_b2 (fun x y => x &&& y) (fun _ => []) lv st
  | .ior => x_b2 (fun x y => x ||| y) (fun _ => []) lv st
  | .ishl => x_b2 (fun x y => x <<< (y &&& 31)) (fun _ => []) lv st
  | .ishr => x_b2 (fun x y => x >>> (y &&& 31)) (fun _ => []) lv st
  | .iushr => x_b2 (fun x y => (x.toUInt32 >>> (y.toUInt32 &&& Int32.toUInt32 31)).toInt32) (fun _ => []) lv st
  | .idiv => x_b2 (fun x y => x / y) (fun y => [¬ y = 0]) lv st
  | .irem => x_b2 (fun x y => x - x / y * y) (fun y => [¬ y = 0]) lv st
  | .ladd => x_b2L (fun x y => .long (x + y)) lv st
  | .lor => x_b2L (fun x y => .long (x ||| y)) lv st
  | .lcmp => x_b2L (fun x y => .int (lg_cmp x y)) lv st
  | .lshl => (match st with
    | .int y :: .long x :: st' => some (1, lv, .long (x <<< (y.toInt64 &&& 63)) :: st', [])
    | _ => none)
  | .ineg => x_u1 (fun x => .int (-x)) lv st
  | .i2l => x_u1 (fun x => .long x.toInt64) lv st
  | .i2b => x_u1 (fun x => .int x.toInt8.toInt32) lv st
  | .l2i => (match st with
    | .long x :: st' => some (1, lv, .int x.toInt32 :: st', [])
    | _ => none)
  | .dup => (match st with
    | a :: st' => if x_c1 a = true then some (1, lv, a :: a :: st', []) else none
    | _ => none)
  | .dup2 => (match st with
    | a :: b :: st' => if (x_c1 a && x_c1 b) = true then some (1, lv, a :: b :: a :: b :: st', []) else none
    | _ => none)
  | .pop => (match st with
    | a :: st' => if x_c1 a = true then some (1, lv, st', []) else none
    | _ => none)
  | _ => none
section XMOV
variable {p : Program} {l : Launch} {e : Env} {R : Room} {s : State} {m : MethodId} {args : Array Value} {below : List Frame} {meth : Method} {c : Code} {H : Heap} {locs : List Loc} {cells slots : Nat} {Q : State → Prop}
variable {cc : ByteArray} {pc nL : Nat} {ls : Array Slot}
theorem x_find_ok {lv : List (Nat × Value)} {i : Nat} {v : Value} (h : x_find lv i = some v) : ∃ k : Nat, lv[k]? = some (i, v) := by
  induction lv with
  | nil => cases h
  | cons q r ih =>
    obtain ⟨j, w⟩ := q
    simp only [x_find] at h
    split at h
    · rename_i h1
      have h1 := Nat.eq_of_beq_eq_true h1
      subst h1
      cases h
      exact ⟨0, rfl⟩
    · obtain ⟨k, hk⟩ := ih h
      exact ⟨k + 1, hk⟩
theorem x_ldI_ok {len i n : Nat} {lv lv' : List (Nat × Value)} {st st' : List Value} {ob : List Prop} (h : x_ldI len lv st i = some (n, lv', st', ob)) (hl : lv_has ls nL lv) : n = len ∧ lv' = lv ∧ ∃ x : Int32, st' = .int x :: st ∧ ls[i]? = some (.val (.int x)) := by
  unfold x_ldI at h
  split at h
  · rename_i x hx
    cases h
    obtain ⟨k, hk⟩ := x_find_ok hx
    exact ⟨rfl, rfl, x, rfl, lv_at hl k hk⟩
  · cases h
theorem x_ldL_ok {len i n : Nat} {lv lv' : List (Nat × Value)} {st st' : List Value} {ob : List Prop} (h : x_ldL len lv st i = some (n, lv', st', ob)) (hl : lv_has ls nL lv) : n = len ∧ lv' = lv ∧ ∃ x : Int64, st' = .long x :: st ∧ ls[i]? = some (.val (.long x)) := by
  unfold x_ldL at h
  split at h
  · rename_i x hx
    cases h
    obtain ⟨k, hk⟩ := x_find_ok hx
    exact ⟨rfl, rfl, x, rfl, lv_at hl k hk⟩
  · cases h
theorem x_ldR_ok {len i n : Nat} {lv lv' : List (Nat × Value)} {st st' : List Value} {ob : List Prop} (h : x_ldR len lv st i = some (n, lv', st', ob)) (hl : lv_has ls nL lv) : n = len ∧ lv' = lv ∧ ((∃ x : Nat, st' = .ref x :: st ∧ ls[i]? = some (.val (.ref x))) ∨ (st' = .null :: st ∧ ls[i]? = some (.val .null))) := by
  unfold x_ldR at h
  split at h
  · rename_i x hx
    cases h
    obtain ⟨k, hk⟩ := x_find_ok hx
    exact ⟨rfl, rfl, Or.inl ⟨x, rfl, lv_at hl k hk⟩⟩
  · rename_i hx
    cases h
    obtain ⟨k, hk⟩ := x_find_ok hx
    exact ⟨rfl, rfl, Or.inr ⟨rfl, lv_at hl k hk⟩⟩
  · cases h
theorem x_srI_ok {len i n : Nat} {lv lv' : List (Nat × Value)} {st st' : List Value} {ob : List Prop} (h : x_srI len nL lv st i = some (n, lv', st', ob)) : n = len ∧ i < nL ∧ ∃ x : Int32, st = .int x :: st' ∧ lv' = x_s1 lv i (.int x) := by
  unfold x_srI at h
  split at h
  · split at h
    · rename_i q
      cases h
      exact ⟨rfl, of_decide_eq_true q, _, rfl, rfl⟩
    · cases h
  · cases h
theorem x_srR_ok {len i n : Nat} {lv lv' : List (Nat × Value)} {st st' : List Value} {ob : List Prop} (h : x_srR len nL lv st i = some (n, lv', st', ob)) : n = len ∧ i < nL ∧ ((∃ x : Nat, st = .ref x :: st' ∧ lv' = x_s1 lv i (.ref x)) ∨ (st = .null :: st' ∧ lv' = x_s1 lv i .null)) := by
  unfold x_srR at h
  split at h
  · split at h
    · rename_i q
      cases h
      exact ⟨rfl, of_decide_eq_true q, Or.inl ⟨_, rfl, rfl⟩⟩
    · cases h
  · split at h
    · rename_i q
      cases h
      exact ⟨rfl, of_decide_eq_true q, Or.inr ⟨rfl, rfl⟩⟩
    · cases h
  · cases h
theorem x_srL_ok {len i n : Nat} {lv lv' : List (Nat × Value)} {st st' : List Value} {ob : List Prop} (h : x_srL len nL lv st i = some (n, lv', st', ob)) : n = len ∧ i + 1 < nL ∧ ∃ x : Int64, st = .long x :: st' ∧ lv' = x_s2 lv i (.long x) := by
  unfold x_srL at h
  split at h
  · split at h
    · rename_i q
      cases h
      exact ⟨rfl, of_decide_eq_true q, _, rfl, rfl⟩
    · cases h
  · cases h
theorem x_b2_ok {f : Int32 → Int32 → Int32} {g : Int32 → List Prop} {n : Nat} {lv lv' : List (Nat × Value)} {st st' : List Value} {ob : List Prop} (h : x_b2 f g lv st = some (n, lv', st', ob)) : n = 1 ∧ lv' = lv ∧ ∃ (x y : Int32) (r : List Value), st = .int y :: .int x :: r ∧ st' = .int (f x y) :: r ∧ ob = g y := by
  unfold x_b2 at h
  split at h
  · cases h
    exact ⟨rfl, rfl, _, _, _, rfl, rfl, rfl⟩
  · cases h
theorem x_b2L_ok {f : Int64 → Int64 → Value} {n : Nat} {lv lv' : List (Nat × Value)} {st st' : List Value} {ob : List Prop} (h : x_b2L f lv st = some (n, lv', st', ob)) : n = 1 ∧ lv' = lv ∧ ∃ (x y : Int64) (r : List Value), st = .long y :: .long x :: r ∧ st' = f x y :: r := by
  unfold x_b2L at h
  split at h
  · cases h
    exact ⟨rfl, rfl, _, _, _, rfl, rfl⟩
  · cases h
theorem x_u1_ok {f : Int32 → Value} {n : Nat} {lv lv' : List (Nat × Value)} {st st' : List Value} {ob : List Prop} (h : x_u1 f lv st = some (n, lv', st', ob)) : n = 1 ∧ lv' = lv ∧ ∃ (x : Int32) (r : List Value), st = .int x :: r ∧ st' = f x :: r := by
  unfold x_u1 at h
  split at h
  · cases h
    exact ⟨rfl, rfl, _, _, rfl, rfl⟩
  · cases h
theorem x_o8 {n : Int} (h : e_rng8 n = true) : (Int8.ofInt n).toInt32 = Int32.ofInt n := by
  simp only [e_rng8, Bool.and_eq_true, decide_eq_true_eq] at h
  apply (fa_eq _ _).mpr
  rw [en_o8 h.1 h.2, en_o32 (by omega) (by omega)]
theorem x_o16 {n : Int} (h : e_rng16 n = true) : (Int16.ofInt n).toInt32 = Int32.ofInt n := by
  simp only [e_rng16, Bool.and_eq_true, decide_eq_true_eq] at h
  apply (fa_eq _ _).mpr
  rw [en_o16 h.1 h.2, en_o32 (by omega) (by omega)]
theorem x_c1_ok {v : Value} (h : x_c1 v = true) : v.category = 1 := Nat.eq_of_beq_eq_true h
set_option maxHeartbeats 4000000 in
theorem x_mov_ok {ins : Instr} {len : Nat} {lv lv' : List (Nat × Value)} {st st' : List Value} {ob : List Prop} (hx9 : p.tables.exec = Jvm.exec) (hb : c.code = cc)
    (h : x_mov nL ins lv st = some (len, lv', st', ob)) (ho : x_all ob) (hd : decode cc pc = .ok (ins, len)) (hl : lv_has ls nL lv)
    (kk : ∀ ls', lv_has ls' nL lv' → W p l e R s m args below meth c H locs cells slots Q (F0 m (pc + len) ls' st')) : W p l e R s m args below meth c H locs cells slots Q (F0 m pc ls st) := by
  unfold x_mov at h
  split at h
  · cases h
    exact lv_iconst hx9 hb hd rfl (kk _ hl)
  · split at h
    · rename_i q
      cases h
      exact lv_bipush hx9 hb hd (x_o8 q) (kk _ hl)
    · cases h
  · split at h
    · rename_i q
      cases h
      exact lv_sipush hx9 hb hd (x_o16 q) (kk _ hl)
    · cases h
  · cases h
    exact lv_lconst hx9 hb hd rfl (kk _ hl)
  · cases h
    exact lv_null hx9 hb hd (kk _ hl)
  · obtain ⟨rfl, rfl, x, rfl, e1⟩ := x_ldI_ok h hl
    exact lv_iload_n hx9 hb hd rfl e1 (kk _ hl)
  · obtain ⟨rfl, rfl, x, rfl, e1⟩ := x_ldI_ok h hl
    exact lv_iload hx9 hb hd e1 (kk _ hl)
  · obtain ⟨rfl, rfl, x, rfl, e1⟩ := x_ldL_ok h hl
    exact lv_lload_n hx9 hb hd rfl e1 (kk _ hl)
  · obtain ⟨rfl, rfl, x, rfl, e1⟩ := x_ldL_ok h hl
    exact lv_lload hx9 hb hd e1 (kk _ hl)
  · obtain ⟨rfl, rfl, ⟨x, rfl, e1⟩ | ⟨rfl, e1⟩⟩ := x_ldR_ok h hl
    · exact lv_aload_n hx9 hb hd rfl e1 (kk _ hl)
    · exact lv_aload_nN hx9 hb hd rfl e1 (kk _ hl)
  · obtain ⟨rfl, rfl, ⟨x, rfl, e1⟩ | ⟨rfl, e1⟩⟩ := x_ldR_ok h hl
    · exact lv_aload hx9 hb hd e1 (kk _ hl)
    · exact lv_aloadN hx9 hb hd e1 (kk _ hl)
  · obtain ⟨rfl, hi, x, rfl, rfl⟩ := x_srI_ok h
    exact lv_istore_n hx9 hb hd rfl hl hi rfl (fun ls' hl' => kk _ hl')
  · obtain ⟨rfl, hi, x, rfl, rfl⟩ := x_srI_ok h
    exact lv_istore hx9 hb hd hl hi rfl (fun ls' hl' => kk _ hl')
  · obtain ⟨rfl, hi, ⟨x, rfl, rfl⟩ | ⟨rfl, rfl⟩⟩ := x_srR_ok h
    · exact lv_astore_n hx9 hb hd rfl hl hi rfl (fun ls' hl' => kk _ hl')
    · exact lv_astore_nN hx9 hb hd rfl hl hi rfl (fun ls' hl' => kk _ hl')
  · obtain ⟨rfl, hi, ⟨x, rfl, rfl⟩ | ⟨rfl, rfl⟩⟩ := x_srR_ok h
    · exact lv_astore hx9 hb hd hl hi rfl (fun ls' hl' => kk _ hl')
    · exact lv_astoreN hx9 hb hd hl hi rfl (fun ls' hl' => kk _ hl')
  · obtain ⟨rfl, hi, x, rfl, rfl⟩ := x_srL_ok h
    exact lv_lstore_n hx9 hb hd rfl hl hi rfl (fun ls' hl' => kk _ hl')
  · obtain ⟨rfl, hi, x, rfl, rfl⟩ := x_srL_ok h
    exact lv_lstore hx9 hb hd hl hi rfl (fun ls' hl' => kk _ hl')
  · split at h
    · rename_i x hx
      split at h
      · rename_i q
        cases h
        obtain ⟨k, hk⟩ := x_find_ok hx
        exact lv_iinc hx9 hb hd hl hk rfl (of_decide_eq_true q) rfl (fun ls' hl' => kk _ hl')
      · cases h
    · cases h
  · obtain ⟨rfl, rfl, x, y, r, rfl, rfl, rfl⟩ := x_b2_ok h
    exact lv_iadd hx9 hb hd (kk _ hl)
  · obtain ⟨rfl, rfl, x, y, r, rfl, rfl, rfl⟩ := x_b2_ok h
    exact lv_isub hx9 hb hd (kk _ hl)
  · obtain ⟨rfl, rfl, x, y, r, rfl, rfl, rfl⟩ := x_b2_ok h
    exact lv_imul hx9 hb hd (kk _ hl)
  · obtain ⟨rfl, rfl, x, y, r, rfl, rfl, rfl⟩ := x_b2_ok h
    exact lv_iand hx9 hb hd (kk _ hl)
  · obtain ⟨rfl, rfl, x, y, r, rfl, rfl, rfl⟩ := x_b2_ok h
    exact lv_ior hx9 hb hd (kk _ hl)
  · obtain ⟨rfl, rfl, x, y, r, rfl, rfl, rfl⟩ := x_b2_ok h
    exact lv_ishl hx9 hb hd (kk _ hl)
  · obtain ⟨rfl, rfl, x, y, r, rfl, rfl, rfl⟩ := x_b2_ok h
    exact lv_ishr hx9 hb hd (kk _ hl)
  · obtain ⟨rfl, rfl, x, y, r, rfl, rfl, rfl⟩ := x_b2_ok h
    exact lv_iushr hx9 hb hd rfl (kk _ hl)
  · obtain ⟨rfl, rfl, x, y, r, rfl, rfl, rfl⟩ := x_b2_ok h
    exact lv_idiv hx9 hb hd ho.1 (kk _ hl)
  · obtain ⟨rfl, rfl, x, y, r, rfl, rfl, rfl⟩ := x_b2_ok h
    exact lv_irem hx9 hb hd ho.1 (kk _ hl)
  · obtain ⟨rfl, rfl, x, y, r, rfl, rfl⟩ := x_b2L_ok h
    exact lv_ladd hx9 hb hd (kk _ hl)
  · obtain ⟨rfl, rfl, x, y, r, rfl, rfl⟩ := x_b2L_ok h
    exact lv_lor hx9 hb hd (kk _ hl)
  · obtain ⟨rfl, rfl, x, y, r, rfl, rfl⟩ := x_b2L_ok h
    exact W.lcmp hx9 hb hd (kk _ hl)
  · split at h
    · cases h
      exact lv_lshl hx9 hb hd rfl (kk _ hl)
    · cases h
  · obtain ⟨rfl, rfl, x, r, rfl, rfl⟩ := x_u1_ok h
    exact lv_ineg hx9 hb hd (kk _ hl)
  · obtain ⟨rfl, rfl, x, r, rfl, rfl⟩ := x_u1_ok h
    exact lv_i2l hx9 hb hd rfl (kk _ hl)
  · obtain ⟨rfl, rfl, x, r, rfl, rfl⟩ := x_u1_ok h
    exact lv_i2b hx9 hb hd rfl (kk _ hl)
  · split at h
    · cases h
      exact lv_l2i hx9 hb hd rfl (kk _ hl)
    · cases h
  · split at h
    · split at h
      · rename_i q
        cases h
        exact lv_dup hx9 hb hd (x_c1_ok q) (kk _ hl)
      · cases h
    · cases h
  · split at h
    · split at h
      · rename_i q
        simp only [Bool.and_eq_true] at q
        cases h
        exact lv_dup2_11 hx9 hb hd (x_c1_ok q.1) (x_c1_ok q.2) (kk _ hl)
      · cases h
    · cases h
  · split at h
    · split at h
      · rename_i q
        cases h
        exact lv_pop hx9 hb hd (x_c1_ok q) (kk _ hl)
      · cases h
    · cases h
  · cases h
end XMOV
