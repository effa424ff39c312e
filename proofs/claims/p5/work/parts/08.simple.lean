/-! steps that touch neither heap nor pc -/
def e_rng8 (n : Int) : Bool := decide (-128 ≤ n) && decide (n ≤ 127)
def e_rng16 (n : Int) : Bool := decide (-32768 ≤ n) && decide (n ≤ 32767)
def e_ld (len : Nat) (k : AV → Bool) (lo : List (Nat × AV)) (st : List AV) (i : Nat) : Option (Nat × List (Nat × AV) × List AV) := match e_find lo i with
  | some a => if k a = true then some (len, lo, a :: st) else none
  | none => none
def e_sr (len : Nat) (k : AV → Bool) (nL : Nat) (lo : List (Nat × AV)) (st : List AV) (i : Nat) : Option (Nat × List (Nat × AV) × List AV) := match st with
  | a :: st' => if (k a && decide (i < nL)) = true then some (len, e_st1 lo i a, st') else none
  | [] => none
def e_sr2 (len : Nat) (nL : Nat) (lo : List (Nat × AV)) (st : List AV) (i : Nat) : Option (Nat × List (Nat × AV) × List AV) := match st with
  | a :: st' => if (e_isL a && decide (i + 1 < nL)) = true then some (len, e_st2 lo i a, st') else none
  | [] => none
def e_b2 (ins : Instr) (E : EV) (lo : List (Nat × AV)) (st : List AV) : Option (Nat × List (Nat × AV) × List AV) := match st with
  | y :: x :: st' => (match e_bin ins E x y with | some r => some (1, lo, r :: st') | none => none)
  | _ => none
def e_u1 (ins : Instr) (E : EV) (lo : List (Nat × AV)) (st : List AV) : Option (Nat × List (Nat × AV) × List AV) := match st with
  | x :: st' => (match e_un ins E x with | some r => some (1, lo, r :: st') | none => none)
  | _ => none
def e_simple (nL : Nat) (E : EV) (ins : Instr) (lo : List (Nat × AV)) (st : List AV) : Option (Nat × List (Nat × AV) × List AV) := match ins with
  | .iconst n => if e_rng8 n = true then some (1, lo, aI n :: st) else none
  | .bipush n => if e_rng8 n = true then some (2, lo, aI n :: st) else none
  | .sipush n => if e_rng16 n = true then some (3, lo, aI n :: st) else none
  | .lconst k => some (1, lo, aL (k.val : Int) (k.val : Int) :: st)
  | .aconst_null => some (1, lo, aN :: st)
  | .iload_n k => e_ld 1 e_isI lo st k.val
  | .iload i => e_ld 2 e_isI lo st i
  | .lload_n k => e_ld 1 e_isL lo st k.val
  | .lload i => e_ld 2 e_isL lo st i
  | .aload_n k => e_ld 1 e_isR lo st k.val
  | .aload i => e_ld 2 e_isR lo st i
  | .istore_n k => e_sr 1 e_isI nL lo st k.val
  | .istore i => e_sr 2 e_isI nL lo st i
  | .astore_n k => e_sr 1 e_isR nL lo st k.val
  | .astore i => e_sr 2 e_isR nL lo st i
  | .lstore_n k => e_sr2 1 nL lo st k.val
  | .lstore i => e_sr2 2 nL lo st i
  | .iinc i n => (match e_find lo i with
    | some a => (match e_add E a (aI n) with | some r => if (e_rng16 n && decide (i < nL)) = true then some (3, e_st1 lo i r, st) else none | none => none)
    | none => none)
  | .iadd => e_b2 .iadd E lo st
  | .isub => e_b2 .isub E lo st
  | .imul => e_b2 .imul E lo st
  | .iand => e_b2 .iand E lo st
  | .ior => e_b2 .ior E lo st
  | .ixor => e_b2 .ixor E lo st
  | .ishl => e_b2 .ishl E lo st
  | .ishr => e_b2 .ishr E lo st
  | .iushr => e_b2 .iushr E lo st
  | .irem => e_b2 .irem E lo st
  | .idiv => e_b2 .idiv E lo st
  | .ineg => e_u1 .ineg E lo st
  | .i2b => e_u1 .i2b E lo st
  | .i2l => e_u1 .i2l E lo st
  | .lcmp => (match st with | y :: x :: st' => if (e_isL x && e_isL y) = true then some (1, lo, (match x, y with | .inr (.inr (.inl (lx, hx))), .inr (.inr (.inl (ly, hy))) => if (decide (lx = hx) && (decide (ly = hy) && decide (lx = ly))) = true then aI 0 else .inl (-1, 1) | _, _ => .inl (-1, 1)) :: st') else none | _ => none)
  | .dup => (match st with | a :: st' => if e_isL a = false then some (1, lo, a :: a :: st') else none | _ => none)
  | .dup_x1 => (match st with | a :: c :: st' => if (e_isL a || e_isL c) = false then some (1, lo, a :: c :: a :: st') else none | _ => none)
  | .dup2 => (match st with | a :: c :: st' => if (e_isL a || e_isL c) = false then some (1, lo, a :: c :: a :: c :: st') else none | _ => none)
  | .pop => (match st with | a :: st' => if e_isL a = false then some (1, lo, st') else none | _ => none)
  | _ => none
section SIMPLE
variable {ν : Nat → Int} {al : List Nat} {b : Nat} {E : EV}
variable {p : Program} {l : Launch} {e : Env} {R : Room} {s : State} {m : MethodId} {args : Array Value} {below : List Frame} {meth : Method} {c : Code} {H : Heap} {locs : List Loc} {cells slots : Nat} {Q : State → Prop}
variable {cc : ByteArray} {pc nL : Nat} {ls : Array Slot}
theorem e_bin_ok {ins : Instr} {x y r : AV} {vx vy : Value} {rest : List Value} (hx9 : p.tables.exec = Jvm.exec) (hb : c.code = cc) (hd : decode cc pc = .ok (ins, 1)) (hE : genv ν E) (hx : gv ν al b x vx) (hy : gv ν al b y vy) (h : e_bin ins E x y = some r)
    (kk : ∀ v, gv ν al b r v → W p l e R s m args below meth c H locs cells slots Q (F0 m (pc + 1) ls (v :: rest))) : W p l e R s m args below meth c H locs cells slots Q (F0 m pc ls (vy :: vx :: rest)) := by
  have ix : ∀ {r}, e_add E x y = some r ∨ e_sub E x y = some r ∨ e_mul E x y = some r ∨ e_and E x y = some r ∨ e_or E x y = some r ∨ e_xor E x y = some r ∨ e_shl E x y = some r ∨ e_shr E x y = some r ∨ e_top2 E x y = some r ∨ e_rem E x y = some r ∨ e_div E x y = some r → ∃ i j : Int32, vx = .int i ∧ vy = .int j := by
    intro r h
    have : ∃ q1 q2, e_iv E x = some q1 ∧ e_iv E y = some q2 := by
      unfold e_add e_sub e_mul e_and e_or e_xor e_shl e_shr e_top2 e_rem e_div at h
      rcases h1 : e_iv E x with _ | q1
      · simp [h1] at h
      · rcases h2 : e_iv E y with _ | q2
        · simp [h1, h2] at h
        · exact ⟨q1, q2, rfl, rfl⟩
    obtain ⟨⟨q1, q1'⟩, ⟨q2, q2'⟩, e1, e2⟩ := this
    obtain ⟨i, ei, -⟩ := gv_int hE hx e1
    obtain ⟨j, ej, -⟩ := gv_int hE hy e2
    exact ⟨i, j, ei, ej⟩
  unfold e_bin at h
  split at h
  · obtain ⟨i, j, rfl, rfl⟩ := ix (Or.inl h)
    exact lv_iadd hx9 hb hd (kk _ (e_add_ok hE hx hy h))
  · obtain ⟨i, j, rfl, rfl⟩ := ix (Or.inr (Or.inl h))
    exact lv_isub hx9 hb hd (kk _ (e_sub_ok hE hx hy h))
  · obtain ⟨i, j, rfl, rfl⟩ := ix (Or.inr (Or.inr (Or.inl h)))
    exact lv_imul hx9 hb hd (kk _ (e_mul_ok hE hx hy h))
  · obtain ⟨i, j, rfl, rfl⟩ := ix (Or.inr (Or.inr (Or.inr (Or.inl h))))
    exact lv_iand hx9 hb hd (kk _ (e_and_ok hE hx hy h))
  · obtain ⟨i, j, rfl, rfl⟩ := ix (Or.inr (Or.inr (Or.inr (Or.inr (Or.inl h)))))
    exact lv_ior hx9 hb hd (kk _ (e_or_ok hE hx hy h))
  · obtain ⟨i, j, rfl, rfl⟩ := ix (Or.inr (Or.inr (Or.inr (Or.inr (Or.inr (Or.inl h))))))
    exact lv_ixor hx9 hb hd (kk _ (e_xor_ok hE hx hy h))
  · obtain ⟨i, j, rfl, rfl⟩ := ix (Or.inr (Or.inr (Or.inr (Or.inr (Or.inr (Or.inr (Or.inl h)))))))
    exact lv_ishl hx9 hb hd (kk _ (e_shl_ok hE hx hy h))
  · obtain ⟨i, j, rfl, rfl⟩ := ix (Or.inr (Or.inr (Or.inr (Or.inr (Or.inr (Or.inr (Or.inr (Or.inl h))))))))
    exact lv_ishr hx9 hb hd (kk _ (e_shr_ok hE hx hy h))
  · obtain ⟨i, j, rfl, rfl⟩ := ix (Or.inr (Or.inr (Or.inr (Or.inr (Or.inr (Or.inr (Or.inr (Or.inr (Or.inl h)))))))))
    exact lv_iushr hx9 hb hd rfl (kk _ (e_top2_ok h))
  · obtain ⟨i, j, rfl, rfl⟩ := ix (Or.inr (Or.inr (Or.inr (Or.inr (Or.inr (Or.inr (Or.inr (Or.inr (Or.inr (Or.inl h))))))))))
    exact lv_irem hx9 hb hd (e_rem_ok hE hx hy h).1 (kk _ (e_rem_ok hE hx hy h).2)
  · obtain ⟨i, j, rfl, rfl⟩ := ix (Or.inr (Or.inr (Or.inr (Or.inr (Or.inr (Or.inr (Or.inr (Or.inr (Or.inr (Or.inr h))))))))))
    exact lv_idiv hx9 hb hd (e_div_ok hE hx hy h).1 (kk _ (e_div_ok hE hx hy h).2)
  · cases h
theorem e_un_ok {ins : Instr} {x r : AV} {vx : Value} {rest : List Value} (hx9 : p.tables.exec = Jvm.exec) (hb : c.code = cc) (hd : decode cc pc = .ok (ins, 1)) (hE : genv ν E) (hx : gv ν al b x vx) (h : e_un ins E x = some r)
    (kk : ∀ v, gv ν al b r v → W p l e R s m args below meth c H locs cells slots Q (F0 m (pc + 1) ls (v :: rest))) : W p l e R s m args below meth c H locs cells slots Q (F0 m pc ls (vx :: rest)) := by
  unfold e_un at h
  split at h
  · split at h
    · rename_i la ha e1
      obtain ⟨i, rfl, h1, h2⟩ := gv_int hE hx e1
      cases h
      refine lv_ineg hx9 hb hd (kk _ (gv_mkw (z := -i.toInt) (fun h3 h4 => fb_negI (by omega)) (by omega) (by omega)))
    · cases h
  · split at h
    · rename_i la ha e1
      obtain ⟨i, rfl, h1, h2⟩ := gv_int hE hx e1
      split at h
      · rename_i q
        simp only [Bool.and_eq_true, decide_eq_true_eq] at q
        cases h
        exact lv_i2b hx9 hb hd (en_i8 (by omega) (by omega)) (kk _ hx)
      · cases h
        have w := fb_byte_rng i
        exact lv_i2b hx9 hb hd rfl (kk _ ⟨_, rfl, by omega, by omega⟩)
    · cases h
  · split at h
    · rename_i la ha e1
      obtain ⟨i, rfl, h1, h2⟩ := gv_int hE hx e1
      cases h
      exact lv_i2l hx9 hb hd rfl (kk _ ⟨_, rfl, by rw [en_wide]; exact h1, by rw [en_wide]; exact h2⟩)
    · cases h
  · cases h
end SIMPLE
