/-! steps that reckon -/
theorem wb_tb (n : Nat) : (lN n).toBitVec = BitVec.ofNat 64 n := rfl
theorem wb_inj {a b : Int64} (h : a.toBitVec = b.toBitVec) : a = b := Int64.toBitVec_inj.mp h
theorem wb_c : ∀ k, k < 64 → ((nI k).toInt64 &&& 63) = lN k := by decide +kernel
theorem wb_sm : ∀ k, k < 64 → (BitVec.ofNat 64 k).smod 64 = BitVec.ofNat 64 k := by decide +kernel
theorem wb_shl (n : Nat) {k : Nat} (hk : k < 64) : lN n <<< ((nI k).toInt64 &&& 63) = lN (n * 2 ^ k) := by
  rw [wb_c k hk]
  apply wb_inj
  rw [Int64.toBitVec_shiftLeft, wb_tb, wb_tb, wb_tb, wb_sm k hk]
  apply BitVec.eq_of_toNat_eq
  rw [BitVec.shiftLeft_eq', BitVec.toNat_shiftLeft, BitVec.toNat_ofNat, BitVec.toNat_ofNat, BitVec.toNat_ofNat, Nat.mod_eq_of_lt (show k < 2 ^ 64 by omega), Nat.shiftLeft_eq, Nat.mul_mod, Nat.mod_mod, ← Nat.mul_mod]
theorem en_lN {n : Nat} (h : n < 9223372036854775808) : (lN n).toInt = (n : Int) := Int64.toInt_ofNat_of_lt (by omega)
theorem en_nnL {x : Int64} (h : 0 ≤ x.toInt) : ∃ n : Nat, x = lN n ∧ n < 9223372036854775808 ∧ x.toInt = (n : Int) := by
  have r := fb_rngL x
  have e : (lN x.toInt.toNat).toInt = x.toInt := by rw [en_lN (by omega)]; omega
  exact ⟨x.toInt.toNat, (fa_eq64 _ _).mpr e.symm, by omega, by omega⟩
theorem en_shrL (x : Int64) (k : Nat) (hk : k < 64) : (x >>> ((nI k).toInt64 &&& 63)).toInt = x.toInt / 2 ^ k := by
  rw [wb_c k hk]
  show ((x >>> lN k).toBitVec).toInt = x.toBitVec.toInt / 2 ^ k
  rw [Int64.toBitVec_shiftRight, wb_tb, wb_sm k hk, BitVec.toInt_sshiftRight', BitVec.toNat_ofNat, Nat.mod_eq_of_lt (show k < 2 ^ 64 by omega), Int.shiftRight_eq_div_pow]
  rfl
section ARI
variable {I : IN} {E : EB} {n : Nat}
theorem hr_topL (x : Int64) : hr I f_topL (.long x) := ⟨x, rfl, (fb_rngL x).1, by have := (fb_rngL x).2; simp only [lMax]; omega⟩
theorem hr_mkL {x : Int64} {z lo hi : Int} (hx : lMin ≤ z → z ≤ lMax → x.toInt = z) (h1 : lo ≤ z) (h2 : z ≤ hi) : hr I (f_mkL lo hi) (.long x) := by
  unfold f_mkL
  split
  · rename_i h
    simp only [Bool.and_eq_true, decide_eq_true_eq] at h
    have e := hx (by omega) (by omega)
    exact ⟨x, rfl, by omega, by omega⟩
  · exact hr_topL x
theorem en_andL {x y : Int64} (h : 0 ≤ y.toInt) : 0 ≤ (x &&& y).toInt ∧ (x &&& y).toInt ≤ y.toInt := by
  obtain ⟨k, rfl, hn, e⟩ := en_nnL h
  have hx : x = lN x.toBitVec.toNat := by
    apply wb_inj
    rw [wb_tb]
    simp
  have hle : x.toBitVec.toNat &&& k ≤ k := Nat.and_le_right
  rw [hx, fb_andL, en_lN (by omega), e]
  omega
theorem en_andcL (x y : Int64) : x &&& y = y &&& x := by
  apply wb_inj
  simp only [Int64.toBitVec_and]
  exact BitVec.and_comm _ _
def f_mem (i : Instr) : Bool := match i with
  | .ladd => true
  | .land => true
  | .lor => true
  | .lcmp => true
  | .lshl => true
  | .lshr => true
  | .lushr => true
  | _ => false
/-- a binary step: y over x on the stack -/
def f_two (ins : Instr) (E : EB) (x y : BV) : Option RB := if f_mem ins = true then f_binL ins E x y else f_bin ins E x y
variable {p : Program} {l : Launch} {e : Env} {R : Room} {s : State} {m : MethodId} {args : Array Value} {below : List Frame} {meth : Method} {c : Code} {H : Heap} {locs : List Loc} {cells slots : Nat} {Q : State → Prop}
variable {cc : ByteArray} {pc nL : Nat} {ls : Array Slot}
theorem f_bin_ints {ins : Instr} {x y : BV} {r : RB} (h : f_bin ins E x y = some r) : ∃ q1 q2, f_iv E x = some q1 ∧ f_iv E y = some q2 := by
  rcases h1 : f_iv E x with _ | q1
  · unfold f_bin f_add f_sub f_mul f_and f_or f_xor f_shl f_shr f_ushr f_rem f_div at h
    rw [h1] at h
    split at h <;> cases h
  · rcases h2 : f_iv E y with _ | q2
    · unfold f_bin f_add f_sub f_mul f_and f_or f_xor f_shl f_shr f_ushr f_rem f_div at h
      rw [h1, h2] at h
      split at h <;> cases h
    · exact ⟨q1, q2, rfl, rfl⟩
theorem f_bin_ok {ins : Instr} {x y : BV} {r : RB} {vx vy : Value} {rest : List Value} (hx9 : p.tables.exec = Jvm.exec) (hb : c.code = cc) (hd : decode cc pc = .ok (ins, 1)) (hE : henv I.1 n E) (hx : hv I x vx) (hy : hv I y vy) (h : f_bin ins E x y = some r)
    (kk : ∀ v, hr I r v → W p l e R s m args below meth c H locs cells slots Q (F0 m (pc + 1) ls (v :: rest))) : W p l e R s m args below meth c H locs cells slots Q (F0 m pc ls (vy :: vx :: rest)) := by
  obtain ⟨⟨q1, q1'⟩, ⟨q2, q2'⟩, e1, e2⟩ := f_bin_ints h
  obtain ⟨i, rfl, -⟩ := hv_int hE hx e1
  obtain ⟨j, rfl, -⟩ := hv_int hE hy e2
  unfold f_bin at h
  split at h
  · exact lv_iadd hx9 hb hd (kk _ (f_add_ok hE hx hy h))
  · exact lv_isub hx9 hb hd (kk _ (f_sub_ok hE hx hy h))
  · exact lv_imul hx9 hb hd (kk _ (f_mul_ok hE hx hy h))
  · exact lv_iand hx9 hb hd (kk _ (f_and_ok hE hx hy h))
  · exact lv_ior hx9 hb hd (kk _ (f_or_ok hE hx hy h))
  · exact lv_ixor hx9 hb hd (kk _ (f_xor_ok hE hx hy h))
  · exact lv_ishl hx9 hb hd (kk _ (f_shl_ok hE hx hy h))
  · exact lv_ishr hx9 hb hd (kk _ (f_shr_ok hE hx hy h))
  · exact lv_iushr hx9 hb hd rfl (kk _ (f_ushr_ok hE hy h))
  · exact lv_irem hx9 hb hd (f_rem_ok hE hx hy h).1 (kk _ (f_rem_ok hE hx hy h).2)
  · exact lv_idiv hx9 hb hd (f_div_ok hE hx hy h).1 (kk _ (f_div_ok hE hx hy h).2)
  · cases h
theorem f_binL_ok {ins : Instr} {x y : BV} {r : RB} {vx vy : Value} {rest : List Value} (hx9 : p.tables.exec = Jvm.exec) (hb : c.code = cc) (hd : decode cc pc = .ok (ins, 1)) (hE : henv I.1 n E) (hx : hv I x vx) (hy : hv I y vy) (h : f_binL ins E x y = some r)
    (kk : ∀ v, hr I r v → W p l e R s m args below meth c H locs cells slots Q (F0 m (pc + 1) ls (v :: rest))) : W p l e R s m args below meth c H locs cells slots Q (F0 m pc ls (vy :: vx :: rest)) := by
  unfold f_binL at h
  split at h
  · rename_i la ha
    obtain ⟨i, rfl, i1, i2⟩ := hx
    split at h
    · rename_i lb hb1
      obtain ⟨j, rfl, j1, j2⟩ := hy
      split at h
      · cases h
        exact lv_ladd hx9 hb hd (kk _ (hr_mkL (z := i.toInt + j.toInt) (fun h1 h2 => fb_addL (by simp only [lMin] at h1; omega) (by simp only [lMax] at h2; omega)) (by omega) (by omega)))
      · refine lv_land hx9 hb hd (kk _ ?_)
        split at h
        · rename_i q
          have q := of_decide_eq_true q
          have w := en_andL (x := i) (y := j) (by omega)
          split at h
          · rename_i q2
            simp only [Bool.and_eq_true, decide_eq_true_eq] at q2
            cases h
            have w2 := en_andL (x := j) (y := i) (by omega)
            rw [en_andcL j i] at w2
            exact ⟨_, rfl, w.1, by omega⟩
          · cases h
            exact ⟨_, rfl, w.1, by omega⟩
        · cases h; exact hr_topL _
      · refine lv_lor hx9 hb hd (kk _ ?_)
        split at h
        · rename_i q
          simp only [Bool.and_eq_true, decide_eq_true_eq] at q
          cases h
          obtain ⟨k1, rfl, g1, g2⟩ := en_nnL (x := i) (by omega)
          obtain ⟨k2, rfl, g3, g4⟩ := en_nnL (x := j) (by omega)
          have hlt : k1 ||| k2 < 9223372036854775808 := Nat.or_lt_two_pow (n := 63) g1 g3
          have e : (lN k1 ||| lN k2).toInt = ((k1 ||| k2 : Nat) : Int) := by rw [fb_orL, en_lN hlt]
          refine hr_mkL (z := ((k1 ||| k2 : Nat) : Int)) (fun _ _ => e) (by omega) ?_
          by_cases h0 : 0 < max ha hb1
          · rw [f_ones_eq h0]
            have w := Nat.or_lt_two_pow (f_ones_lt (m := k1) (h := max ha hb1) (by omega)) (f_ones_lt (m := k2) (h := max ha hb1) (by omega))
            generalize 2 ^ (Nat.log2 (max ha hb1).toNat + 1) = z at w ⊢
            omega
          · rw [f_ones_0 (by omega)]
            have z1 : k1 = 0 := by omega
            have z2 : k2 = 0 := by omega
            rw [z1, z2]
            decide
        · cases h; exact hr_topL _
      · refine W.lcmp hx9 hb hd (kk _ ?_)
        have w := en_cmp i j
        split at h
        · rename_i q
          have q := of_decide_eq_true q
          cases h
          refine ⟨_, rfl, ?_⟩
          unfold lg_cmp
          have h1 : i < j := (fa_lt64 _ _).mpr (by omega)
          have h2 : ¬ j < i := fun h => by have := (fa_lt64 _ _).mp h; omega
          have h3 : i ≠ j := fun h => by rw [h] at h1; have := (fa_lt64 _ _).mp h1; omega
          simp [h2, h3]
        · split at h
          · rename_i q
            have q := of_decide_eq_true q
            cases h
            refine ⟨_, rfl, ?_⟩
            unfold lg_cmp
            have h1 : ¬ i < j := fun h => by have := (fa_lt64 _ _).mp h; omega
            have h2 : j < i := (fa_lt64 _ _).mpr (by omega)
            have h3 : i ≠ j := fun h => by rw [h] at h2; have := (fa_lt64 _ _).mp h2; omega
            simp [h1, h2, h3]
          · split at h
            · rename_i q
              simp only [Bool.and_eq_true, decide_eq_true_eq] at q
              cases h
              have : i = j := (fa_eq64 _ _).mpr (by omega)
              subst this
              refine ⟨_, rfl, ?_⟩
              unfold lg_cmp
              simp
            · cases h
              exact ⟨_, rfl, w.1, w.2⟩
      · cases h
    · split at h
      · rename_i lb hb1 hiv
        obtain ⟨j, rfl, j1, j2⟩ := hv_int hE hy hiv
        split at h
        · refine lv_lshl hx9 hb hd rfl (kk _ ?_)
          split at h
          · rename_i q
            simp only [Bool.and_eq_true, decide_eq_true_eq] at q
            cases h
            obtain ⟨k, rfl, hk, ek⟩ := en_nn (x := j) (by omega)
            obtain ⟨m0, rfl, hm, em⟩ := en_nnL (x := i) (by omega)
            have hk2 : k = lb.toNat := by omega
            have hk3 : k < 64 := by omega
            rw [← hk2]
            refine hr_mkL (z := (m0 : Int) * 2 ^ k) (fun h1 h2 => ?_) ?_ ?_
            · have e5 : ((m0 * 2 ^ k : Nat) : Int) = (m0 : Int) * 2 ^ k := by rw [Int.natCast_mul, Int.natCast_pow]; rfl
              rw [wb_shl m0 hk3, en_lN (by simp only [lMax] at h2; omega), e5]
            · exact Int.mul_le_mul_of_nonneg_right (by omega) (Int.le_of_lt (en_pow_0 _))
            · exact Int.mul_le_mul_of_nonneg_right (by omega) (Int.le_of_lt (en_pow_0 _))
          · cases h; exact hr_topL _
        · refine lv_lshr hx9 hb hd rfl (kk _ ?_)
          split at h
          · rename_i q
            simp only [Bool.and_eq_true, decide_eq_true_eq] at q
            cases h
            obtain ⟨k, rfl, hk, ek⟩ := en_nn (x := j) (by omega)
            have hk2 : k = lb.toNat := by omega
            have hk3 : k < 64 := by omega
            rw [← hk2]
            refine ⟨_, rfl, ?_, ?_⟩
            · rw [en_shrL _ _ hk3]; exact Int.ediv_nonneg (by omega) (Int.le_of_lt (en_pow_0 _))
            · rw [en_shrL _ _ hk3]; exact Int.ediv_le_ediv (en_pow_0 _) (by omega)
          · cases h; exact hr_topL _
        · cases h
          exact lv_lushr hx9 hb hd rfl (kk _ (hr_topL _))
        · cases h
      · cases h
  · cases h
theorem f_two_ok {ins : Instr} {x y : BV} {r : RB} {vx vy : Value} {rest : List Value} (hx9 : p.tables.exec = Jvm.exec) (hb : c.code = cc) (hd : decode cc pc = .ok (ins, 1)) (hE : henv I.1 n E) (hx : hv I x vx) (hy : hv I y vy) (h : f_two ins E x y = some r)
    (kk : ∀ v, hr I r v → W p l e R s m args below meth c H locs cells slots Q (F0 m (pc + 1) ls (v :: rest))) : W p l e R s m args below meth c H locs cells slots Q (F0 m pc ls (vy :: vx :: rest)) := by
  unfold f_two at h
  split at h
  · exact f_binL_ok hx9 hb hd hE hx hy h kk
  · exact f_bin_ok hx9 hb hd hE hx hy h kk
theorem f_un_ok {ins : Instr} {x : BV} {r : RB} {vx : Value} {rest : List Value} (hx9 : p.tables.exec = Jvm.exec) (hb : c.code = cc) (hd : decode cc pc = .ok (ins, 1)) (hE : henv I.1 n E) (hx : hv I x vx) (h : f_un ins E x = some r)
    (kk : ∀ v, hr I r v → W p l e R s m args below meth c H locs cells slots Q (F0 m (pc + 1) ls (v :: rest))) : W p l e R s m args below meth c H locs cells slots Q (F0 m pc ls (vx :: rest)) := by
  unfold f_un at h
  split at h
  · split at h
    · rename_i la ha e1
      obtain ⟨i, rfl, h1, h2⟩ := hv_int hE hx e1
      cases h
      exact lv_ineg hx9 hb hd (kk _ (hr_mkw (z := -i.toInt) (fun h3 h4 => fb_negI (by omega)) (by omega) (by omega)))
    · cases h
  · split at h
    · rename_i la ha e1
      obtain ⟨i, rfl, h1, h2⟩ := hv_int hE hx e1
      split at h
      · rename_i q
        simp only [Bool.and_eq_true, decide_eq_true_eq] at q
        cases h
        exact lv_i2b hx9 hb hd (en_i8 (by omega) (by omega)) (kk _ hx)
      · cases h
        have w := fb_byte_rng i
        exact lv_i2b hx9 hb hd rfl (kk _ ⟨_, rfl, by omega, by omega⟩)
    · cases h
  · split at h
    · rename_i la ha e1
      obtain ⟨i, rfl, h1, h2⟩ := hv_int hE hx e1
      cases h
      exact lv_i2l hx9 hb hd rfl (kk _ ⟨_, rfl, by rw [en_wide]; exact h1, by rw [en_wide]; exact h2⟩)
    · cases h
  · split at h
    · rename_i la ha
      obtain ⟨i, rfl, h1, h2⟩ := hx
      cases h
      refine lv_l2i hx9 hb hd rfl (kk _ (hr_mkw (z := i.toInt) (fun h3 h4 => ?_) h1 h2))
      rw [Int64.toInt_toInt32]
      exact fb_bmod h3 h4
    · cases h
  · cases h
end ARI
