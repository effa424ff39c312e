section BNUM
variable {I : IN} {E : EB} {n : Nat}
theorem hr_top (x : Int32) : hr I f_top (.int x) := ⟨x, rfl, (fb_rng x).1, by have := (fb_rng x).2; simp only [iMax]; omega⟩
theorem hr_mkw {x : Int32} {z lo hi : Int} (hx : -2147483648 ≤ z → z < 2147483648 → x.toInt = z) (h1 : lo ≤ z) (h2 : z ≤ hi) : hr I (f_mk lo hi) (.int x) := by
  unfold f_mk
  split
  · rename_i h
    simp only [Bool.and_eq_true, decide_eq_true_eq, iMin, iMax] at h
    have e := hx (by omega) (by omega)
    split
    · rename_i h3
      have h3 := of_decide_eq_true h3
      exact ⟨x, rfl, by omega⟩
    · exact ⟨x, rfl, by omega, by omega⟩
  · exact hr_top x
theorem f_add_ok {a c : BV} {r : RB} {x y : Int32} (hE : henv I.1 n E) (ha : hv I a (.int x)) (hc : hv I c (.int y)) (h : f_add E a c = some r) : hr I r (.int (x + y)) := by
  unfold f_add at h
  split at h
  · rename_i la ha1 lb hb1 e1 e2
    have p1 := hv_int2 hE ha e1
    have p2 := hv_int2 hE hc e2
    split at h
    · rename_i q
      simp only [Bool.and_eq_true, decide_eq_true_eq, iMin, iMax] at q
      have e := fb_addI (x := x) (y := y) (by omega) (by omega)
      split at h
      · rename_i q1
        have q1 := of_decide_eq_true q1
        cases h
        exact hv_off ha (by omega)
      · split at h
        · rename_i q1
          have q1 := of_decide_eq_true q1
          cases h
          exact hv_off hc (by omega)
        · cases h
          exact ⟨_, rfl, by omega, by omega⟩
    · cases h; exact hr_top _
  · cases h
theorem f_sub_ok {a c : BV} {r : RB} {x y : Int32} (hE : henv I.1 n E) (ha : hv I a (.int x)) (hc : hv I c (.int y)) (h : f_sub E a c = some r) : hr I r (.int (x - y)) := by
  unfold f_sub at h
  split at h
  · rename_i la ha1 lb hb1 e1 e2
    have p1 := hv_int2 hE ha e1
    have p2 := hv_int2 hE hc e2
    split at h
    · rename_i q
      simp only [Bool.and_eq_true, decide_eq_true_eq, iMin, iMax] at q
      have e := fb_subI (x := x) (y := y) (by omega) (by omega)
      split at h
      · rename_i q1
        have q1 := of_decide_eq_true q1
        cases h
        exact hv_off ha (by omega)
      · cases h
        exact ⟨_, rfl, by omega, by omega⟩
    · cases h; exact hr_top _
  · cases h
theorem f_mul_ok {a c : BV} {r : RB} {x y : Int32} (hE : henv I.1 n E) (ha : hv I a (.int x)) (hc : hv I c (.int y)) (h : f_mul E a c = some r) : hr I r (.int (x * y)) := by
  unfold f_mul at h
  split at h
  · rename_i la ha1 lb hb1 e1 e2
    have p1 := hv_int2 hE ha e1
    have p2 := hv_int2 hE hc e2
    split at h
    · rename_i hc0
      simp only [Bool.and_eq_true, decide_eq_true_eq] at hc0
      cases h
      refine hr_mkw (z := x.toInt * y.toInt) (fun h1 h2 => fb_mulI h1 h2) ?_ ?_
      · exact Int.mul_le_mul p1.1 p2.1 hc0.2 (by omega)
      · exact Int.mul_le_mul p1.2 p2.2 (by omega) (by omega)
    · cases h; exact hr_top _
  · cases h
theorem f_bit_ok {f : Nat → Nat → Nat} {op : Int32 → Int32 → Int32} (hop : ∀ m n : Nat, op (nI m) (nI n) = nI (f m n)) (hlt : ∀ m n : Nat, m < 2147483648 → n < 2147483648 → f m n < 2147483648) {x y : Int32} {la ha lb hb : Int} {o : RB} (p1 : la ≤ x.toInt ∧ x.toInt ≤ ha) (p2 : lb ≤ y.toInt ∧ y.toInt ≤ hb) (ho : hr I o (.int (op x y))) : hr I (f_bit f la ha lb hb o) (.int (op x y)) := by
  unfold f_bit
  split
  · rename_i hc0
    simp only [Bool.and_eq_true, decide_eq_true_eq] at hc0
    obtain ⟨c1, c2, c3, c4⟩ := hc0
    obtain ⟨q1, q2⟩ := en_of (x := x) (n := la) (by omega) c3
    obtain ⟨q3, q4⟩ := en_of (x := y) (n := lb) (by omega) c4
    have e : (op x y).toInt = ((f la.toNat lb.toNat : Nat) : Int) := by
      rw [q1, q3, hop, nI_toInt (hlt _ _ q2 q4)]
    exact ⟨op x y, rfl, by omega⟩
  · exact ho
theorem f_and_ok {a c : BV} {r : RB} {x y : Int32} (hE : henv I.1 n E) (ha : hv I a (.int x)) (hc : hv I c (.int y)) (h : f_and E a c = some r) : hr I r (.int (x &&& y)) := by
  unfold f_and at h
  split at h
  · rename_i la ha1 lb hb1 e1 e2
    have p1 := hv_int2 hE ha e1
    have p2 := hv_int2 hE hc e2
    cases h
    refine f_bit_ok (op := fun x y => x &&& y) (fun m n => fa_and m n) (fun m n _ hn => en_and_lt hn) p1 p2 ?_
    split
    · rename_i q
      have q := of_decide_eq_true q
      have w := en_andr (x := x) (y := y) (by omega)
      split
      · rename_i q2
        simp only [Bool.and_eq_true, decide_eq_true_eq] at q2
        have w2 := en_andr (x := y) (y := x) (by omega)
        rw [en_andc y x] at w2
        exact ⟨x &&& y, rfl, w.1, by omega⟩
      · exact ⟨x &&& y, rfl, w.1, by omega⟩
    · split
      · rename_i q
        have q := of_decide_eq_true q
        have w := en_andr (x := y) (y := x) (by omega)
        rw [en_andc y x] at w
        exact ⟨x &&& y, rfl, w.1, by omega⟩
      · exact hr_top _
  · cases h
theorem f_ones_lt {m : Nat} {h : Int} (hm : (m : Int) ≤ h) : m < 2 ^ (Nat.log2 h.toNat + 1) := by
  have := Nat.lt_log2_self (n := h.toNat)
  omega
theorem f_ones_eq {h : Int} (h0 : 0 < h) : f_ones h = ((2 ^ (Nat.log2 h.toNat + 1) : Nat) : Int) - 1 := by
  unfold f_ones
  rw [if_neg]
  intro q
  have := of_decide_eq_true q
  omega
theorem f_ones_0 {h : Int} (h0 : h ≤ 0) : f_ones h = 0 := by
  unfold f_ones
  rw [if_pos (decide_eq_true h0)]
theorem f_or_ok {a c : BV} {r : RB} {x y : Int32} (hE : henv I.1 n E) (ha : hv I a (.int x)) (hc : hv I c (.int y)) (h : f_or E a c = some r) : hr I r (.int (x ||| y)) := by
  unfold f_or at h
  split at h
  · rename_i la ha1 lb hb1 e1 e2
    have p1 := hv_int2 hE ha e1
    have p2 := hv_int2 hE hc e2
    cases h
    refine f_bit_ok (op := fun x y => x ||| y) (fun m n => fa_or m n) (fun m n hm hn => en_or_lt hm hn) p1 p2 ?_
    split
    · rename_i q
      simp only [Bool.and_eq_true, decide_eq_true_eq] at q
      obtain ⟨k1, rfl, g1, g2⟩ := en_nn (x := x) (by omega)
      obtain ⟨k2, rfl, g3, g4⟩ := en_nn (x := y) (by omega)
      have e : (nI k1 ||| nI k2).toInt = ((k1 ||| k2 : Nat) : Int) := by rw [fa_or, nI_toInt (en_or_lt g1 g3)]
      refine ⟨_, rfl, ?_, ?_⟩
      · rw [e]
        have w1 : k1 ≤ k1 ||| k2 := Nat.left_le_or
        have w2 : k2 ≤ k1 ||| k2 := Nat.right_le_or
        omega
      · rw [e]
        by_cases h0 : 0 < max ha1 hb1
        · rw [f_ones_eq h0]
          have w := Nat.or_lt_two_pow (f_ones_lt (m := k1) (h := max ha1 hb1) (by omega)) (f_ones_lt (m := k2) (h := max ha1 hb1) (by omega))
          generalize 2 ^ (Nat.log2 (max ha1 hb1).toNat + 1) = z at w ⊢
          omega
        · rw [f_ones_0 (by omega)]
          have z1 : k1 = 0 := by omega
          have z2 : k2 = 0 := by omega
          rw [z1, z2]
          decide
    · exact hr_top _
  · cases h
theorem f_xor_ok {a c : BV} {r : RB} {x y : Int32} (hE : henv I.1 n E) (ha : hv I a (.int x)) (hc : hv I c (.int y)) (h : f_xor E a c = some r) : hr I r (.int (x ^^^ y)) := by
  unfold f_xor at h
  split at h
  · rename_i la ha1 lb hb1 e1 e2
    have p1 := hv_int2 hE ha e1
    have p2 := hv_int2 hE hc e2
    cases h
    refine f_bit_ok (op := fun x y => x ^^^ y) (fun m n => fb_xorI m n) (fun m n hm hn => en_xor_lt hm hn) p1 p2 ?_
    split
    · rename_i q
      simp only [Bool.and_eq_true, decide_eq_true_eq] at q
      obtain ⟨k1, rfl, g1, g2⟩ := en_nn (x := x) (by omega)
      obtain ⟨k2, rfl, g3, g4⟩ := en_nn (x := y) (by omega)
      have e : (nI k1 ^^^ nI k2).toInt = ((k1 ^^^ k2 : Nat) : Int) := by rw [fb_xorI, nI_toInt (en_xor_lt g1 g3)]
      refine ⟨_, rfl, by rw [e]; omega, ?_⟩
      rw [e]
      by_cases h0 : 0 < max ha1 hb1
      · rw [f_ones_eq h0]
        have w := Nat.xor_lt_two_pow (f_ones_lt (m := k1) (h := max ha1 hb1) (by omega)) (f_ones_lt (m := k2) (h := max ha1 hb1) (by omega))
        generalize 2 ^ (Nat.log2 (max ha1 hb1).toNat + 1) = z at w ⊢
        omega
      · rw [f_ones_0 (by omega)]
        have z1 : k1 = 0 := by omega
        have z2 : k2 = 0 := by omega
        rw [z1, z2]
        decide
    · exact hr_top _
  · cases h
theorem en_pow_le {i j : Nat} (h : i ≤ j) : (2 : Int) ^ i ≤ 2 ^ j := by
  have := Nat.pow_le_pow_right (n := 2) (by omega) h
  have e1 : ((2 ^ i : Nat) : Int) = 2 ^ i := by rw [Int.natCast_pow]; rfl
  have e2 : ((2 ^ j : Nat) : Int) = 2 ^ j := by rw [Int.natCast_pow]; rfl
  rw [← e1, ← e2]
  omega
theorem en_pow_0 (i : Nat) : (0 : Int) < 2 ^ i := Int.pow_pos (by omega)
theorem f_shl_ok {a c : BV} {r : RB} {x y : Int32} (hE : henv I.1 n E) (ha : hv I a (.int x)) (hc : hv I c (.int y)) (h : f_shl E a c = some r) : hr I r (.int (x <<< (y &&& 31))) := by
  unfold f_shl at h
  split at h
  · rename_i la ha1 lb hb1 e1 e2
    have p1 := hv_int2 hE ha e1
    have p2 := hv_int2 hE hc e2
    split at h
    · rename_i hc0
      simp only [Bool.and_eq_true, decide_eq_true_eq] at hc0
      obtain ⟨c1, c2, c3⟩ := hc0
      cases h
      obtain ⟨k, rfl, hk, ek⟩ := en_nn (x := y) (by omega)
      obtain ⟨m, rfl, hm, em⟩ := en_nn (x := x) (by omega)
      have hk2 : k < 32 := by omega
      refine hr_mkw (z := (m : Int) * 2 ^ k) (fun h1 h2 => ?_) ?_ ?_
      · have h3 : m * 2 ^ k < 2147483648 := by
          have : ((m * 2 ^ k : Nat) : Int) < 2147483648 := by rw [Int.natCast_mul, Int.natCast_pow]; exact h2
          omega
        rw [pk_shlN (nI k &&& 31) k (en_cnt _ hk2) (by omega), nI_toInt (by omega), Int.natCast_mul, Int.natCast_pow]
        rfl
      · exact Int.mul_le_mul (by omega) (en_pow_le (by omega)) (Int.le_of_lt (en_pow_0 _)) (by omega)
      · exact Int.mul_le_mul (by omega) (en_pow_le (by omega)) (Int.le_of_lt (en_pow_0 _)) (by omega)
    · cases h; exact hr_top _
  · cases h
theorem f_shr_ok {a c : BV} {r : RB} {x y : Int32} (hE : henv I.1 n E) (ha : hv I a (.int x)) (hc : hv I c (.int y)) (h : f_shr E a c = some r) : hr I r (.int (x >>> (y &&& 31))) := by
  unfold f_shr at h
  split at h
  · rename_i la ha1 lb hb1 e1 e2
    have p1 := hv_int2 hE ha e1
    have p2 := hv_int2 hE hc e2
    split at h
    · rename_i hc0
      simp only [Bool.and_eq_true, decide_eq_true_eq] at hc0
      obtain ⟨c1, c2, c3⟩ := hc0
      cases h
      obtain ⟨k, rfl, hk, ek⟩ := en_nn (x := y) (by omega)
      obtain ⟨m, rfl, hm, em⟩ := en_nn (x := x) (by omega)
      have hk2 : k < 32 := by omega
      have e : (nI m >>> (nI k &&& 31)).toInt = ((m / 2 ^ k : Nat) : Int) := by
        rw [pk_shrN (by omega) (nI k &&& 31) k (en_cnt _ hk2)]
        have := Nat.div_le_self m (2 ^ k)
        rw [nI_toInt (by omega)]
      refine ⟨_, rfl, by rw [e]; exact Int.natCast_nonneg _, ?_⟩
      rw [e]
      have w : m / 2 ^ k ≤ ha1.toNat / 2 ^ lb.toNat := Nat.div_le_div (by omega) (Nat.pow_le_pow_right (by omega) (by omega)) (Nat.ne_of_gt (Nat.two_pow_pos _))
      have e5 : ha1 / 2 ^ lb.toNat = ((ha1.toNat / 2 ^ lb.toNat : Nat) : Int) := by
        rw [Int.natCast_ediv, Int.natCast_pow, show ((ha1.toNat : Nat) : Int) = ha1 by omega]
        rfl
      rw [e5]
      omega
    · cases h; exact hr_top _
  · cases h
theorem f_ushr_ok {a c : BV} {r : RB} {x y : Int32} (hE : henv I.1 n E) (hc : hv I c (.int y)) (h : f_ushr E a c = some r) : hr I r (.int (x.toUInt32 >>> (y.toUInt32 &&& Int32.toUInt32 31)).toInt32) := by
  unfold f_ushr at h
  split at h
  · rename_i q0 lb hb1 e1 e2
    have p2 := hv_int2 hE hc e2
    split at h
    · rename_i hc0
      simp only [Bool.and_eq_true, decide_eq_true_eq] at hc0
      obtain ⟨c1, c2, c3⟩ := hc0
      cases h
      obtain ⟨k, rfl, hk, ek⟩ := en_nn (x := y) (by omega)
      have hk2 : k = lb.toNat := by omega
      have hk3 : 0 < k ∧ k < 32 := by omega
      have hcnt : ∀ k : Nat, k < 32 → ((nI k).toUInt32 &&& Int32.toUInt32 31).toNat = k := by decide +kernel
      have e : (x.toUInt32 >>> ((nI k).toUInt32 &&& Int32.toUInt32 31)).toNat = x.toUInt32.toNat / 2 ^ k := by
        rw [UInt32.toNat_shiftRight, hcnt k hk3.2, Nat.mod_eq_of_lt hk3.2, Nat.shiftRight_eq_div_pow]
      have hx : x.toUInt32.toNat < 4294967296 := UInt32.toNat_lt _
      have w : x.toUInt32.toNat / 2 ^ k ≤ 4294967295 / 2 ^ k := Nat.div_le_div_right (by omega)
      have w2 : 4294967295 / 2 ^ k ≤ 4294967295 / 2 ^ 1 := Nat.div_le_div_left (Nat.pow_le_pow_right (by omega) hk3.1) (by omega)
      have w3 : x.toUInt32.toNat / 2 ^ k < 2147483648 := by omega
      generalize hz : (x.toUInt32 >>> ((nI k).toUInt32 &&& Int32.toUInt32 31)) = z at e ⊢
      have e2 : z.toInt32.toInt = (z.toNat : Int) := by
        have : z.toInt32 = nI z.toNat := by
          apply Int32.toBitVec_inj.mp
          show z.toBitVec = (Int32.ofNat z.toNat).toBitVec
          rw [Int32.toBitVec_ofNat']
          simp
        rw [this, nI_toInt (by omega)]
      refine ⟨_, rfl, by rw [e2]; omega, ?_⟩
      rw [e2, e]
      have e5 : (4294967295 : Int) / 2 ^ lb.toNat = ((4294967295 / 2 ^ lb.toNat : Nat) : Int) := by
        rw [Int.natCast_ediv, Int.natCast_pow]
        rfl
      rw [e5, ← hk2]
      omega
    · cases h; exact hr_top _
  · cases h
theorem f_rem_ok {a c : BV} {r : RB} {x y : Int32} (hE : henv I.1 n E) (ha : hv I a (.int x)) (hc : hv I c (.int y)) (h : f_rem E a c = some r) : ¬ y = 0 ∧ hr I r (.int (x - x / y * y)) := by
  unfold f_rem at h
  split at h
  · rename_i la ha1 lb hb1 e1 e2
    have p1 := hv_int2 hE ha e1
    have p2 := hv_int2 hE hc e2
    split at h
    · rename_i hc0
      have hc0 := of_decide_eq_true hc0
      obtain ⟨k, hy, hn, en⟩ := en_nn (x := y) (by omega)
      have hn0 : 0 < k := by omega
      refine ⟨fun h0 => ?_, ?_⟩
      · rw [h0] at en
        have : (0 : Int32).toInt = 0 := rfl
        omega
      · split at h
        · rename_i c3
          have c3 := of_decide_eq_true c3
          obtain ⟨m, hx, hm, em⟩ := en_nn (x := x) (by omega)
          have hlt := Nat.mod_lt m hn0
          have hmod : (x - x / y * y) = nI (m % k) := by rw [hx, hy, pk_rem hm hn0 hn]
          split at h
          · rename_i q
            have q := of_decide_eq_true q
            cases h
            have e5 : m % k = m := Nat.mod_eq_of_lt (by omega)
            rw [hmod, e5, ← hx]
            exact ha
          · split at h
            · rename_i q2
              simp only [Bool.and_eq_true, decide_eq_true_eq] at q2
              obtain ⟨q3, q4⟩ := q2
              cases h
              have ek : (k : Int) = lb := by omega
              have d1 : la / lb ≤ (m : Int) / lb := Int.ediv_le_ediv hc0 (by omega)
              have d2 : (m : Int) / lb ≤ ha1 / lb := Int.ediv_le_ediv hc0 (by omega)
              have d3 : (m : Int) / lb = la / lb := by omega
              have e5 : (nI (m % k)).toInt = ((m % k : Nat) : Int) := nI_toInt (by omega)
              have e6 : ((m % k : Nat) : Int) = (m : Int) - lb * (la / lb) := by rw [Int.natCast_emod, ek, Int.emod_def, d3]
              have e7 : la % lb = la - lb * (la / lb) := Int.emod_def _ _
              have e8 : ha1 % lb = ha1 - lb * (la / lb) := by rw [Int.emod_def, ← q4]
              rw [hmod]
              exact ⟨_, rfl, by rw [e5, e6, e7]; omega, by rw [e5, e6, e8]; omega⟩
            cases h
            have e5 : (nI (m % k)).toInt = ((m % k : Nat) : Int) := nI_toInt (by omega)
            rw [hmod]
            exact ⟨_, rfl, by rw [e5]; omega, by rw [e5]; omega⟩
        · cases h; exact hr_top _
    · cases h
  · cases h
theorem f_div_ok {a c : BV} {r : RB} {x y : Int32} (hE : henv I.1 n E) (ha : hv I a (.int x)) (hc : hv I c (.int y)) (h : f_div E a c = some r) : ¬ y = 0 ∧ hr I r (.int (x / y)) := by
  unfold f_div at h
  split at h
  · rename_i la ha1 lb hb1 e1 e2
    have p1 := hv_int2 hE ha e1
    have p2 := hv_int2 hE hc e2
    split at h
    · rename_i hc0
      have hc0 := of_decide_eq_true hc0
      obtain ⟨k, hy, hn, en⟩ := en_nn (x := y) (by omega)
      have hn0 : 0 < k := by omega
      refine ⟨fun h0 => ?_, ?_⟩
      · rw [h0] at en
        have : (0 : Int32).toInt = 0 := rfl
        omega
      · split at h
        · rename_i c3
          have c3 := of_decide_eq_true c3
          obtain ⟨m, hx, hm, em⟩ := en_nn (x := x) (by omega)
          have hdiv : (x / y).toInt = ((m / k : Nat) : Int) := by
            have := Nat.div_le_self m k
            rw [hx, hy, pk_div hm hn0 hn, nI_toInt (by omega)]
          cases h
          have w1 : la.toNat / hb1.toNat ≤ m / k := Nat.div_le_div (by omega) (by omega) (by omega)
          have w2 : m / k ≤ ha1.toNat / lb.toNat := Nat.div_le_div (by omega) (by omega) (by omega)
          have q1 : la / hb1 = ((la.toNat / hb1.toNat : Nat) : Int) := by rw [Int.natCast_ediv]; congr 1 <;> omega
          have q2 : ha1 / lb = ((ha1.toNat / lb.toNat : Nat) : Int) := by rw [Int.natCast_ediv]; congr 1 <;> omega
          refine ⟨_, rfl, ?_, ?_⟩
          · rw [hdiv, q1]; omega
          · rw [hdiv, q2]; omega
        · cases h; exact hr_top _
    · cases h
  · cases h
end BNUM
