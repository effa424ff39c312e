section NUM
variable {ν : Nat → Int} {al : List Nat} {b : Nat} {E : EV}
theorem en_of {x : Int32} {n : Int} (h : x.toInt = n) (h0 : 0 ≤ n) : x = nI n.toNat ∧ n.toNat < 2147483648 := by
  have r := fb_rng x
  have h1 : n.toNat < 2147483648 := by omega
  refine ⟨(fa_eq _ _).mpr ?_, h1⟩
  rw [nI_toInt (by omega)]
  omega
theorem en_nn {x : Int32} (h : 0 ≤ x.toInt) : ∃ n : Nat, x = nI n ∧ n < 2147483648 ∧ x.toInt = (n : Int) := by
  obtain ⟨h1, h2⟩ := en_of rfl h
  exact ⟨x.toInt.toNat, h1, h2, by omega⟩
theorem e_mul_ok {a c r : AV} {x y : Int32} (hE : genv ν E) (ha : gv ν al b a (.int x)) (hc : gv ν al b c (.int y)) (h : e_mul E a c = some r) : gv ν al b r (.int (x * y)) := by
  unfold e_mul at h
  split at h
  · rename_i la ha1 lb hb1 e1 e2
    have p1 := gv_int2 hE ha e1
    have p2 := gv_int2 hE hc e2
    split at h
    · rename_i hc0
      simp only [Bool.and_eq_true, decide_eq_true_eq] at hc0
      cases h
      refine gv_mkw (z := x.toInt * y.toInt) (fun h1 h2 => fb_mulI h1 h2) ?_ ?_
      · exact Int.mul_le_mul p1.1 p2.1 hc0.2 (by omega)
      · exact Int.mul_le_mul p1.2 p2.2 (by omega) (by omega)
    · cases h; exact gv_top _
  · cases h
theorem e_bit_ok {f : Nat → Nat → Nat} {op : Int32 → Int32 → Int32} (hop : ∀ m n : Nat, op (nI m) (nI n) = nI (f m n)) (hlt : ∀ m n : Nat, m < 2147483648 → n < 2147483648 → f m n < 2147483648) {a c o : AV} {x y : Int32} (hE : genv ν E) (ha : gv ν al b a (.int x)) (hc : gv ν al b c (.int y)) (ho : gv ν al b o (.int (op x y))) : gv ν al b (e_bit f E a c o) (.int (op x y)) := by
  unfold e_bit
  split
  · rename_i la ha1 lb hb1 e1 e2
    have p1 := gv_int2 hE ha e1
    have p2 := gv_int2 hE hc e2
    split
    · rename_i hc0
      simp only [Bool.and_eq_true, decide_eq_true_eq] at hc0
      obtain ⟨c1, c2, c3, c4⟩ := hc0
      obtain ⟨q1, q2⟩ := en_of (x := x) (n := la) (by omega) c3
      obtain ⟨q3, q4⟩ := en_of (x := y) (n := lb) (by omega) c4
      have e : (op x y).toInt = ((f la.toNat lb.toNat : Nat) : Int) := by
        rw [q1, q3, hop, nI_toInt (hlt _ _ q2 q4)]
      exact ⟨op x y, rfl, by omega, by omega⟩
    · exact ho
  · exact ho
theorem en_and_lt {m n : Nat} (h : n < 2147483648) : m &&& n < 2147483648 := Nat.lt_of_le_of_lt Nat.and_le_right h
theorem en_andr {x y : Int32} (h : 0 ≤ y.toInt) : 0 ≤ (x &&& y).toInt ∧ (x &&& y).toInt ≤ y.toInt := by
  obtain ⟨n, rfl, hn, e⟩ := en_nn h
  have hx : x = nI x.toBitVec.toNat := by
    apply Int32.toBitVec_inj.mp
    show x.toBitVec = (Int32.ofNat x.toBitVec.toNat).toBitVec
    simp
  rw [hx, fa_and, nI_toInt (en_and_lt hn), e]
  have : x.toBitVec.toNat &&& n ≤ n := Nat.and_le_right
  omega
theorem en_andc (x y : Int32) : x &&& y = y &&& x := by
  apply Int32.toBitVec_inj.mp
  simp only [Int32.toBitVec_and]
  exact BitVec.and_comm _ _
theorem e_and_ok {a c r : AV} {x y : Int32} (hE : genv ν E) (ha : gv ν al b a (.int x)) (hc : gv ν al b c (.int y)) (h : e_and E a c = some r) : gv ν al b r (.int (x &&& y)) := by
  unfold e_and at h
  split at h
  · rename_i la ha1 lb hb1 e1 e2
    have p1 := gv_int2 hE ha e1
    have p2 := gv_int2 hE hc e2
    cases h
    refine e_bit_ok (op := fun x y => x &&& y) (fun m n => fa_and m n) (fun m n _ hn => en_and_lt hn) hE ha hc ?_
    split
    · rename_i q
      have q := of_decide_eq_true q
      have w := en_andr (x := x) (y := y) (by omega)
      exact ⟨x &&& y, rfl, w.1, by omega⟩
    · split
      · rename_i q
        have q := of_decide_eq_true q
        have w := en_andr (x := y) (y := x) (by omega)
        rw [en_andc y x] at w
        exact ⟨x &&& y, rfl, w.1, by omega⟩
      · exact gv_top _
  · cases h
theorem en_or_lt {m n : Nat} (h1 : m < 2147483648) (h : n < 2147483648) : m ||| n < 2147483648 := Nat.or_lt_two_pow (n := 31) h1 h
theorem en_xor_lt {m n : Nat} (h1 : m < 2147483648) (h : n < 2147483648) : m ^^^ n < 2147483648 := Nat.xor_lt_two_pow (n := 31) h1 h
theorem e_or_ok {a c r : AV} {x y : Int32} (hE : genv ν E) (ha : gv ν al b a (.int x)) (hc : gv ν al b c (.int y)) (h : e_or E a c = some r) : gv ν al b r (.int (x ||| y)) := by
  unfold e_or at h
  split at h
  · cases h
    exact e_bit_ok (op := fun x y => x ||| y) (fun m n => fa_or m n) (fun m n hm hn => en_or_lt hm hn) hE ha hc (gv_top _)
  · cases h
theorem e_xor_ok {a c r : AV} {x y : Int32} (hE : genv ν E) (ha : gv ν al b a (.int x)) (hc : gv ν al b c (.int y)) (h : e_xor E a c = some r) : gv ν al b r (.int (x ^^^ y)) := by
  unfold e_xor at h
  split at h
  · cases h
    exact e_bit_ok (op := fun x y => x ^^^ y) (fun m n => fb_xorI m n) (fun m n hm hn => en_xor_lt hm hn) hE ha hc (gv_top _)
  · cases h
theorem en_cnt : ∀ k : Nat, k < 32 → ((nI k &&& 31).toBitVec.smod 32).toNat = k := by decide +kernel
theorem e_shl_ok {a c r : AV} {x y : Int32} (hE : genv ν E) (ha : gv ν al b a (.int x)) (hc : gv ν al b c (.int y)) (h : e_shl E a c = some r) : gv ν al b r (.int (x <<< (y &&& 31))) := by
  unfold e_shl at h
  split at h
  · rename_i la ha1 lb hb1 e1 e2
    have p1 := gv_int2 hE ha e1
    have p2 := gv_int2 hE hc e2
    split at h
    · rename_i hc0
      simp only [Bool.and_eq_true, decide_eq_true_eq] at hc0
      obtain ⟨c1, c2, c3, c4⟩ := hc0
      cases h
      obtain ⟨q3, q4⟩ := en_of (x := y) (n := lb) (by omega) c2
      obtain ⟨m, rfl, hm, em⟩ := en_nn (x := x) (by omega)
      have hk : lb.toNat < 32 := by omega
      refine gv_mkw (z := (m : Int) * 2 ^ lb.toNat) (fun h1 h2 => ?_) ?_ ?_
      · have h3 : m * 2 ^ lb.toNat < 2147483648 := by
          have : ((m * 2 ^ lb.toNat : Nat) : Int) < 2147483648 := by rw [Int.natCast_mul, Int.natCast_pow]; exact h2
          omega
        rw [q3, pk_shlN (nI lb.toNat &&& 31) lb.toNat (en_cnt _ hk) (by omega), nI_toInt (by omega), Int.natCast_mul, Int.natCast_pow]
        rfl
      · exact Int.mul_le_mul_of_nonneg_right (by omega) (Int.le_of_lt (Int.pow_pos (by omega)))
      · exact Int.mul_le_mul_of_nonneg_right (by omega) (Int.le_of_lt (Int.pow_pos (by omega)))
    · cases h; exact gv_top _
  · cases h
theorem e_shr_ok {a c r : AV} {x y : Int32} (hE : genv ν E) (ha : gv ν al b a (.int x)) (hc : gv ν al b c (.int y)) (h : e_shr E a c = some r) : gv ν al b r (.int (x >>> (y &&& 31))) := by
  unfold e_shr at h
  split at h
  · rename_i la ha1 lb hb1 e1 e2
    have p1 := gv_int2 hE ha e1
    have p2 := gv_int2 hE hc e2
    split at h
    · rename_i hc0
      simp only [Bool.and_eq_true, decide_eq_true_eq] at hc0
      obtain ⟨c1, c2, c3, c4⟩ := hc0
      cases h
      obtain ⟨q3, q4⟩ := en_of (x := y) (n := lb) (by omega) c2
      obtain ⟨m, rfl, hm, em⟩ := en_nn (x := x) (by omega)
      have hk : lb.toNat < 32 := by omega
      have e : (nI m >>> (y &&& 31)).toInt = ((m / 2 ^ lb.toNat : Nat) : Int) := by
        rw [q3, pk_shrN (by omega) (nI lb.toNat &&& 31) lb.toNat (en_cnt _ hk)]
        have := Nat.div_le_self m (2 ^ lb.toNat)
        rw [nI_toInt (by omega)]
      have h9 := Nat.div_le_self m (2 ^ lb.toNat)
      generalize m / 2 ^ lb.toNat = d at e h9
      exact ⟨_, rfl, by rw [e]; omega, by rw [e]; omega⟩
    · cases h; exact gv_top _
  · cases h
theorem e_top2_ok {a c r : AV} {z : Int32} (h : e_top2 E a c = some r) : gv ν al b r (.int z) := by
  unfold e_top2 at h
  split at h
  · cases h; exact gv_top _
  · cases h
theorem e_rem_ok {a c r : AV} {x y : Int32} (hE : genv ν E) (ha : gv ν al b a (.int x)) (hc : gv ν al b c (.int y)) (h : e_rem E a c = some r) : ¬ y = 0 ∧ gv ν al b r (.int (x - x / y * y)) := by
  unfold e_rem at h
  split at h
  · rename_i la ha1 lb hb1 e1 e2
    have p1 := gv_int2 hE ha e1
    have p2 := gv_int2 hE hc e2
    split at h
    · rename_i hc0
      simp only [Bool.and_eq_true, decide_eq_true_eq] at hc0
      obtain ⟨c1, c2, c3⟩ := hc0
      obtain ⟨n, hy, hn, en⟩ := en_nn (x := y) (by omega)
      obtain ⟨m, hx, hm, em⟩ := en_nn (x := x) (by omega)
      have hn0 : 0 < n := by omega
      have hlb : lb = (n : Int) := by omega
      have hmod : (x - x / y * y).toInt = ((m % n : Nat) : Int) := by
        have := Nat.mod_lt m hn0
        rw [hx, hy, pk_rem hm hn0 hn, nI_toInt (by omega)]
      have hlt := Nat.mod_lt m hn0
      refine ⟨fun h0 => ?_, ?_⟩
      · rw [h0] at en
        have : (0 : Int32).toInt = 0 := rfl
        omega
      · split at h
        · rename_i q
          have q := of_decide_eq_true q
          cases h
          have : m % n = m := Nat.mod_eq_of_lt (by omega)
          exact ⟨_, rfl, by rw [hmod, this]; omega, by rw [hmod, this]; omega⟩
        · split at h
          · rename_i q
            have q := of_decide_eq_true q
            cases h
            have : la % lb = ((m % n : Nat) : Int) := by rw [hlb, show la = (m : Int) by omega]; rfl
            exact ⟨_, rfl, by rw [hmod, this]; omega, by rw [hmod, this]; omega⟩
          · cases h
            exact ⟨_, rfl, by rw [hmod]; omega, by rw [hmod]; omega⟩
    · cases h
  · cases h
theorem e_div_ok {a c r : AV} {x y : Int32} (hE : genv ν E) (ha : gv ν al b a (.int x)) (hc : gv ν al b c (.int y)) (h : e_div E a c = some r) : ¬ y = 0 ∧ gv ν al b r (.int (x / y)) := by
  unfold e_div at h
  split at h
  · rename_i la ha1 lb hb1 e1 e2
    have p1 := gv_int2 hE ha e1
    have p2 := gv_int2 hE hc e2
    split at h
    · rename_i hc0
      simp only [Bool.and_eq_true, decide_eq_true_eq] at hc0
      obtain ⟨c1, c2⟩ := hc0
      obtain ⟨n, hy, hn, en⟩ := en_nn (x := y) (by omega)
      have hn0 : 0 < n := by omega
      have hlb : lb = (n : Int) := by omega
      refine ⟨fun h0 => ?_, ?_⟩
      · rw [h0] at en
        have : (0 : Int32).toInt = 0 := rfl
        omega
      · split at h
        · rename_i c3
          have c3 := of_decide_eq_true c3
          obtain ⟨m, hx, hm, em⟩ := en_nn (x := x) (by omega)
          have hdiv : (x / y).toInt = ((m / n : Nat) : Int) := by
            have := Nat.div_le_self m n
            rw [hx, hy, pk_div hm hn0 hn, nI_toInt (by omega)]
          cases h
          refine ⟨_, rfl, ?_, ?_⟩
          · rw [hdiv, hlb, Int.natCast_ediv]; exact Int.ediv_le_ediv (by omega) (by omega)
          · rw [hdiv, hlb, Int.natCast_ediv]; exact Int.ediv_le_ediv (by omega) (by omega)
        · cases h; exact gv_top _
    · cases h
  · cases h
end NUM
