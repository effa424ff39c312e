/-! what fits is not empty, if a thing lies there and fits -/
theorem lyP_bit {f : Nat → Int} {l : Int} {t : Nat} (h1 : f (54 + t) ≤ 0) (h2 : f (46 + t) = l) : ∀ {k : Nat}, t < k → (lyP f l k).testBit t = true := by
  intro k
  induction k with
  | zero => intro h; omega
  | succ k ih =>
    intro h
    simp only [lyP, Nat.testBit_or, Bool.or_eq_true]
    rcases (show t < k ∨ t = k by omega) with h | rfl
    · exact Or.inl (ih h)
    · right
      rw [if_pos (by rw [Bool.and_eq_true, decide_eq_true_eq, decide_eq_true_eq]; exact ⟨h1, h2⟩)]
      exact Nat.testBit_two_pow_self
theorem ftP_bit {f : Nat → Int} {l m : Int} {t : Nat} (ht : t < 8) (h1 : (lyP f l (f 2).toNat).testBit t = true) (h2 : Int32.ofInt (f (16 + t)) &&& Int32.ofInt m = Int32.ofInt m) : ∀ k : Nat, (ftP f l m k).testBit t = true := by
  intro k
  induction k with
  | zero => exact h1
  | succ k ih =>
    simp only [ftP]
    split
    · exact ih
    · rename_i q
      have hk : k ≠ t := by
        intro hk
        subst hk
        exact q h2
      rw [Nat.testBit_and, Nat.testBit_xor, ih, Nat.testBit_two_pow_of_ne hk]
      have h8 : t = 0 ∨ t = 1 ∨ t = 2 ∨ t = 3 ∨ t = 4 ∨ t = 5 ∨ t = 6 ∨ t = 7 := by omega
      rcases h8 with rfl | rfl | rfl | rfl | rfl | rfl | rfl | rfl <;> decide
theorem ftP_pos {f : Nat → Int} {l m : Int} {t : Nat} (ht : t < 8) (ht2 : (t : Int) < f 2) (h1 : f (54 + t) ≤ 0) (h2 : f (46 + t) = l) (h3 : Int32.ofInt (f (16 + t)) &&& Int32.ofInt m = Int32.ofInt m) (k : Nat) : 1 ≤ ftP f l m k := by
  have hb := ftP_bit ht (lyP_bit h1 h2 (show t < (f 2).toNat by omega)) h3 k
  rcases Nat.eq_zero_or_pos (ftP f l m k) with h | h
  · rw [h] at hb
    simp at hb
  · exact h
