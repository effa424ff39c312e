/-! what a book's text says, line by line (plain numbers) -/
/-- how many of ten bits -/
def cntN (n : Nat) : Nat := ((List.range 10).filter (fun k => n.testBit k)).length
theorem cntN_le (n : Nat) : cntN n ≤ 10 := by
  have h := List.length_filter_le (fun k => n.testBit k) (List.range 10)
  rw [List.length_range] at h
  exact h
theorem cntN_0 : cntN 0 = 0 := by decide
theorem cntN_up : ∀ s : Nat, s < 1024 → ∀ k : Nat, k < 10 → s.testBit k = false → cntN (s ||| 2 ^ k) = cntN s + 1 ∧ s ||| 2 ^ k < 1024 := by decide +kernel
theorem bitN : ∀ s : Nat, s < 1024 → ∀ k : Nat, k < 10 → zand (zshr (s : Int) (k : Int)) 1 = (if s.testBit k then 1 else 0) ∧ zor (s : Int) (zshl 1 (k : Int)) = ((s ||| 2 ^ k : Nat) : Int) := by decide +kernel
/-- how a reading ends, for the class -/
def kM (K S V F : Nat → Int) (R : Int × Nat) (F9 : Nat → Int) : Prop := (R.1 = 0 ∧ F9 = FA K S V F R.2 ∧ (R.2 : Int) < F 1) ∨ (¬ R.1 = 0 ∧ fd F9 R.1 (S R.2))
