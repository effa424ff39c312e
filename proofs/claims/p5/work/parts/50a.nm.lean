/-! names: numbers for them, how they are found, what holds of a city (before the facts) -/
def zin64 (a : Int) : Prop := -9223372036854775808 ≤ a ∧ a < 9223372036854775808
/-- the first place of a row with that number, below so many; below 0 if none -/
def lk (f : Nat → Int) (key : Int) : Nat → Int
  | 0 => -1
  | n + 1 => if 0 ≤ lk f key n then lk f key n else if f n = key then (n : Int) else -1
def nmS (NM : Nat → Int) (s : Nat) : Nat → Int := fun i => NM (s * 10 + i)
def lkS (CN NM : Nat → Int) (s : Nat) (key : Int) : Int := lk (nmS NM s) key (CN s).toNat
/-- no name is in two sorts -/
def Uq (CN NM : Nat → Int) : Prop := ∀ (s t : Nat) (key : Int), s < 4 → t < 4 → ¬ lkS CN NM s key = -1 → ¬ lkS CN NM t key = -1 → s = t
/-- the word of a key -/
def wdN : Nat → Nat → Int
  | 0, _ => 0
  | f + 1, k => if k = 0 then 0 else wdN f (k / 32) * 256 + ((k % 32 : Nat) + 96 : Int)
def wd (k : Int) : Int := wdN 7 k.toNat
def bs (s : Nat) : Nat := ([28, 32, 42, 50] : List Nat).getD s 0
/-- what holds of the rows -/
def INV (CN NM : Nat → Int) (x : Int) : Prop := (0 ≤ CN 0 ∧ CN 0 ≤ 4) ∧ (0 ≤ CN 1 ∧ CN 1 ≤ 10) ∧ (0 ≤ CN 2 ∧ CN 2 ≤ 8) ∧ (0 ≤ CN 3 ∧ CN 3 ≤ 6) ∧ (∀ k, zin64 (NM k)) ∧ Uq CN NM ∧ 0 ≤ x ∧ x < 16
