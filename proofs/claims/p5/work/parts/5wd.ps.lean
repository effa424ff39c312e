/-! which words are no names: class and reference alike (written by a program) -/
section PS
variable {b : Int → Int} {i : Int}
theorem wW_succ {m : Nat} (hm : m < 7) (h : ∀ k : Nat, k < m + 1 → isL (b (i + k))) : wW b i (m + 1) = wW b i m * 256 + b (i + m) := by
  have a := (key_word m (by omega) (fun k hk => h k (by omega))).2.1
  have hl := h m (by omega)
  unfold isL at hl
  have p2 : (256 : Int) ^ m ≤ 256 ^ 6 := by
    rcases (show m = 0 ∨ m = 1 ∨ m = 2 ∨ m = 3 ∨ m = 4 ∨ m = 5 ∨ m = 6 by omega) with rfl | rfl | rfl | rfl | rfl | rfl | rfl <;> decide
  rw [show wW b i (m + 1) = _ from if_pos (by omega), z_lor8 a.1 (by omega) (by omega) (by omega)]
theorem spw_0 (h : ∀ k : Nat, k < 0 → isL (b (i + k))) : ∀ w : Nat, w < 29 → (Sp29 b i ((0 : Nat) : Int) (w : Int) ↔ wW b i 0 = RC w) := by
  have e0 : wW b i 0 = 0 := rfl
  intro w hw
  rcases (show w = 0 ∨ w = 1 ∨ w = 2 ∨ w = 3 ∨ w = 4 ∨ w = 5 ∨ w = 6 ∨ w = 7 ∨ w = 8 ∨ w = 9 ∨ w = 10 ∨ w = 11 ∨ w = 12 ∨ w = 13 ∨ w = 14 ∨ w = 15 ∨ w = 16 ∨ w = 17 ∨ w = 18 ∨ w = 19 ∨ w = 20 ∨ w = 21 ∨ w = 22 ∨ w = 23 ∨ w = 24 ∨ w = 25 ∨ w = 26 ∨ w = 27 ∨ w = 28 by omega) with rfl | rfl | rfl | rfl | rfl | rfl | rfl | rfl | rfl | rfl | rfl | rfl | rfl | rfl | rfl | rfl | rfl | rfl | rfl | rfl | rfl | rfl | rfl | rfl | rfl | rfl | rfl | rfl | rfl
  · show Sp29 b i ((0 : Nat) : Int) ((0 : Nat) : Int) ↔ wW b i 0 = 482854658917
    constructor
    · intro hs
      rcases hs with ⟨-, -, hq⟩ | ⟨q1, q2, -⟩ | ⟨q1, q2, -⟩
      · exact absurd hq.2.2.1 (by decide +kernel)
      · omega
      · omega
    · intro hs
      exact absurd hs (by omega)
  · show Sp29 b i ((0 : Nat) : Int) ((1 : Nat) : Int) ↔ wW b i 0 = 1835102827
    constructor
    · intro hs
      rcases hs with ⟨-, -, hq⟩ | ⟨q1, q2, -⟩ | ⟨q1, q2, -⟩
      · exact absurd hq.2.2.1 (by decide +kernel)
      · omega
      · omega
    · intro hs
      exact absurd hs (by omega)
  · show Sp29 b i ((0 : Nat) : Int) ((2 : Nat) : Int) ↔ wW b i 0 = 499967946343
    constructor
    · intro hs
      rcases hs with ⟨-, -, hq⟩ | ⟨q1, q2, -⟩ | ⟨q1, q2, -⟩
      · exact absurd hq.2.2.1 (by decide +kernel)
      · omega
      · omega
    · intro hs
      exact absurd hs (by omega)
  · show Sp29 b i ((0 : Nat) : Int) ((3 : Nat) : Int) ↔ wW b i 0 = 123581014175598
    constructor
    · intro hs
      rcases hs with ⟨-, -, hq⟩ | ⟨q1, q2, -⟩ | ⟨q1, q2, -⟩
      · exact absurd hq.2.2.1 (by decide +kernel)
      · omega
      · omega
    · intro hs
      exact absurd hs (by omega)
  · show Sp29 b i ((0 : Nat) : Int) ((4 : Nat) : Int) ↔ wW b i 0 = 1718185573
    constructor
    · intro hs
      rcases hs with ⟨-, -, hq⟩ | ⟨q1, q2, -⟩ | ⟨q1, q2, -⟩
      · exact absurd hq.2.2.1 (by decide +kernel)
      · omega
      · omega
    · intro hs
      exact absurd hs (by omega)
  · show Sp29 b i ((0 : Nat) : Int) ((5 : Nat) : Int) ↔ wW b i 0 = 1835627621
    constructor
    · intro hs
      rcases hs with ⟨-, -, hq⟩ | ⟨q1, q2, -⟩ | ⟨q1, q2, -⟩
      · exact absurd hq.2.2.1 (by decide +kernel)
      · omega
      · omega
    · intro hs
      exact absurd hs (by omega)
  · show Sp29 b i ((0 : Nat) : Int) ((6 : Nat) : Int) ↔ wW b i 0 = 2002872165
    constructor
    · intro hs
      rcases hs with ⟨-, -, hq⟩ | ⟨q1, q2, -⟩ | ⟨q1, q2, -⟩
      · exact absurd hq.2.2.1 (by decide +kernel)
      · omega
      · omega
    · intro hs
      exact absurd hs (by omega)
  · show Sp29 b i ((0 : Nat) : Int) ((7 : Nat) : Int) ↔ wW b i 0 = 1717662580
    constructor
    · intro hs
      rcases hs with ⟨-, -, hq⟩ | ⟨q1, q2, -⟩ | ⟨q1, q2, -⟩
      · exact absurd hq.2.2.1 (by decide +kernel)
      · omega
      · omega
    · intro hs
      exact absurd hs (by omega)
  · show Sp29 b i ((0 : Nat) : Int) ((8 : Nat) : Int) ↔ wW b i 0 = 26995
    constructor
    · intro hs
      rcases hs with ⟨-, -, hq⟩ | ⟨q1, q2, -⟩ | ⟨q1, q2, -⟩
      · exact absurd hq.2.2.1 (by decide +kernel)
      · omega
      · omega
    · intro hs
      exact absurd hs (by omega)
  · show Sp29 b i ((0 : Nat) : Int) ((9 : Nat) : Int) ↔ wW b i 0 = 461414299507
    constructor
    · intro hs
      rcases hs with ⟨-, -, hq⟩ | ⟨q1, q2, -⟩ | ⟨q1, q2, -⟩
      · exact absurd hq.2.2.1 (by decide +kernel)
      · omega
      · omega
    · intro hs
      exact absurd hs (by omega)
  · show Sp29 b i ((0 : Nat) : Int) ((10 : Nat) : Int) ↔ wW b i 0 = 28832984742848366
    constructor
    · intro hs
      rcases hs with ⟨-, -, hq⟩ | ⟨q1, q2, -⟩ | ⟨q1, q2, -⟩
      · exact absurd hq.2.2.1 (by decide +kernel)
      · omega
      · omega
    · intro hs
      exact absurd hs (by omega)
  · show Sp29 b i ((0 : Nat) : Int) ((11 : Nat) : Int) ↔ wW b i 0 = 1735353715
    constructor
    · intro hs
      rcases hs with ⟨q1, q2, -⟩ | ⟨-, -, hq⟩ | ⟨q1, q2, -⟩
      · omega
      · exact absurd hq.2.2.1 (by decide +kernel)
      · omega
    · intro hs
      exact absurd hs (by omega)
  · show Sp29 b i ((0 : Nat) : Int) ((12 : Nat) : Int) ↔ wW b i 0 = 1634954099
    constructor
    · intro hs
      rcases hs with ⟨q1, q2, -⟩ | ⟨-, -, hq⟩ | ⟨q1, q2, -⟩
      · omega
      · exact absurd hq.2.2.1 (by decide +kernel)
      · omega
    · intro hs
      exact absurd hs (by omega)
  · show Sp29 b i ((0 : Nat) : Int) ((13 : Nat) : Int) ↔ wW b i 0 = 474080961907
    constructor
    · intro hs
      rcases hs with ⟨q1, q2, -⟩ | ⟨-, -, hq⟩ | ⟨q1, q2, -⟩
      · omega
      · exact absurd hq.2.2.1 (by decide +kernel)
      · omega
    · intro hs
      exact absurd hs (by omega)
  · show Sp29 b i ((0 : Nat) : Int) ((14 : Nat) : Int) ↔ wW b i 0 = 123623812527219
    constructor
    · intro hs
      rcases hs with ⟨q1, q2, -⟩ | ⟨-, -, hq⟩ | ⟨q1, q2, -⟩
      · omega
      · exact absurd hq.2.2.1 (by decide +kernel)
      · omega
    · intro hs
      exact absurd hs (by omega)
  · show Sp29 b i ((0 : Nat) : Int) ((15 : Nat) : Int) ↔ wW b i 0 = 1886745715
    constructor
    · intro hs
      rcases hs with ⟨q1, q2, -⟩ | ⟨-, -, hq⟩ | ⟨q1, q2, -⟩
      · omega
      · exact absurd hq.2.2.1 (by decide +kernel)
      · omega
    · intro hs
      exact absurd hs (by omega)
  · show Sp29 b i ((0 : Nat) : Int) ((16 : Nat) : Int) ↔ wW b i 0 = 119182682386035
    constructor
    · intro hs
      rcases hs with ⟨q1, q2, -⟩ | ⟨-, -, hq⟩ | ⟨q1, q2, -⟩
      · omega
      · exact absurd hq.2.2.1 (by decide +kernel)
      · omega
    · intro hs
      exact absurd hs (by omega)
  · show Sp29 b i ((0 : Nat) : Int) ((17 : Nat) : Int) ↔ wW b i 0 = 6578553
    constructor
    · intro hs
      rcases hs with ⟨q1, q2, -⟩ | ⟨-, -, hq⟩ | ⟨q1, q2, -⟩
      · omega
      · exact absurd hq.2.2.1 (by decide +kernel)
      · omega
    · intro hs
      exact absurd hs (by omega)
  · show Sp29 b i ((0 : Nat) : Int) ((18 : Nat) : Int) ↔ wW b i 0 = 28530
    constructor
    · intro hs
      rcases hs with ⟨q1, q2, -⟩ | ⟨q1, q2, -⟩ | ⟨-, -, hq⟩
      · omega
      · omega
      · exact absurd hq.2.2.1 (by decide +kernel)
    · intro hs
      exact absurd hs (by omega)
  · show Sp29 b i ((0 : Nat) : Int) ((19 : Nat) : Int) ↔ wW b i 0 = 6385252
    constructor
    · intro hs
      rcases hs with ⟨q1, q2, -⟩ | ⟨q1, q2, -⟩ | ⟨-, -, hq⟩
      · omega
      · omega
      · exact absurd hq.2.2.1 (by decide +kernel)
    · intro hs
      exact absurd hs (by omega)
  · show Sp29 b i ((0 : Nat) : Int) ((20 : Nat) : Int) ↔ wW b i 0 = 7237492
    constructor
    · intro hs
      rcases hs with ⟨q1, q2, -⟩ | ⟨q1, q2, -⟩ | ⟨-, -, hq⟩
      · omega
      · omega
      · exact absurd hq.2.2.1 (by decide +kernel)
    · intro hs
      exact absurd hs (by omega)
  · show Sp29 b i ((0 : Nat) : Int) ((21 : Nat) : Int) ↔ wW b i 0 = 27973166868030820
    constructor
    · intro hs
      rcases hs with ⟨q1, q2, -⟩ | ⟨q1, q2, -⟩ | ⟨-, -, hq⟩
      · omega
      · omega
      · exact absurd hq.2.2.1 (by decide +kernel)
    · intro hs
      exact absurd hs (by omega)
  · show Sp29 b i ((0 : Nat) : Int) ((22 : Nat) : Int) ↔ wW b i 0 = 1819242085
    constructor
    · intro hs
      rcases hs with ⟨q1, q2, -⟩ | ⟨q1, q2, -⟩ | ⟨-, -, hq⟩
      · omega
      · omega
      · exact absurd hq.2.2.1 (by decide +kernel)
    · intro hs
      exact absurd hs (by omega)
  · show Sp29 b i ((0 : Nat) : Int) ((23 : Nat) : Int) ↔ wW b i 0 = 6840691
    constructor
    · intro hs
      rcases hs with ⟨q1, q2, -⟩ | ⟨q1, q2, -⟩ | ⟨-, -, hq⟩
      · omega
      · omega
      · exact absurd hq.2.2.1 (by decide +kernel)
    · intro hs
      exact absurd hs (by omega)
  · show Sp29 b i ((0 : Nat) : Int) ((24 : Nat) : Int) ↔ wW b i 0 = 24948
    constructor
    · intro hs
      rcases hs with ⟨q1, q2, -⟩ | ⟨q1, q2, -⟩ | ⟨-, -, hq⟩
      · omega
      · omega
      · exact absurd hq.2.2.1 (by decide +kernel)
    · intro hs
      exact absurd hs (by omega)
  · show Sp29 b i ((0 : Nat) : Int) ((25 : Nat) : Int) ↔ wW b i 0 = 2003399784
    constructor
    · intro hs
      rcases hs with ⟨q1, q2, -⟩ | ⟨q1, q2, -⟩ | ⟨-, -, hq⟩
      · omega
      · omega
      · exact absurd hq.2.2.1 (by decide +kernel)
    · intro hs
      exact absurd hs (by omega)
  · show Sp29 b i ((0 : Nat) : Int) ((26 : Nat) : Int) ↔ wW b i 0 = 469786323827
    constructor
    · intro hs
      rcases hs with ⟨q1, q2, -⟩ | ⟨q1, q2, -⟩ | ⟨-, -, hq⟩
      · omega
      · omega
      · exact absurd hq.2.2.1 (by decide +kernel)
    · intro hs
      exact absurd hs (by omega)
  · show Sp29 b i ((0 : Nat) : Int) ((27 : Nat) : Int) ↔ wW b i 0 = 474080961892
    constructor
    · intro hs
      rcases hs with ⟨q1, q2, -⟩ | ⟨q1, q2, -⟩ | ⟨-, -, hq⟩
      · omega
      · omega
      · exact absurd hq.2.2.1 (by decide +kernel)
    · intro hs
      exact absurd hs (by omega)
  · show Sp29 b i ((0 : Nat) : Int) ((28 : Nat) : Int) ↔ wW b i 0 = 121450625394034
    constructor
    · intro hs
      rcases hs with ⟨q1, q2, -⟩ | ⟨q1, q2, -⟩ | ⟨-, -, hq⟩
      · omega
      · omega
      · exact absurd hq.2.2.1 (by decide +kernel)
    · intro hs
      exact absurd hs (by omega)
theorem spw_1 (h : ∀ k : Nat, k < 1 → isL (b (i + k))) : ∀ w : Nat, w < 29 → (Sp29 b i ((1 : Nat) : Int) (w : Int) ↔ wW b i 1 = RC w) := by
  have c0 : 97 ≤ b (i + 0) ∧ b (i + 0) ≤ 122 := h 0 (by omega)
  have e0 : wW b i 0 = 0 := rfl
  have e1 : wW b i 1 = wW b i 0 * 256 + b (i + 0) := wW_succ (m := 0) (by omega) (fun k hk => h k (by omega))
  intro w hw
  rcases (show w = 0 ∨ w = 1 ∨ w = 2 ∨ w = 3 ∨ w = 4 ∨ w = 5 ∨ w = 6 ∨ w = 7 ∨ w = 8 ∨ w = 9 ∨ w = 10 ∨ w = 11 ∨ w = 12 ∨ w = 13 ∨ w = 14 ∨ w = 15 ∨ w = 16 ∨ w = 17 ∨ w = 18 ∨ w = 19 ∨ w = 20 ∨ w = 21 ∨ w = 22 ∨ w = 23 ∨ w = 24 ∨ w = 25 ∨ w = 26 ∨ w = 27 ∨ w = 28 by omega) with rfl | rfl | rfl | rfl | rfl | rfl | rfl | rfl | rfl | rfl | rfl | rfl | rfl | rfl | rfl | rfl | rfl | rfl | rfl | rfl | rfl | rfl | rfl | rfl | rfl | rfl | rfl | rfl | rfl
  · show Sp29 b i ((1 : Nat) : Int) ((0 : Nat) : Int) ↔ wW b i 1 = 482854658917
    constructor
    · intro hs
      rcases hs with ⟨-, -, hq⟩ | ⟨q1, q2, -⟩ | ⟨q1, q2, -⟩
      · exact absurd hq.2.2.1 (by decide +kernel)
      · omega
      · omega
    · intro hs
      exact absurd hs (by omega)
  · show Sp29 b i ((1 : Nat) : Int) ((1 : Nat) : Int) ↔ wW b i 1 = 1835102827
    constructor
    · intro hs
      rcases hs with ⟨-, -, hq⟩ | ⟨q1, q2, -⟩ | ⟨q1, q2, -⟩
      · exact absurd hq.2.2.1 (by decide +kernel)
      · omega
      · omega
    · intro hs
      exact absurd hs (by omega)
  · show Sp29 b i ((1 : Nat) : Int) ((2 : Nat) : Int) ↔ wW b i 1 = 499967946343
    constructor
    · intro hs
      rcases hs with ⟨-, -, hq⟩ | ⟨q1, q2, -⟩ | ⟨q1, q2, -⟩
      · exact absurd hq.2.2.1 (by decide +kernel)
      · omega
      · omega
    · intro hs
      exact absurd hs (by omega)
  · show Sp29 b i ((1 : Nat) : Int) ((3 : Nat) : Int) ↔ wW b i 1 = 123581014175598
    constructor
    · intro hs
      rcases hs with ⟨-, -, hq⟩ | ⟨q1, q2, -⟩ | ⟨q1, q2, -⟩
      · exact absurd hq.2.2.1 (by decide +kernel)
      · omega
      · omega
    · intro hs
      exact absurd hs (by omega)
  · show Sp29 b i ((1 : Nat) : Int) ((4 : Nat) : Int) ↔ wW b i 1 = 1718185573
    constructor
    · intro hs
      rcases hs with ⟨-, -, hq⟩ | ⟨q1, q2, -⟩ | ⟨q1, q2, -⟩
      · exact absurd hq.2.2.1 (by decide +kernel)
      · omega
      · omega
    · intro hs
      exact absurd hs (by omega)
  · show Sp29 b i ((1 : Nat) : Int) ((5 : Nat) : Int) ↔ wW b i 1 = 1835627621
    constructor
    · intro hs
      rcases hs with ⟨-, -, hq⟩ | ⟨q1, q2, -⟩ | ⟨q1, q2, -⟩
      · exact absurd hq.2.2.1 (by decide +kernel)
      · omega
      · omega
    · intro hs
      exact absurd hs (by omega)
  · show Sp29 b i ((1 : Nat) : Int) ((6 : Nat) : Int) ↔ wW b i 1 = 2002872165
    constructor
    · intro hs
      rcases hs with ⟨-, -, hq⟩ | ⟨q1, q2, -⟩ | ⟨q1, q2, -⟩
      · exact absurd hq.2.2.1 (by decide +kernel)
      · omega
      · omega
    · intro hs
      exact absurd hs (by omega)
  · show Sp29 b i ((1 : Nat) : Int) ((7 : Nat) : Int) ↔ wW b i 1 = 1717662580
    constructor
    · intro hs
      rcases hs with ⟨-, -, hq⟩ | ⟨q1, q2, -⟩ | ⟨q1, q2, -⟩
      · exact absurd hq.2.2.1 (by decide +kernel)
      · omega
      · omega
    · intro hs
      exact absurd hs (by omega)
  · show Sp29 b i ((1 : Nat) : Int) ((8 : Nat) : Int) ↔ wW b i 1 = 26995
    constructor
    · intro hs
      rcases hs with ⟨-, -, hq⟩ | ⟨q1, q2, -⟩ | ⟨q1, q2, -⟩
      · exact absurd hq.2.2.1 (by decide +kernel)
      · omega
      · omega
    · intro hs
      exact absurd hs (by omega)
  · show Sp29 b i ((1 : Nat) : Int) ((9 : Nat) : Int) ↔ wW b i 1 = 461414299507
    constructor
    · intro hs
      rcases hs with ⟨-, -, hq⟩ | ⟨q1, q2, -⟩ | ⟨q1, q2, -⟩
      · exact absurd hq.2.2.1 (by decide +kernel)
      · omega
      · omega
    · intro hs
      exact absurd hs (by omega)
  · show Sp29 b i ((1 : Nat) : Int) ((10 : Nat) : Int) ↔ wW b i 1 = 28832984742848366
    constructor
    · intro hs
      rcases hs with ⟨-, -, hq⟩ | ⟨q1, q2, -⟩ | ⟨q1, q2, -⟩
      · exact absurd hq.2.2.1 (by decide +kernel)
      · omega
      · omega
    · intro hs
      exact absurd hs (by omega)
  · show Sp29 b i ((1 : Nat) : Int) ((11 : Nat) : Int) ↔ wW b i 1 = 1735353715
    constructor
    · intro hs
      rcases hs with ⟨q1, q2, -⟩ | ⟨-, -, hq⟩ | ⟨q1, q2, -⟩
      · omega
      · exact absurd hq.2.2.1 (by decide +kernel)
      · omega
    · intro hs
      exact absurd hs (by omega)
  · show Sp29 b i ((1 : Nat) : Int) ((12 : Nat) : Int) ↔ wW b i 1 = 1634954099
    constructor
    · intro hs
      rcases hs with ⟨q1, q2, -⟩ | ⟨-, -, hq⟩ | ⟨q1, q2, -⟩
      · omega
      · exact absurd hq.2.2.1 (by decide +kernel)
      · omega
    · intro hs
      exact absurd hs (by omega)
  · show Sp29 b i ((1 : Nat) : Int) ((13 : Nat) : Int) ↔ wW b i 1 = 474080961907
    constructor
    · intro hs
      rcases hs with ⟨q1, q2, -⟩ | ⟨-, -, hq⟩ | ⟨q1, q2, -⟩
      · omega
      · exact absurd hq.2.2.1 (by decide +kernel)
      · omega
    · intro hs
      exact absurd hs (by omega)
  · show Sp29 b i ((1 : Nat) : Int) ((14 : Nat) : Int) ↔ wW b i 1 = 123623812527219
    constructor
    · intro hs
      rcases hs with ⟨q1, q2, -⟩ | ⟨-, -, hq⟩ | ⟨q1, q2, -⟩
      · omega
      · exact absurd hq.2.2.1 (by decide +kernel)
      · omega
    · intro hs
      exact absurd hs (by omega)
  · show Sp29 b i ((1 : Nat) : Int) ((15 : Nat) : Int) ↔ wW b i 1 = 1886745715
    constructor
    · intro hs
      rcases hs with ⟨q1, q2, -⟩ | ⟨-, -, hq⟩ | ⟨q1, q2, -⟩
      · omega
      · exact absurd hq.2.2.1 (by decide +kernel)
      · omega
    · intro hs
      exact absurd hs (by omega)
  · show Sp29 b i ((1 : Nat) : Int) ((16 : Nat) : Int) ↔ wW b i 1 = 119182682386035
    constructor
    · intro hs
      rcases hs with ⟨q1, q2, -⟩ | ⟨-, -, hq⟩ | ⟨q1, q2, -⟩
      · omega
      · exact absurd hq.2.2.1 (by decide +kernel)
      · omega
    · intro hs
      exact absurd hs (by omega)
  · show Sp29 b i ((1 : Nat) : Int) ((17 : Nat) : Int) ↔ wW b i 1 = 6578553
    constructor
    · intro hs
      rcases hs with ⟨q1, q2, -⟩ | ⟨-, -, hq⟩ | ⟨q1, q2, -⟩
      · omega
      · exact absurd hq.2.2.1 (by decide +kernel)
      · omega
    · intro hs
      exact absurd hs (by omega)
  · show Sp29 b i ((1 : Nat) : Int) ((18 : Nat) : Int) ↔ wW b i 1 = 28530
    constructor
    · intro hs
      rcases hs with ⟨q1, q2, -⟩ | ⟨q1, q2, -⟩ | ⟨-, -, hq⟩
      · omega
      · omega
      · exact absurd hq.2.2.1 (by decide +kernel)
    · intro hs
      exact absurd hs (by omega)
  · show Sp29 b i ((1 : Nat) : Int) ((19 : Nat) : Int) ↔ wW b i 1 = 6385252
    constructor
    · intro hs
      rcases hs with ⟨q1, q2, -⟩ | ⟨q1, q2, -⟩ | ⟨-, -, hq⟩
      · omega
      · omega
      · exact absurd hq.2.2.1 (by decide +kernel)
    · intro hs
      exact absurd hs (by omega)
  · show Sp29 b i ((1 : Nat) : Int) ((20 : Nat) : Int) ↔ wW b i 1 = 7237492
    constructor
    · intro hs
      rcases hs with ⟨q1, q2, -⟩ | ⟨q1, q2, -⟩ | ⟨-, -, hq⟩
      · omega
      · omega
      · exact absurd hq.2.2.1 (by decide +kernel)
    · intro hs
      exact absurd hs (by omega)
  · show Sp29 b i ((1 : Nat) : Int) ((21 : Nat) : Int) ↔ wW b i 1 = 27973166868030820
    constructor
    · intro hs
      rcases hs with ⟨q1, q2, -⟩ | ⟨q1, q2, -⟩ | ⟨-, -, hq⟩
      · omega
      · omega
      · exact absurd hq.2.2.1 (by decide +kernel)
    · intro hs
      exact absurd hs (by omega)
  · show Sp29 b i ((1 : Nat) : Int) ((22 : Nat) : Int) ↔ wW b i 1 = 1819242085
    constructor
    · intro hs
      rcases hs with ⟨q1, q2, -⟩ | ⟨q1, q2, -⟩ | ⟨-, -, hq⟩
      · omega
      · omega
      · exact absurd hq.2.2.1 (by decide +kernel)
    · intro hs
      exact absurd hs (by omega)
  · show Sp29 b i ((1 : Nat) : Int) ((23 : Nat) : Int) ↔ wW b i 1 = 6840691
    constructor
    · intro hs
      rcases hs with ⟨q1, q2, -⟩ | ⟨q1, q2, -⟩ | ⟨-, -, hq⟩
      · omega
      · omega
      · exact absurd hq.2.2.1 (by decide +kernel)
    · intro hs
      exact absurd hs (by omega)
  · show Sp29 b i ((1 : Nat) : Int) ((24 : Nat) : Int) ↔ wW b i 1 = 24948
    constructor
    · intro hs
      rcases hs with ⟨q1, q2, -⟩ | ⟨q1, q2, -⟩ | ⟨-, -, hq⟩
      · omega
      · omega
      · exact absurd hq.2.2.1 (by decide +kernel)
    · intro hs
      exact absurd hs (by omega)
  · show Sp29 b i ((1 : Nat) : Int) ((25 : Nat) : Int) ↔ wW b i 1 = 2003399784
    constructor
    · intro hs
      rcases hs with ⟨q1, q2, -⟩ | ⟨q1, q2, -⟩ | ⟨-, -, hq⟩
      · omega
      · omega
      · exact absurd hq.2.2.1 (by decide +kernel)
    · intro hs
      exact absurd hs (by omega)
  · show Sp29 b i ((1 : Nat) : Int) ((26 : Nat) : Int) ↔ wW b i 1 = 469786323827
    constructor
    · intro hs
      rcases hs with ⟨q1, q2, -⟩ | ⟨q1, q2, -⟩ | ⟨-, -, hq⟩
      · omega
      · omega
      · exact absurd hq.2.2.1 (by decide +kernel)
    · intro hs
      exact absurd hs (by omega)
  · show Sp29 b i ((1 : Nat) : Int) ((27 : Nat) : Int) ↔ wW b i 1 = 474080961892
    constructor
    · intro hs
      rcases hs with ⟨q1, q2, -⟩ | ⟨q1, q2, -⟩ | ⟨-, -, hq⟩
      · omega
      · omega
      · exact absurd hq.2.2.1 (by decide +kernel)
    · intro hs
      exact absurd hs (by omega)
  · show Sp29 b i ((1 : Nat) : Int) ((28 : Nat) : Int) ↔ wW b i 1 = 121450625394034
    constructor
    · intro hs
      rcases hs with ⟨q1, q2, -⟩ | ⟨q1, q2, -⟩ | ⟨-, -, hq⟩
      · omega
      · omega
      · exact absurd hq.2.2.1 (by decide +kernel)
    · intro hs
      exact absurd hs (by omega)
theorem spw_2 (h : ∀ k : Nat, k < 2 → isL (b (i + k))) : ∀ w : Nat, w < 29 → (Sp29 b i ((2 : Nat) : Int) (w : Int) ↔ wW b i 2 = RC w) := by
  have c0 : 97 ≤ b (i + 0) ∧ b (i + 0) ≤ 122 := h 0 (by omega)
  have c1 : 97 ≤ b (i + 1) ∧ b (i + 1) ≤ 122 := h 1 (by omega)
  have e0 : wW b i 0 = 0 := rfl
  have e1 : wW b i 1 = wW b i 0 * 256 + b (i + 0) := wW_succ (m := 0) (by omega) (fun k hk => h k (by omega))
  have e2 : wW b i 2 = wW b i 1 * 256 + b (i + 1) := wW_succ (m := 1) (by omega) (fun k hk => h k (by omega))
  intro w hw
  rcases (show w = 0 ∨ w = 1 ∨ w = 2 ∨ w = 3 ∨ w = 4 ∨ w = 5 ∨ w = 6 ∨ w = 7 ∨ w = 8 ∨ w = 9 ∨ w = 10 ∨ w = 11 ∨ w = 12 ∨ w = 13 ∨ w = 14 ∨ w = 15 ∨ w = 16 ∨ w = 17 ∨ w = 18 ∨ w = 19 ∨ w = 20 ∨ w = 21 ∨ w = 22 ∨ w = 23 ∨ w = 24 ∨ w = 25 ∨ w = 26 ∨ w = 27 ∨ w = 28 by omega) with rfl | rfl | rfl | rfl | rfl | rfl | rfl | rfl | rfl | rfl | rfl | rfl | rfl | rfl | rfl | rfl | rfl | rfl | rfl | rfl | rfl | rfl | rfl | rfl | rfl | rfl | rfl | rfl | rfl
  · show Sp29 b i ((2 : Nat) : Int) ((0 : Nat) : Int) ↔ wW b i 2 = 482854658917
    constructor
    · intro hs
      rcases hs with ⟨-, -, hq⟩ | ⟨q1, q2, -⟩ | ⟨q1, q2, -⟩
      · exact absurd hq.2.2.1 (by decide +kernel)
      · omega
      · omega
    · intro hs
      exact absurd hs (by omega)
  · show Sp29 b i ((2 : Nat) : Int) ((1 : Nat) : Int) ↔ wW b i 2 = 1835102827
    constructor
    · intro hs
      rcases hs with ⟨-, -, hq⟩ | ⟨q1, q2, -⟩ | ⟨q1, q2, -⟩
      · exact absurd hq.2.2.1 (by decide +kernel)
      · omega
      · omega
    · intro hs
      exact absurd hs (by omega)
  · show Sp29 b i ((2 : Nat) : Int) ((2 : Nat) : Int) ↔ wW b i 2 = 499967946343
    constructor
    · intro hs
      rcases hs with ⟨-, -, hq⟩ | ⟨q1, q2, -⟩ | ⟨q1, q2, -⟩
      · exact absurd hq.2.2.1 (by decide +kernel)
      · omega
      · omega
    · intro hs
      exact absurd hs (by omega)
  · show Sp29 b i ((2 : Nat) : Int) ((3 : Nat) : Int) ↔ wW b i 2 = 123581014175598
    constructor
    · intro hs
      rcases hs with ⟨-, -, hq⟩ | ⟨q1, q2, -⟩ | ⟨q1, q2, -⟩
      · exact absurd hq.2.2.1 (by decide +kernel)
      · omega
      · omega
    · intro hs
      exact absurd hs (by omega)
  · show Sp29 b i ((2 : Nat) : Int) ((4 : Nat) : Int) ↔ wW b i 2 = 1718185573
    constructor
    · intro hs
      rcases hs with ⟨-, -, hq⟩ | ⟨q1, q2, -⟩ | ⟨q1, q2, -⟩
      · exact absurd hq.2.2.1 (by decide +kernel)
      · omega
      · omega
    · intro hs
      exact absurd hs (by omega)
  · show Sp29 b i ((2 : Nat) : Int) ((5 : Nat) : Int) ↔ wW b i 2 = 1835627621
    constructor
    · intro hs
      rcases hs with ⟨-, -, hq⟩ | ⟨q1, q2, -⟩ | ⟨q1, q2, -⟩
      · exact absurd hq.2.2.1 (by decide +kernel)
      · omega
      · omega
    · intro hs
      exact absurd hs (by omega)
  · show Sp29 b i ((2 : Nat) : Int) ((6 : Nat) : Int) ↔ wW b i 2 = 2002872165
    constructor
    · intro hs
      rcases hs with ⟨-, -, hq⟩ | ⟨q1, q2, -⟩ | ⟨q1, q2, -⟩
      · exact absurd hq.2.2.1 (by decide +kernel)
      · omega
      · omega
    · intro hs
      exact absurd hs (by omega)
  · show Sp29 b i ((2 : Nat) : Int) ((7 : Nat) : Int) ↔ wW b i 2 = 1717662580
    constructor
    · intro hs
      rcases hs with ⟨-, -, hq⟩ | ⟨q1, q2, -⟩ | ⟨q1, q2, -⟩
      · exact absurd hq.2.2.1 (by decide +kernel)
      · omega
      · omega
    · intro hs
      exact absurd hs (by omega)
  · show Sp29 b i ((2 : Nat) : Int) ((8 : Nat) : Int) ↔ wW b i 2 = 26995
    constructor
    · intro hs
      rcases hs with ⟨-, -, hq⟩ | ⟨q1, q2, -⟩ | ⟨q1, q2, -⟩
      · have q0 : (105 : Int) = b (i + 0) := hq.2.2.2 0 (by decide) (by decide)
        have q1 : (115 : Int) = b (i + 1) := hq.2.2.2 1 (by decide) (by decide)
        omega
      · omega
      · omega
    · intro hs
      refine Or.inl ⟨by decide, by decide, by decide, by decide, by decide +kernel, fun k h1 h2 => ?_⟩
      rcases (show k = 0 ∨ k = 1 by omega) with rfl | rfl
      · show (105 : Int) = b (i + 0)
        omega
      · show (115 : Int) = b (i + 1)
        omega
  · show Sp29 b i ((2 : Nat) : Int) ((9 : Nat) : Int) ↔ wW b i 2 = 461414299507
    constructor
    · intro hs
      rcases hs with ⟨-, -, hq⟩ | ⟨q1, q2, -⟩ | ⟨q1, q2, -⟩
      · exact absurd hq.2.2.1 (by decide +kernel)
      · omega
      · omega
    · intro hs
      exact absurd hs (by omega)
  · show Sp29 b i ((2 : Nat) : Int) ((10 : Nat) : Int) ↔ wW b i 2 = 28832984742848366
    constructor
    · intro hs
      rcases hs with ⟨-, -, hq⟩ | ⟨q1, q2, -⟩ | ⟨q1, q2, -⟩
      · exact absurd hq.2.2.1 (by decide +kernel)
      · omega
      · omega
    · intro hs
      exact absurd hs (by omega)
  · show Sp29 b i ((2 : Nat) : Int) ((11 : Nat) : Int) ↔ wW b i 2 = 1735353715
    constructor
    · intro hs
      rcases hs with ⟨q1, q2, -⟩ | ⟨-, -, hq⟩ | ⟨q1, q2, -⟩
      · omega
      · exact absurd hq.2.2.1 (by decide +kernel)
      · omega
    · intro hs
      exact absurd hs (by omega)
  · show Sp29 b i ((2 : Nat) : Int) ((12 : Nat) : Int) ↔ wW b i 2 = 1634954099
    constructor
    · intro hs
      rcases hs with ⟨q1, q2, -⟩ | ⟨-, -, hq⟩ | ⟨q1, q2, -⟩
      · omega
      · exact absurd hq.2.2.1 (by decide +kernel)
      · omega
    · intro hs
      exact absurd hs (by omega)
  · show Sp29 b i ((2 : Nat) : Int) ((13 : Nat) : Int) ↔ wW b i 2 = 474080961907
    constructor
    · intro hs
      rcases hs with ⟨q1, q2, -⟩ | ⟨-, -, hq⟩ | ⟨q1, q2, -⟩
      · omega
      · exact absurd hq.2.2.1 (by decide +kernel)
      · omega
    · intro hs
      exact absurd hs (by omega)
  · show Sp29 b i ((2 : Nat) : Int) ((14 : Nat) : Int) ↔ wW b i 2 = 123623812527219
    constructor
    · intro hs
      rcases hs with ⟨q1, q2, -⟩ | ⟨-, -, hq⟩ | ⟨q1, q2, -⟩
      · omega
      · exact absurd hq.2.2.1 (by decide +kernel)
      · omega
    · intro hs
      exact absurd hs (by omega)
  · show Sp29 b i ((2 : Nat) : Int) ((15 : Nat) : Int) ↔ wW b i 2 = 1886745715
    constructor
    · intro hs
      rcases hs with ⟨q1, q2, -⟩ | ⟨-, -, hq⟩ | ⟨q1, q2, -⟩
      · omega
      · exact absurd hq.2.2.1 (by decide +kernel)
      · omega
    · intro hs
      exact absurd hs (by omega)
  · show Sp29 b i ((2 : Nat) : Int) ((16 : Nat) : Int) ↔ wW b i 2 = 119182682386035
    constructor
    · intro hs
      rcases hs with ⟨q1, q2, -⟩ | ⟨-, -, hq⟩ | ⟨q1, q2, -⟩
      · omega
      · exact absurd hq.2.2.1 (by decide +kernel)
      · omega
    · intro hs
      exact absurd hs (by omega)
  · show Sp29 b i ((2 : Nat) : Int) ((17 : Nat) : Int) ↔ wW b i 2 = 6578553
    constructor
    · intro hs
      rcases hs with ⟨q1, q2, -⟩ | ⟨-, -, hq⟩ | ⟨q1, q2, -⟩
      · omega
      · exact absurd hq.2.2.1 (by decide +kernel)
      · omega
    · intro hs
      exact absurd hs (by omega)
  · show Sp29 b i ((2 : Nat) : Int) ((18 : Nat) : Int) ↔ wW b i 2 = 28530
    constructor
    · intro hs
      rcases hs with ⟨q1, q2, -⟩ | ⟨q1, q2, -⟩ | ⟨-, -, hq⟩
      · omega
      · omega
      · have q0 : (111 : Int) = b (i + 0) := hq.2.2.2 0 (by decide) (by decide)
        have q1 : (114 : Int) = b (i + 1) := hq.2.2.2 1 (by decide) (by decide)
        omega
    · intro hs
      refine Or.inr (Or.inr ⟨by decide, by decide, by decide, by decide, by decide +kernel, fun k h1 h2 => ?_⟩)
      rcases (show k = 0 ∨ k = 1 by omega) with rfl | rfl
      · show (111 : Int) = b (i + 0)
        omega
      · show (114 : Int) = b (i + 1)
        omega
  · show Sp29 b i ((2 : Nat) : Int) ((19 : Nat) : Int) ↔ wW b i 2 = 6385252
    constructor
    · intro hs
      rcases hs with ⟨q1, q2, -⟩ | ⟨q1, q2, -⟩ | ⟨-, -, hq⟩
      · omega
      · omega
      · exact absurd hq.2.2.1 (by decide +kernel)
    · intro hs
      exact absurd hs (by omega)
  · show Sp29 b i ((2 : Nat) : Int) ((20 : Nat) : Int) ↔ wW b i 2 = 7237492
    constructor
    · intro hs
      rcases hs with ⟨q1, q2, -⟩ | ⟨q1, q2, -⟩ | ⟨-, -, hq⟩
      · omega
      · omega
      · exact absurd hq.2.2.1 (by decide +kernel)
    · intro hs
      exact absurd hs (by omega)
  · show Sp29 b i ((2 : Nat) : Int) ((21 : Nat) : Int) ↔ wW b i 2 = 27973166868030820
    constructor
    · intro hs
      rcases hs with ⟨q1, q2, -⟩ | ⟨q1, q2, -⟩ | ⟨-, -, hq⟩
      · omega
      · omega
      · exact absurd hq.2.2.1 (by decide +kernel)
    · intro hs
      exact absurd hs (by omega)
  · show Sp29 b i ((2 : Nat) : Int) ((22 : Nat) : Int) ↔ wW b i 2 = 1819242085
    constructor
    · intro hs
      rcases hs with ⟨q1, q2, -⟩ | ⟨q1, q2, -⟩ | ⟨-, -, hq⟩
      · omega
      · omega
      · exact absurd hq.2.2.1 (by decide +kernel)
    · intro hs
      exact absurd hs (by omega)
  · show Sp29 b i ((2 : Nat) : Int) ((23 : Nat) : Int) ↔ wW b i 2 = 6840691
    constructor
    · intro hs
      rcases hs with ⟨q1, q2, -⟩ | ⟨q1, q2, -⟩ | ⟨-, -, hq⟩
      · omega
      · omega
      · exact absurd hq.2.2.1 (by decide +kernel)
    · intro hs
      exact absurd hs (by omega)
  · show Sp29 b i ((2 : Nat) : Int) ((24 : Nat) : Int) ↔ wW b i 2 = 24948
    constructor
    · intro hs
      rcases hs with ⟨q1, q2, -⟩ | ⟨q1, q2, -⟩ | ⟨-, -, hq⟩
      · omega
      · omega
      · have q0 : (97 : Int) = b (i + 0) := hq.2.2.2 0 (by decide) (by decide)
        have q1 : (116 : Int) = b (i + 1) := hq.2.2.2 1 (by decide) (by decide)
        omega
    · intro hs
      refine Or.inr (Or.inr ⟨by decide, by decide, by decide, by decide, by decide +kernel, fun k h1 h2 => ?_⟩)
      rcases (show k = 0 ∨ k = 1 by omega) with rfl | rfl
      · show (97 : Int) = b (i + 0)
        omega
      · show (116 : Int) = b (i + 1)
        omega
  · show Sp29 b i ((2 : Nat) : Int) ((25 : Nat) : Int) ↔ wW b i 2 = 2003399784
    constructor
    · intro hs
      rcases hs with ⟨q1, q2, -⟩ | ⟨q1, q2, -⟩ | ⟨-, -, hq⟩
      · omega
      · omega
      · exact absurd hq.2.2.1 (by decide +kernel)
    · intro hs
      exact absurd hs (by omega)
  · show Sp29 b i ((2 : Nat) : Int) ((26 : Nat) : Int) ↔ wW b i 2 = 469786323827
    constructor
    · intro hs
      rcases hs with ⟨q1, q2, -⟩ | ⟨q1, q2, -⟩ | ⟨-, -, hq⟩
      · omega
      · omega
      · exact absurd hq.2.2.1 (by decide +kernel)
    · intro hs
      exact absurd hs (by omega)
  · show Sp29 b i ((2 : Nat) : Int) ((27 : Nat) : Int) ↔ wW b i 2 = 474080961892
    constructor
    · intro hs
      rcases hs with ⟨q1, q2, -⟩ | ⟨q1, q2, -⟩ | ⟨-, -, hq⟩
      · omega
      · omega
      · exact absurd hq.2.2.1 (by decide +kernel)
    · intro hs
      exact absurd hs (by omega)
  · show Sp29 b i ((2 : Nat) : Int) ((28 : Nat) : Int) ↔ wW b i 2 = 121450625394034
    constructor
    · intro hs
      rcases hs with ⟨q1, q2, -⟩ | ⟨q1, q2, -⟩ | ⟨-, -, hq⟩
      · omega
      · omega
      · exact absurd hq.2.2.1 (by decide +kernel)
    · intro hs
      exact absurd hs (by omega)
theorem spw_3 (h : ∀ k : Nat, k < 3 → isL (b (i + k))) : ∀ w : Nat, w < 29 → (Sp29 b i ((3 : Nat) : Int) (w : Int) ↔ wW b i 3 = RC w) := by
  have c0 : 97 ≤ b (i + 0) ∧ b (i + 0) ≤ 122 := h 0 (by omega)
  have c1 : 97 ≤ b (i + 1) ∧ b (i + 1) ≤ 122 := h 1 (by omega)
  have c2 : 97 ≤ b (i + 2) ∧ b (i + 2) ≤ 122 := h 2 (by omega)
  have e0 : wW b i 0 = 0 := rfl
  have e1 : wW b i 1 = wW b i 0 * 256 + b (i + 0) := wW_succ (m := 0) (by omega) (fun k hk => h k (by omega))
  have e2 : wW b i 2 = wW b i 1 * 256 + b (i + 1) := wW_succ (m := 1) (by omega) (fun k hk => h k (by omega))
  have e3 : wW b i 3 = wW b i 2 * 256 + b (i + 2) := wW_succ (m := 2) (by omega) (fun k hk => h k (by omega))
  intro w hw
  rcases (show w = 0 ∨ w = 1 ∨ w = 2 ∨ w = 3 ∨ w = 4 ∨ w = 5 ∨ w = 6 ∨ w = 7 ∨ w = 8 ∨ w = 9 ∨ w = 10 ∨ w = 11 ∨ w = 12 ∨ w = 13 ∨ w = 14 ∨ w = 15 ∨ w = 16 ∨ w = 17 ∨ w = 18 ∨ w = 19 ∨ w = 20 ∨ w = 21 ∨ w = 22 ∨ w = 23 ∨ w = 24 ∨ w = 25 ∨ w = 26 ∨ w = 27 ∨ w = 28 by omega) with rfl | rfl | rfl | rfl | rfl | rfl | rfl | rfl | rfl | rfl | rfl | rfl | rfl | rfl | rfl | rfl | rfl | rfl | rfl | rfl | rfl | rfl | rfl | rfl | rfl | rfl | rfl | rfl | rfl
  · show Sp29 b i ((3 : Nat) : Int) ((0 : Nat) : Int) ↔ wW b i 3 = 482854658917
    constructor
    · intro hs
      rcases hs with ⟨-, -, hq⟩ | ⟨q1, q2, -⟩ | ⟨q1, q2, -⟩
      · exact absurd hq.2.2.1 (by decide +kernel)
      · omega
      · omega
    · intro hs
      exact absurd hs (by omega)
  · show Sp29 b i ((3 : Nat) : Int) ((1 : Nat) : Int) ↔ wW b i 3 = 1835102827
    constructor
    · intro hs
      rcases hs with ⟨-, -, hq⟩ | ⟨q1, q2, -⟩ | ⟨q1, q2, -⟩
      · exact absurd hq.2.2.1 (by decide +kernel)
      · omega
      · omega
    · intro hs
      exact absurd hs (by omega)
  · show Sp29 b i ((3 : Nat) : Int) ((2 : Nat) : Int) ↔ wW b i 3 = 499967946343
    constructor
    · intro hs
      rcases hs with ⟨-, -, hq⟩ | ⟨q1, q2, -⟩ | ⟨q1, q2, -⟩
      · exact absurd hq.2.2.1 (by decide +kernel)
      · omega
      · omega
    · intro hs
      exact absurd hs (by omega)
  · show Sp29 b i ((3 : Nat) : Int) ((3 : Nat) : Int) ↔ wW b i 3 = 123581014175598
    constructor
    · intro hs
      rcases hs with ⟨-, -, hq⟩ | ⟨q1, q2, -⟩ | ⟨q1, q2, -⟩
      · exact absurd hq.2.2.1 (by decide +kernel)
      · omega
      · omega
    · intro hs
      exact absurd hs (by omega)
  · show Sp29 b i ((3 : Nat) : Int) ((4 : Nat) : Int) ↔ wW b i 3 = 1718185573
    constructor
    · intro hs
      rcases hs with ⟨-, -, hq⟩ | ⟨q1, q2, -⟩ | ⟨q1, q2, -⟩
      · exact absurd hq.2.2.1 (by decide +kernel)
      · omega
      · omega
    · intro hs
      exact absurd hs (by omega)
  · show Sp29 b i ((3 : Nat) : Int) ((5 : Nat) : Int) ↔ wW b i 3 = 1835627621
    constructor
    · intro hs
      rcases hs with ⟨-, -, hq⟩ | ⟨q1, q2, -⟩ | ⟨q1, q2, -⟩
      · exact absurd hq.2.2.1 (by decide +kernel)
      · omega
      · omega
    · intro hs
      exact absurd hs (by omega)
  · show Sp29 b i ((3 : Nat) : Int) ((6 : Nat) : Int) ↔ wW b i 3 = 2002872165
    constructor
    · intro hs
      rcases hs with ⟨-, -, hq⟩ | ⟨q1, q2, -⟩ | ⟨q1, q2, -⟩
      · exact absurd hq.2.2.1 (by decide +kernel)
      · omega
      · omega
    · intro hs
      exact absurd hs (by omega)
  · show Sp29 b i ((3 : Nat) : Int) ((7 : Nat) : Int) ↔ wW b i 3 = 1717662580
    constructor
    · intro hs
      rcases hs with ⟨-, -, hq⟩ | ⟨q1, q2, -⟩ | ⟨q1, q2, -⟩
      · exact absurd hq.2.2.1 (by decide +kernel)
      · omega
      · omega
    · intro hs
      exact absurd hs (by omega)
  · show Sp29 b i ((3 : Nat) : Int) ((8 : Nat) : Int) ↔ wW b i 3 = 26995
    constructor
    · intro hs
      rcases hs with ⟨-, -, hq⟩ | ⟨q1, q2, -⟩ | ⟨q1, q2, -⟩
      · have q : (32 : Int) = b (i + 2) := hq.2.2.2 2 (by decide) (by decide)
        omega
      · omega
      · omega
    · intro hs
      exact absurd hs (by omega)
  · show Sp29 b i ((3 : Nat) : Int) ((9 : Nat) : Int) ↔ wW b i 3 = 461414299507
    constructor
    · intro hs
      rcases hs with ⟨-, -, hq⟩ | ⟨q1, q2, -⟩ | ⟨q1, q2, -⟩
      · exact absurd hq.2.2.1 (by decide +kernel)
      · omega
      · omega
    · intro hs
      exact absurd hs (by omega)
  · show Sp29 b i ((3 : Nat) : Int) ((10 : Nat) : Int) ↔ wW b i 3 = 28832984742848366
    constructor
    · intro hs
      rcases hs with ⟨-, -, hq⟩ | ⟨q1, q2, -⟩ | ⟨q1, q2, -⟩
      · exact absurd hq.2.2.1 (by decide +kernel)
      · omega
      · omega
    · intro hs
      exact absurd hs (by omega)
  · show Sp29 b i ((3 : Nat) : Int) ((11 : Nat) : Int) ↔ wW b i 3 = 1735353715
    constructor
    · intro hs
      rcases hs with ⟨q1, q2, -⟩ | ⟨-, -, hq⟩ | ⟨q1, q2, -⟩
      · omega
      · exact absurd hq.2.2.1 (by decide +kernel)
      · omega
    · intro hs
      exact absurd hs (by omega)
  · show Sp29 b i ((3 : Nat) : Int) ((12 : Nat) : Int) ↔ wW b i 3 = 1634954099
    constructor
    · intro hs
      rcases hs with ⟨q1, q2, -⟩ | ⟨-, -, hq⟩ | ⟨q1, q2, -⟩
      · omega
      · exact absurd hq.2.2.1 (by decide +kernel)
      · omega
    · intro hs
      exact absurd hs (by omega)
  · show Sp29 b i ((3 : Nat) : Int) ((13 : Nat) : Int) ↔ wW b i 3 = 474080961907
    constructor
    · intro hs
      rcases hs with ⟨q1, q2, -⟩ | ⟨-, -, hq⟩ | ⟨q1, q2, -⟩
      · omega
      · exact absurd hq.2.2.1 (by decide +kernel)
      · omega
    · intro hs
      exact absurd hs (by omega)
  · show Sp29 b i ((3 : Nat) : Int) ((14 : Nat) : Int) ↔ wW b i 3 = 123623812527219
    constructor
    · intro hs
      rcases hs with ⟨q1, q2, -⟩ | ⟨-, -, hq⟩ | ⟨q1, q2, -⟩
      · omega
      · exact absurd hq.2.2.1 (by decide +kernel)
      · omega
    · intro hs
      exact absurd hs (by omega)
  · show Sp29 b i ((3 : Nat) : Int) ((15 : Nat) : Int) ↔ wW b i 3 = 1886745715
    constructor
    · intro hs
      rcases hs with ⟨q1, q2, -⟩ | ⟨-, -, hq⟩ | ⟨q1, q2, -⟩
      · omega
      · exact absurd hq.2.2.1 (by decide +kernel)
      · omega
    · intro hs
      exact absurd hs (by omega)
  · show Sp29 b i ((3 : Nat) : Int) ((16 : Nat) : Int) ↔ wW b i 3 = 119182682386035
    constructor
    · intro hs
      rcases hs with ⟨q1, q2, -⟩ | ⟨-, -, hq⟩ | ⟨q1, q2, -⟩
      · omega
      · exact absurd hq.2.2.1 (by decide +kernel)
      · omega
    · intro hs
      exact absurd hs (by omega)
  · show Sp29 b i ((3 : Nat) : Int) ((17 : Nat) : Int) ↔ wW b i 3 = 6578553
    constructor
    · intro hs
      rcases hs with ⟨q1, q2, -⟩ | ⟨-, -, hq⟩ | ⟨q1, q2, -⟩
      · omega
      · have q0 : (100 : Int) = b (i + 0) := hq.2.2.2 0 (by decide) (by decide)
        have q1 : (97 : Int) = b (i + 1) := hq.2.2.2 1 (by decide) (by decide)
        have q2 : (121 : Int) = b (i + 2) := hq.2.2.2 2 (by decide) (by decide)
        omega
      · omega
    · intro hs
      refine Or.inr (Or.inl ⟨by decide, by decide, by decide, by decide, by decide +kernel, fun k h1 h2 => ?_⟩)
      rcases (show k = 0 ∨ k = 1 ∨ k = 2 by omega) with rfl | rfl | rfl
      · show (100 : Int) = b (i + 0)
        omega
      · show (97 : Int) = b (i + 1)
        omega
      · show (121 : Int) = b (i + 2)
        omega
  · show Sp29 b i ((3 : Nat) : Int) ((18 : Nat) : Int) ↔ wW b i 3 = 28530
    constructor
    · intro hs
      rcases hs with ⟨q1, q2, -⟩ | ⟨q1, q2, -⟩ | ⟨-, -, hq⟩
      · omega
      · omega
      · have q : (32 : Int) = b (i + 2) := hq.2.2.2 2 (by decide) (by decide)
        omega
    · intro hs
      exact absurd hs (by omega)
  · show Sp29 b i ((3 : Nat) : Int) ((19 : Nat) : Int) ↔ wW b i 3 = 6385252
    constructor
    · intro hs
      rcases hs with ⟨q1, q2, -⟩ | ⟨q1, q2, -⟩ | ⟨-, -, hq⟩
      · omega
      · omega
      · have q0 : (97 : Int) = b (i + 0) := hq.2.2.2 0 (by decide) (by decide)
        have q1 : (110 : Int) = b (i + 1) := hq.2.2.2 1 (by decide) (by decide)
        have q2 : (100 : Int) = b (i + 2) := hq.2.2.2 2 (by decide) (by decide)
        omega
    · intro hs
      refine Or.inr (Or.inr ⟨by decide, by decide, by decide, by decide, by decide +kernel, fun k h1 h2 => ?_⟩)
      rcases (show k = 0 ∨ k = 1 ∨ k = 2 by omega) with rfl | rfl | rfl
      · show (97 : Int) = b (i + 0)
        omega
      · show (110 : Int) = b (i + 1)
        omega
      · show (100 : Int) = b (i + 2)
        omega
  · show Sp29 b i ((3 : Nat) : Int) ((20 : Nat) : Int) ↔ wW b i 3 = 7237492
    constructor
    · intro hs
      rcases hs with ⟨q1, q2, -⟩ | ⟨q1, q2, -⟩ | ⟨-, -, hq⟩
      · omega
      · omega
      · have q0 : (110 : Int) = b (i + 0) := hq.2.2.2 0 (by decide) (by decide)
        have q1 : (111 : Int) = b (i + 1) := hq.2.2.2 1 (by decide) (by decide)
        have q2 : (116 : Int) = b (i + 2) := hq.2.2.2 2 (by decide) (by decide)
        omega
    · intro hs
      refine Or.inr (Or.inr ⟨by decide, by decide, by decide, by decide, by decide +kernel, fun k h1 h2 => ?_⟩)
      rcases (show k = 0 ∨ k = 1 ∨ k = 2 by omega) with rfl | rfl | rfl
      · show (110 : Int) = b (i + 0)
        omega
      · show (111 : Int) = b (i + 1)
        omega
      · show (116 : Int) = b (i + 2)
        omega
  · show Sp29 b i ((3 : Nat) : Int) ((21 : Nat) : Int) ↔ wW b i 3 = 27973166868030820
    constructor
    · intro hs
      rcases hs with ⟨q1, q2, -⟩ | ⟨q1, q2, -⟩ | ⟨-, -, hq⟩
      · omega
      · omega
      · exact absurd hq.2.2.1 (by decide +kernel)
    · intro hs
      exact absurd hs (by omega)
  · show Sp29 b i ((3 : Nat) : Int) ((22 : Nat) : Int) ↔ wW b i 3 = 1819242085
    constructor
    · intro hs
      rcases hs with ⟨q1, q2, -⟩ | ⟨q1, q2, -⟩ | ⟨-, -, hq⟩
      · omega
      · omega
      · exact absurd hq.2.2.1 (by decide +kernel)
    · intro hs
      exact absurd hs (by omega)
  · show Sp29 b i ((3 : Nat) : Int) ((23 : Nat) : Int) ↔ wW b i 3 = 6840691
    constructor
    · intro hs
      rcases hs with ⟨q1, q2, -⟩ | ⟨q1, q2, -⟩ | ⟨-, -, hq⟩
      · omega
      · omega
      · have q0 : (104 : Int) = b (i + 0) := hq.2.2.2 0 (by decide) (by decide)
        have q1 : (97 : Int) = b (i + 1) := hq.2.2.2 1 (by decide) (by decide)
        have q2 : (115 : Int) = b (i + 2) := hq.2.2.2 2 (by decide) (by decide)
        omega
    · intro hs
      refine Or.inr (Or.inr ⟨by decide, by decide, by decide, by decide, by decide +kernel, fun k h1 h2 => ?_⟩)
      rcases (show k = 0 ∨ k = 1 ∨ k = 2 by omega) with rfl | rfl | rfl
      · show (104 : Int) = b (i + 0)
        omega
      · show (97 : Int) = b (i + 1)
        omega
      · show (115 : Int) = b (i + 2)
        omega
  · show Sp29 b i ((3 : Nat) : Int) ((24 : Nat) : Int) ↔ wW b i 3 = 24948
    constructor
    · intro hs
      rcases hs with ⟨q1, q2, -⟩ | ⟨q1, q2, -⟩ | ⟨-, -, hq⟩
      · omega
      · omega
      · have q : (32 : Int) = b (i + 2) := hq.2.2.2 2 (by decide) (by decide)
        omega
    · intro hs
      exact absurd hs (by omega)
  · show Sp29 b i ((3 : Nat) : Int) ((25 : Nat) : Int) ↔ wW b i 3 = 2003399784
    constructor
    · intro hs
      rcases hs with ⟨q1, q2, -⟩ | ⟨q1, q2, -⟩ | ⟨-, -, hq⟩
      · omega
      · omega
      · exact absurd hq.2.2.1 (by decide +kernel)
    · intro hs
      exact absurd hs (by omega)
  · show Sp29 b i ((3 : Nat) : Int) ((26 : Nat) : Int) ↔ wW b i 3 = 469786323827
    constructor
    · intro hs
      rcases hs with ⟨q1, q2, -⟩ | ⟨q1, q2, -⟩ | ⟨-, -, hq⟩
      · omega
      · omega
      · exact absurd hq.2.2.1 (by decide +kernel)
    · intro hs
      exact absurd hs (by omega)
  · show Sp29 b i ((3 : Nat) : Int) ((27 : Nat) : Int) ↔ wW b i 3 = 474080961892
    constructor
    · intro hs
      rcases hs with ⟨q1, q2, -⟩ | ⟨q1, q2, -⟩ | ⟨-, -, hq⟩
      · omega
      · omega
      · exact absurd hq.2.2.1 (by decide +kernel)
    · intro hs
      exact absurd hs (by omega)
  · show Sp29 b i ((3 : Nat) : Int) ((28 : Nat) : Int) ↔ wW b i 3 = 121450625394034
    constructor
    · intro hs
      rcases hs with ⟨q1, q2, -⟩ | ⟨q1, q2, -⟩ | ⟨-, -, hq⟩
      · omega
      · omega
      · exact absurd hq.2.2.1 (by decide +kernel)
    · intro hs
      exact absurd hs (by omega)
theorem spw_4 (h : ∀ k : Nat, k < 4 → isL (b (i + k))) : ∀ w : Nat, w < 29 → (Sp29 b i ((4 : Nat) : Int) (w : Int) ↔ wW b i 4 = RC w) := by
  have c0 : 97 ≤ b (i + 0) ∧ b (i + 0) ≤ 122 := h 0 (by omega)
  have c1 : 97 ≤ b (i + 1) ∧ b (i + 1) ≤ 122 := h 1 (by omega)
  have c2 : 97 ≤ b (i + 2) ∧ b (i + 2) ≤ 122 := h 2 (by omega)
  have c3 : 97 ≤ b (i + 3) ∧ b (i + 3) ≤ 122 := h 3 (by omega)
  have e0 : wW b i 0 = 0 := rfl
  have e1 : wW b i 1 = wW b i 0 * 256 + b (i + 0) := wW_succ (m := 0) (by omega) (fun k hk => h k (by omega))
  have e2 : wW b i 2 = wW b i 1 * 256 + b (i + 1) := wW_succ (m := 1) (by omega) (fun k hk => h k (by omega))
  have e3 : wW b i 3 = wW b i 2 * 256 + b (i + 2) := wW_succ (m := 2) (by omega) (fun k hk => h k (by omega))
  have e4 : wW b i 4 = wW b i 3 * 256 + b (i + 3) := wW_succ (m := 3) (by omega) (fun k hk => h k (by omega))
  intro w hw
  rcases (show w = 0 ∨ w = 1 ∨ w = 2 ∨ w = 3 ∨ w = 4 ∨ w = 5 ∨ w = 6 ∨ w = 7 ∨ w = 8 ∨ w = 9 ∨ w = 10 ∨ w = 11 ∨ w = 12 ∨ w = 13 ∨ w = 14 ∨ w = 15 ∨ w = 16 ∨ w = 17 ∨ w = 18 ∨ w = 19 ∨ w = 20 ∨ w = 21 ∨ w = 22 ∨ w = 23 ∨ w = 24 ∨ w = 25 ∨ w = 26 ∨ w = 27 ∨ w = 28 by omega) with rfl | rfl | rfl | rfl | rfl | rfl | rfl | rfl | rfl | rfl | rfl | rfl | rfl | rfl | rfl | rfl | rfl | rfl | rfl | rfl | rfl | rfl | rfl | rfl | rfl | rfl | rfl | rfl | rfl
  · show Sp29 b i ((4 : Nat) : Int) ((0 : Nat) : Int) ↔ wW b i 4 = 482854658917
    constructor
    · intro hs
      rcases hs with ⟨-, -, hq⟩ | ⟨q1, q2, -⟩ | ⟨q1, q2, -⟩
      · exact absurd hq.2.2.1 (by decide +kernel)
      · omega
      · omega
    · intro hs
      exact absurd hs (by omega)
  · show Sp29 b i ((4 : Nat) : Int) ((1 : Nat) : Int) ↔ wW b i 4 = 1835102827
    constructor
    · intro hs
      rcases hs with ⟨-, -, hq⟩ | ⟨q1, q2, -⟩ | ⟨q1, q2, -⟩
      · have q0 : (109 : Int) = b (i + 0) := hq.2.2.2 0 (by decide) (by decide)
        have q1 : (97 : Int) = b (i + 1) := hq.2.2.2 1 (by decide) (by decide)
        have q2 : (114 : Int) = b (i + 2) := hq.2.2.2 2 (by decide) (by decide)
        have q3 : (107 : Int) = b (i + 3) := hq.2.2.2 3 (by decide) (by decide)
        omega
      · omega
      · omega
    · intro hs
      refine Or.inl ⟨by decide, by decide, by decide, by decide, by decide +kernel, fun k h1 h2 => ?_⟩
      rcases (show k = 0 ∨ k = 1 ∨ k = 2 ∨ k = 3 by omega) with rfl | rfl | rfl | rfl
      · show (109 : Int) = b (i + 0)
        omega
      · show (97 : Int) = b (i + 1)
        omega
      · show (114 : Int) = b (i + 2)
        omega
      · show (107 : Int) = b (i + 3)
        omega
  · show Sp29 b i ((4 : Nat) : Int) ((2 : Nat) : Int) ↔ wW b i 4 = 499967946343
    constructor
    · intro hs
      rcases hs with ⟨-, -, hq⟩ | ⟨q1, q2, -⟩ | ⟨q1, q2, -⟩
      · exact absurd hq.2.2.1 (by decide +kernel)
      · omega
      · omega
    · intro hs
      exact absurd hs (by omega)
  · show Sp29 b i ((4 : Nat) : Int) ((3 : Nat) : Int) ↔ wW b i 4 = 123581014175598
    constructor
    · intro hs
      rcases hs with ⟨-, -, hq⟩ | ⟨q1, q2, -⟩ | ⟨q1, q2, -⟩
      · exact absurd hq.2.2.1 (by decide +kernel)
      · omega
      · omega
    · intro hs
      exact absurd hs (by omega)
  · show Sp29 b i ((4 : Nat) : Int) ((4 : Nat) : Int) ↔ wW b i 4 = 1718185573
    constructor
    · intro hs
      rcases hs with ⟨-, -, hq⟩ | ⟨q1, q2, -⟩ | ⟨q1, q2, -⟩
      · have q0 : (102 : Int) = b (i + 0) := hq.2.2.2 0 (by decide) (by decide)
        have q1 : (105 : Int) = b (i + 1) := hq.2.2.2 1 (by decide) (by decide)
        have q2 : (110 : Int) = b (i + 2) := hq.2.2.2 2 (by decide) (by decide)
        have q3 : (101 : Int) = b (i + 3) := hq.2.2.2 3 (by decide) (by decide)
        omega
      · omega
      · omega
    · intro hs
      refine Or.inl ⟨by decide, by decide, by decide, by decide, by decide +kernel, fun k h1 h2 => ?_⟩
      rcases (show k = 0 ∨ k = 1 ∨ k = 2 ∨ k = 3 by omega) with rfl | rfl | rfl | rfl
      · show (102 : Int) = b (i + 0)
        omega
      · show (105 : Int) = b (i + 1)
        omega
      · show (110 : Int) = b (i + 2)
        omega
      · show (101 : Int) = b (i + 3)
        omega
  · show Sp29 b i ((4 : Nat) : Int) ((5 : Nat) : Int) ↔ wW b i 4 = 1835627621
    constructor
    · intro hs
      rcases hs with ⟨-, -, hq⟩ | ⟨q1, q2, -⟩ | ⟨q1, q2, -⟩
      · have q0 : (109 : Int) = b (i + 0) := hq.2.2.2 0 (by decide) (by decide)
        have q1 : (105 : Int) = b (i + 1) := hq.2.2.2 1 (by decide) (by decide)
        have q2 : (116 : Int) = b (i + 2) := hq.2.2.2 2 (by decide) (by decide)
        have q3 : (101 : Int) = b (i + 3) := hq.2.2.2 3 (by decide) (by decide)
        omega
      · omega
      · omega
    · intro hs
      refine Or.inl ⟨by decide, by decide, by decide, by decide, by decide +kernel, fun k h1 h2 => ?_⟩
      rcases (show k = 0 ∨ k = 1 ∨ k = 2 ∨ k = 3 by omega) with rfl | rfl | rfl | rfl
      · show (109 : Int) = b (i + 0)
        omega
      · show (105 : Int) = b (i + 1)
        omega
      · show (116 : Int) = b (i + 2)
        omega
      · show (101 : Int) = b (i + 3)
        omega
  · show Sp29 b i ((4 : Nat) : Int) ((6 : Nat) : Int) ↔ wW b i 4 = 2002872165
    constructor
    · intro hs
      rcases hs with ⟨-, -, hq⟩ | ⟨q1, q2, -⟩ | ⟨q1, q2, -⟩
      · have q0 : (119 : Int) = b (i + 0) := hq.2.2.2 0 (by decide) (by decide)
        have q1 : (97 : Int) = b (i + 1) := hq.2.2.2 1 (by decide) (by decide)
        have q2 : (103 : Int) = b (i + 2) := hq.2.2.2 2 (by decide) (by decide)
        have q3 : (101 : Int) = b (i + 3) := hq.2.2.2 3 (by decide) (by decide)
        omega
      · omega
      · omega
    · intro hs
      refine Or.inl ⟨by decide, by decide, by decide, by decide, by decide +kernel, fun k h1 h2 => ?_⟩
      rcases (show k = 0 ∨ k = 1 ∨ k = 2 ∨ k = 3 by omega) with rfl | rfl | rfl | rfl
      · show (119 : Int) = b (i + 0)
        omega
      · show (97 : Int) = b (i + 1)
        omega
      · show (103 : Int) = b (i + 2)
        omega
      · show (101 : Int) = b (i + 3)
        omega
  · show Sp29 b i ((4 : Nat) : Int) ((7 : Nat) : Int) ↔ wW b i 4 = 1717662580
    constructor
    · intro hs
      rcases hs with ⟨-, -, hq⟩ | ⟨q1, q2, -⟩ | ⟨q1, q2, -⟩
      · have q0 : (102 : Int) = b (i + 0) := hq.2.2.2 0 (by decide) (by decide)
        have q1 : (97 : Int) = b (i + 1) := hq.2.2.2 1 (by decide) (by decide)
        have q2 : (115 : Int) = b (i + 2) := hq.2.2.2 2 (by decide) (by decide)
        have q3 : (116 : Int) = b (i + 3) := hq.2.2.2 3 (by decide) (by decide)
        omega
      · omega
      · omega
    · intro hs
      refine Or.inl ⟨by decide, by decide, by decide, by decide, by decide +kernel, fun k h1 h2 => ?_⟩
      rcases (show k = 0 ∨ k = 1 ∨ k = 2 ∨ k = 3 by omega) with rfl | rfl | rfl | rfl
      · show (102 : Int) = b (i + 0)
        omega
      · show (97 : Int) = b (i + 1)
        omega
      · show (115 : Int) = b (i + 2)
        omega
      · show (116 : Int) = b (i + 3)
        omega
  · show Sp29 b i ((4 : Nat) : Int) ((8 : Nat) : Int) ↔ wW b i 4 = 26995
    constructor
    · intro hs
      rcases hs with ⟨-, -, hq⟩ | ⟨q1, q2, -⟩ | ⟨q1, q2, -⟩
      · have q : (32 : Int) = b (i + 2) := hq.2.2.2 2 (by decide) (by decide)
        omega
      · omega
      · omega
    · intro hs
      exact absurd hs (by omega)
  · show Sp29 b i ((4 : Nat) : Int) ((9 : Nat) : Int) ↔ wW b i 4 = 461414299507
    constructor
    · intro hs
      rcases hs with ⟨-, -, hq⟩ | ⟨q1, q2, -⟩ | ⟨q1, q2, -⟩
      · exact absurd hq.2.2.1 (by decide +kernel)
      · omega
      · omega
    · intro hs
      exact absurd hs (by omega)
  · show Sp29 b i ((4 : Nat) : Int) ((10 : Nat) : Int) ↔ wW b i 4 = 28832984742848366
    constructor
    · intro hs
      rcases hs with ⟨-, -, hq⟩ | ⟨q1, q2, -⟩ | ⟨q1, q2, -⟩
      · exact absurd hq.2.2.1 (by decide +kernel)
      · omega
      · omega
    · intro hs
      exact absurd hs (by omega)
  · show Sp29 b i ((4 : Nat) : Int) ((11 : Nat) : Int) ↔ wW b i 4 = 1735353715
    constructor
    · intro hs
      rcases hs with ⟨q1, q2, -⟩ | ⟨-, -, hq⟩ | ⟨q1, q2, -⟩
      · omega
      · have q0 : (103 : Int) = b (i + 0) := hq.2.2.2 0 (by decide) (by decide)
        have q1 : (111 : Int) = b (i + 1) := hq.2.2.2 1 (by decide) (by decide)
        have q2 : (101 : Int) = b (i + 2) := hq.2.2.2 2 (by decide) (by decide)
        have q3 : (115 : Int) = b (i + 3) := hq.2.2.2 3 (by decide) (by decide)
        omega
      · omega
    · intro hs
      refine Or.inr (Or.inl ⟨by decide, by decide, by decide, by decide, by decide +kernel, fun k h1 h2 => ?_⟩)
      rcases (show k = 0 ∨ k = 1 ∨ k = 2 ∨ k = 3 by omega) with rfl | rfl | rfl | rfl
      · show (103 : Int) = b (i + 0)
        omega
      · show (111 : Int) = b (i + 1)
        omega
      · show (101 : Int) = b (i + 2)
        omega
      · show (115 : Int) = b (i + 3)
        omega
  · show Sp29 b i ((4 : Nat) : Int) ((12 : Nat) : Int) ↔ wW b i 4 = 1634954099
    constructor
    · intro hs
      rcases hs with ⟨q1, q2, -⟩ | ⟨-, -, hq⟩ | ⟨q1, q2, -⟩
      · omega
      · have q0 : (97 : Int) = b (i + 0) := hq.2.2.2 0 (by decide) (by decide)
        have q1 : (115 : Int) = b (i + 1) := hq.2.2.2 1 (by decide) (by decide)
        have q2 : (107 : Int) = b (i + 2) := hq.2.2.2 2 (by decide) (by decide)
        have q3 : (115 : Int) = b (i + 3) := hq.2.2.2 3 (by decide) (by decide)
        omega
      · omega
    · intro hs
      refine Or.inr (Or.inl ⟨by decide, by decide, by decide, by decide, by decide +kernel, fun k h1 h2 => ?_⟩)
      rcases (show k = 0 ∨ k = 1 ∨ k = 2 ∨ k = 3 by omega) with rfl | rfl | rfl | rfl
      · show (97 : Int) = b (i + 0)
        omega
      · show (115 : Int) = b (i + 1)
        omega
      · show (107 : Int) = b (i + 2)
        omega
      · show (115 : Int) = b (i + 3)
        omega
  · show Sp29 b i ((4 : Nat) : Int) ((13 : Nat) : Int) ↔ wW b i 4 = 474080961907
    constructor
    · intro hs
      rcases hs with ⟨q1, q2, -⟩ | ⟨-, -, hq⟩ | ⟨q1, q2, -⟩
      · omega
      · exact absurd hq.2.2.1 (by decide +kernel)
      · omega
    · intro hs
      exact absurd hs (by omega)
  · show Sp29 b i ((4 : Nat) : Int) ((14 : Nat) : Int) ↔ wW b i 4 = 123623812527219
    constructor
    · intro hs
      rcases hs with ⟨q1, q2, -⟩ | ⟨-, -, hq⟩ | ⟨q1, q2, -⟩
      · omega
      · exact absurd hq.2.2.1 (by decide +kernel)
      · omega
    · intro hs
      exact absurd hs (by omega)
  · show Sp29 b i ((4 : Nat) : Int) ((15 : Nat) : Int) ↔ wW b i 4 = 1886745715
    constructor
    · intro hs
      rcases hs with ⟨q1, q2, -⟩ | ⟨-, -, hq⟩ | ⟨q1, q2, -⟩
      · omega
      · have q0 : (112 : Int) = b (i + 0) := hq.2.2.2 0 (by decide) (by decide)
        have q1 : (117 : Int) = b (i + 1) := hq.2.2.2 1 (by decide) (by decide)
        have q2 : (116 : Int) = b (i + 2) := hq.2.2.2 2 (by decide) (by decide)
        have q3 : (115 : Int) = b (i + 3) := hq.2.2.2 3 (by decide) (by decide)
        omega
      · omega
    · intro hs
      refine Or.inr (Or.inl ⟨by decide, by decide, by decide, by decide, by decide +kernel, fun k h1 h2 => ?_⟩)
      rcases (show k = 0 ∨ k = 1 ∨ k = 2 ∨ k = 3 by omega) with rfl | rfl | rfl | rfl
      · show (112 : Int) = b (i + 0)
        omega
      · show (117 : Int) = b (i + 1)
        omega
      · show (116 : Int) = b (i + 2)
        omega
      · show (115 : Int) = b (i + 3)
        omega
  · show Sp29 b i ((4 : Nat) : Int) ((16 : Nat) : Int) ↔ wW b i 4 = 119182682386035
    constructor
    · intro hs
      rcases hs with ⟨q1, q2, -⟩ | ⟨-, -, hq⟩ | ⟨q1, q2, -⟩
      · omega
      · exact absurd hq.2.2.1 (by decide +kernel)
      · omega
    · intro hs
      exact absurd hs (by omega)
  · show Sp29 b i ((4 : Nat) : Int) ((17 : Nat) : Int) ↔ wW b i 4 = 6578553
    constructor
    · intro hs
      rcases hs with ⟨q1, q2, -⟩ | ⟨-, -, hq⟩ | ⟨q1, q2, -⟩
      · omega
      · have q : (32 : Int) = b (i + 3) := hq.2.2.2 3 (by decide) (by decide)
        omega
      · omega
    · intro hs
      exact absurd hs (by omega)
  · show Sp29 b i ((4 : Nat) : Int) ((18 : Nat) : Int) ↔ wW b i 4 = 28530
    constructor
    · intro hs
      rcases hs with ⟨q1, q2, -⟩ | ⟨q1, q2, -⟩ | ⟨-, -, hq⟩
      · omega
      · omega
      · have q : (32 : Int) = b (i + 2) := hq.2.2.2 2 (by decide) (by decide)
        omega
    · intro hs
      exact absurd hs (by omega)
  · show Sp29 b i ((4 : Nat) : Int) ((19 : Nat) : Int) ↔ wW b i 4 = 6385252
    constructor
    · intro hs
      rcases hs with ⟨q1, q2, -⟩ | ⟨q1, q2, -⟩ | ⟨-, -, hq⟩
      · omega
      · omega
      · have q : (32 : Int) = b (i + 3) := hq.2.2.2 3 (by decide) (by decide)
        omega
    · intro hs
      exact absurd hs (by omega)
  · show Sp29 b i ((4 : Nat) : Int) ((20 : Nat) : Int) ↔ wW b i 4 = 7237492
    constructor
    · intro hs
      rcases hs with ⟨q1, q2, -⟩ | ⟨q1, q2, -⟩ | ⟨-, -, hq⟩
      · omega
      · omega
      · have q : (32 : Int) = b (i + 3) := hq.2.2.2 3 (by decide) (by decide)
        omega
    · intro hs
      exact absurd hs (by omega)
  · show Sp29 b i ((4 : Nat) : Int) ((21 : Nat) : Int) ↔ wW b i 4 = 27973166868030820
    constructor
    · intro hs
      rcases hs with ⟨q1, q2, -⟩ | ⟨q1, q2, -⟩ | ⟨-, -, hq⟩
      · omega
      · omega
      · exact absurd hq.2.2.1 (by decide +kernel)
    · intro hs
      exact absurd hs (by omega)
  · show Sp29 b i ((4 : Nat) : Int) ((22 : Nat) : Int) ↔ wW b i 4 = 1819242085
    constructor
    · intro hs
      rcases hs with ⟨q1, q2, -⟩ | ⟨q1, q2, -⟩ | ⟨-, -, hq⟩
      · omega
      · omega
      · have q0 : (108 : Int) = b (i + 0) := hq.2.2.2 0 (by decide) (by decide)
        have q1 : (111 : Int) = b (i + 1) := hq.2.2.2 1 (by decide) (by decide)
        have q2 : (110 : Int) = b (i + 2) := hq.2.2.2 2 (by decide) (by decide)
        have q3 : (101 : Int) = b (i + 3) := hq.2.2.2 3 (by decide) (by decide)
        omega
    · intro hs
      refine Or.inr (Or.inr ⟨by decide, by decide, by decide, by decide, by decide +kernel, fun k h1 h2 => ?_⟩)
      rcases (show k = 0 ∨ k = 1 ∨ k = 2 ∨ k = 3 by omega) with rfl | rfl | rfl | rfl
      · show (108 : Int) = b (i + 0)
        omega
      · show (111 : Int) = b (i + 1)
        omega
      · show (110 : Int) = b (i + 2)
        omega
      · show (101 : Int) = b (i + 3)
        omega
  · show Sp29 b i ((4 : Nat) : Int) ((23 : Nat) : Int) ↔ wW b i 4 = 6840691
    constructor
    · intro hs
      rcases hs with ⟨q1, q2, -⟩ | ⟨q1, q2, -⟩ | ⟨-, -, hq⟩
      · omega
      · omega
      · have q : (32 : Int) = b (i + 3) := hq.2.2.2 3 (by decide) (by decide)
        omega
    · intro hs
      exact absurd hs (by omega)
  · show Sp29 b i ((4 : Nat) : Int) ((24 : Nat) : Int) ↔ wW b i 4 = 24948
    constructor
    · intro hs
      rcases hs with ⟨q1, q2, -⟩ | ⟨q1, q2, -⟩ | ⟨-, -, hq⟩
      · omega
      · omega
      · have q : (32 : Int) = b (i + 2) := hq.2.2.2 2 (by decide) (by decide)
        omega
    · intro hs
      exact absurd hs (by omega)
  · show Sp29 b i ((4 : Nat) : Int) ((25 : Nat) : Int) ↔ wW b i 4 = 2003399784
    constructor
    · intro hs
      rcases hs with ⟨q1, q2, -⟩ | ⟨q1, q2, -⟩ | ⟨-, -, hq⟩
      · omega
      · omega
      · have q0 : (119 : Int) = b (i + 0) := hq.2.2.2 0 (by decide) (by decide)
        have q1 : (105 : Int) = b (i + 1) := hq.2.2.2 1 (by decide) (by decide)
        have q2 : (116 : Int) = b (i + 2) := hq.2.2.2 2 (by decide) (by decide)
        have q3 : (104 : Int) = b (i + 3) := hq.2.2.2 3 (by decide) (by decide)
        omega
    · intro hs
      refine Or.inr (Or.inr ⟨by decide, by decide, by decide, by decide, by decide +kernel, fun k h1 h2 => ?_⟩)
      rcases (show k = 0 ∨ k = 1 ∨ k = 2 ∨ k = 3 by omega) with rfl | rfl | rfl | rfl
      · show (119 : Int) = b (i + 0)
        omega
      · show (105 : Int) = b (i + 1)
        omega
      · show (116 : Int) = b (i + 2)
        omega
      · show (104 : Int) = b (i + 3)
        omega
  · show Sp29 b i ((4 : Nat) : Int) ((26 : Nat) : Int) ↔ wW b i 4 = 469786323827
    constructor
    · intro hs
      rcases hs with ⟨q1, q2, -⟩ | ⟨q1, q2, -⟩ | ⟨-, -, hq⟩
      · omega
      · omega
      · exact absurd hq.2.2.1 (by decide +kernel)
    · intro hs
      exact absurd hs (by omega)
  · show Sp29 b i ((4 : Nat) : Int) ((27 : Nat) : Int) ↔ wW b i 4 = 474080961892
    constructor
    · intro hs
      rcases hs with ⟨q1, q2, -⟩ | ⟨q1, q2, -⟩ | ⟨-, -, hq⟩
      · omega
      · omega
      · exact absurd hq.2.2.1 (by decide +kernel)
    · intro hs
      exact absurd hs (by omega)
  · show Sp29 b i ((4 : Nat) : Int) ((28 : Nat) : Int) ↔ wW b i 4 = 121450625394034
    constructor
    · intro hs
      rcases hs with ⟨q1, q2, -⟩ | ⟨q1, q2, -⟩ | ⟨-, -, hq⟩
      · omega
      · omega
      · exact absurd hq.2.2.1 (by decide +kernel)
    · intro hs
      exact absurd hs (by omega)
theorem spw_5 (h : ∀ k : Nat, k < 5 → isL (b (i + k))) : ∀ w : Nat, w < 29 → (Sp29 b i ((5 : Nat) : Int) (w : Int) ↔ wW b i 5 = RC w) := by
  have c0 : 97 ≤ b (i + 0) ∧ b (i + 0) ≤ 122 := h 0 (by omega)
  have c1 : 97 ≤ b (i + 1) ∧ b (i + 1) ≤ 122 := h 1 (by omega)
  have c2 : 97 ≤ b (i + 2) ∧ b (i + 2) ≤ 122 := h 2 (by omega)
  have c3 : 97 ≤ b (i + 3) ∧ b (i + 3) ≤ 122 := h 3 (by omega)
  have c4 : 97 ≤ b (i + 4) ∧ b (i + 4) ≤ 122 := h 4 (by omega)
  have e0 : wW b i 0 = 0 := rfl
  have e1 : wW b i 1 = wW b i 0 * 256 + b (i + 0) := wW_succ (m := 0) (by omega) (fun k hk => h k (by omega))
  have e2 : wW b i 2 = wW b i 1 * 256 + b (i + 1) := wW_succ (m := 1) (by omega) (fun k hk => h k (by omega))
  have e3 : wW b i 3 = wW b i 2 * 256 + b (i + 2) := wW_succ (m := 2) (by omega) (fun k hk => h k (by omega))
  have e4 : wW b i 4 = wW b i 3 * 256 + b (i + 3) := wW_succ (m := 3) (by omega) (fun k hk => h k (by omega))
  have e5 : wW b i 5 = wW b i 4 * 256 + b (i + 4) := wW_succ (m := 4) (by omega) (fun k hk => h k (by omega))
  intro w hw
  rcases (show w = 0 ∨ w = 1 ∨ w = 2 ∨ w = 3 ∨ w = 4 ∨ w = 5 ∨ w = 6 ∨ w = 7 ∨ w = 8 ∨ w = 9 ∨ w = 10 ∨ w = 11 ∨ w = 12 ∨ w = 13 ∨ w = 14 ∨ w = 15 ∨ w = 16 ∨ w = 17 ∨ w = 18 ∨ w = 19 ∨ w = 20 ∨ w = 21 ∨ w = 22 ∨ w = 23 ∨ w = 24 ∨ w = 25 ∨ w = 26 ∨ w = 27 ∨ w = 28 by omega) with rfl | rfl | rfl | rfl | rfl | rfl | rfl | rfl | rfl | rfl | rfl | rfl | rfl | rfl | rfl | rfl | rfl | rfl | rfl | rfl | rfl | rfl | rfl | rfl | rfl | rfl | rfl | rfl | rfl
  · show Sp29 b i ((5 : Nat) : Int) ((0 : Nat) : Int) ↔ wW b i 5 = 482854658917
    constructor
    · intro hs
      rcases hs with ⟨-, -, hq⟩ | ⟨q1, q2, -⟩ | ⟨q1, q2, -⟩
      · have q0 : (112 : Int) = b (i + 0) := hq.2.2.2 0 (by decide) (by decide)
        have q1 : (108 : Int) = b (i + 1) := hq.2.2.2 1 (by decide) (by decide)
        have q2 : (97 : Int) = b (i + 2) := hq.2.2.2 2 (by decide) (by decide)
        have q3 : (99 : Int) = b (i + 3) := hq.2.2.2 3 (by decide) (by decide)
        have q4 : (101 : Int) = b (i + 4) := hq.2.2.2 4 (by decide) (by decide)
        omega
      · omega
      · omega
    · intro hs
      refine Or.inl ⟨by decide, by decide, by decide, by decide, by decide +kernel, fun k h1 h2 => ?_⟩
      rcases (show k = 0 ∨ k = 1 ∨ k = 2 ∨ k = 3 ∨ k = 4 by omega) with rfl | rfl | rfl | rfl | rfl
      · show (112 : Int) = b (i + 0)
        omega
      · show (108 : Int) = b (i + 1)
        omega
      · show (97 : Int) = b (i + 2)
        omega
      · show (99 : Int) = b (i + 3)
        omega
      · show (101 : Int) = b (i + 4)
        omega
  · show Sp29 b i ((5 : Nat) : Int) ((1 : Nat) : Int) ↔ wW b i 5 = 1835102827
    constructor
    · intro hs
      rcases hs with ⟨-, -, hq⟩ | ⟨q1, q2, -⟩ | ⟨q1, q2, -⟩
      · have q : (32 : Int) = b (i + 4) := hq.2.2.2 4 (by decide) (by decide)
        omega
      · omega
      · omega
    · intro hs
      exact absurd hs (by omega)
  · show Sp29 b i ((5 : Nat) : Int) ((2 : Nat) : Int) ↔ wW b i 5 = 499967946343
    constructor
    · intro hs
      rcases hs with ⟨-, -, hq⟩ | ⟨q1, q2, -⟩ | ⟨q1, q2, -⟩
      · have q0 : (116 : Int) = b (i + 0) := hq.2.2.2 0 (by decide) (by decide)
        have q1 : (104 : Int) = b (i + 1) := hq.2.2.2 1 (by decide) (by decide)
        have q2 : (105 : Int) = b (i + 2) := hq.2.2.2 2 (by decide) (by decide)
        have q3 : (110 : Int) = b (i + 3) := hq.2.2.2 3 (by decide) (by decide)
        have q4 : (103 : Int) = b (i + 4) := hq.2.2.2 4 (by decide) (by decide)
        omega
      · omega
      · omega
    · intro hs
      refine Or.inl ⟨by decide, by decide, by decide, by decide, by decide +kernel, fun k h1 h2 => ?_⟩
      rcases (show k = 0 ∨ k = 1 ∨ k = 2 ∨ k = 3 ∨ k = 4 by omega) with rfl | rfl | rfl | rfl | rfl
      · show (116 : Int) = b (i + 0)
        omega
      · show (104 : Int) = b (i + 1)
        omega
      · show (105 : Int) = b (i + 2)
        omega
      · show (110 : Int) = b (i + 3)
        omega
      · show (103 : Int) = b (i + 4)
        omega
  · show Sp29 b i ((5 : Nat) : Int) ((3 : Nat) : Int) ↔ wW b i 5 = 123581014175598
    constructor
    · intro hs
      rcases hs with ⟨-, -, hq⟩ | ⟨q1, q2, -⟩ | ⟨q1, q2, -⟩
      · exact absurd hq.2.2.1 (by decide +kernel)
      · omega
      · omega
    · intro hs
      exact absurd hs (by omega)
  · show Sp29 b i ((5 : Nat) : Int) ((4 : Nat) : Int) ↔ wW b i 5 = 1718185573
    constructor
    · intro hs
      rcases hs with ⟨-, -, hq⟩ | ⟨q1, q2, -⟩ | ⟨q1, q2, -⟩
      · have q : (32 : Int) = b (i + 4) := hq.2.2.2 4 (by decide) (by decide)
        omega
      · omega
      · omega
    · intro hs
      exact absurd hs (by omega)
  · show Sp29 b i ((5 : Nat) : Int) ((5 : Nat) : Int) ↔ wW b i 5 = 1835627621
    constructor
    · intro hs
      rcases hs with ⟨-, -, hq⟩ | ⟨q1, q2, -⟩ | ⟨q1, q2, -⟩
      · have q : (32 : Int) = b (i + 4) := hq.2.2.2 4 (by decide) (by decide)
        omega
      · omega
      · omega
    · intro hs
      exact absurd hs (by omega)
  · show Sp29 b i ((5 : Nat) : Int) ((6 : Nat) : Int) ↔ wW b i 5 = 2002872165
    constructor
    · intro hs
      rcases hs with ⟨-, -, hq⟩ | ⟨q1, q2, -⟩ | ⟨q1, q2, -⟩
      · have q : (32 : Int) = b (i + 4) := hq.2.2.2 4 (by decide) (by decide)
        omega
      · omega
      · omega
    · intro hs
      exact absurd hs (by omega)
  · show Sp29 b i ((5 : Nat) : Int) ((7 : Nat) : Int) ↔ wW b i 5 = 1717662580
    constructor
    · intro hs
      rcases hs with ⟨-, -, hq⟩ | ⟨q1, q2, -⟩ | ⟨q1, q2, -⟩
      · have q : (32 : Int) = b (i + 4) := hq.2.2.2 4 (by decide) (by decide)
        omega
      · omega
      · omega
    · intro hs
      exact absurd hs (by omega)
  · show Sp29 b i ((5 : Nat) : Int) ((8 : Nat) : Int) ↔ wW b i 5 = 26995
    constructor
    · intro hs
      rcases hs with ⟨-, -, hq⟩ | ⟨q1, q2, -⟩ | ⟨q1, q2, -⟩
      · have q : (32 : Int) = b (i + 2) := hq.2.2.2 2 (by decide) (by decide)
        omega
      · omega
      · omega
    · intro hs
      exact absurd hs (by omega)
  · show Sp29 b i ((5 : Nat) : Int) ((9 : Nat) : Int) ↔ wW b i 5 = 461414299507
    constructor
    · intro hs
      rcases hs with ⟨-, -, hq⟩ | ⟨q1, q2, -⟩ | ⟨q1, q2, -⟩
      · have q0 : (107 : Int) = b (i + 0) := hq.2.2.2 0 (by decide) (by decide)
        have q1 : (110 : Int) = b (i + 1) := hq.2.2.2 1 (by decide) (by decide)
        have q2 : (111 : Int) = b (i + 2) := hq.2.2.2 2 (by decide) (by decide)
        have q3 : (119 : Int) = b (i + 3) := hq.2.2.2 3 (by decide) (by decide)
        have q4 : (115 : Int) = b (i + 4) := hq.2.2.2 4 (by decide) (by decide)
        omega
      · omega
      · omega
    · intro hs
      refine Or.inl ⟨by decide, by decide, by decide, by decide, by decide +kernel, fun k h1 h2 => ?_⟩
      rcases (show k = 0 ∨ k = 1 ∨ k = 2 ∨ k = 3 ∨ k = 4 by omega) with rfl | rfl | rfl | rfl | rfl
      · show (107 : Int) = b (i + 0)
        omega
      · show (110 : Int) = b (i + 1)
        omega
      · show (111 : Int) = b (i + 2)
        omega
      · show (119 : Int) = b (i + 3)
        omega
      · show (115 : Int) = b (i + 4)
        omega
  · show Sp29 b i ((5 : Nat) : Int) ((10 : Nat) : Int) ↔ wW b i 5 = 28832984742848366
    constructor
    · intro hs
      rcases hs with ⟨-, -, hq⟩ | ⟨q1, q2, -⟩ | ⟨q1, q2, -⟩
      · exact absurd hq.2.2.1 (by decide +kernel)
      · omega
      · omega
    · intro hs
      exact absurd hs (by omega)
  · show Sp29 b i ((5 : Nat) : Int) ((11 : Nat) : Int) ↔ wW b i 5 = 1735353715
    constructor
    · intro hs
      rcases hs with ⟨q1, q2, -⟩ | ⟨-, -, hq⟩ | ⟨q1, q2, -⟩
      · omega
      · have q : (32 : Int) = b (i + 4) := hq.2.2.2 4 (by decide) (by decide)
        omega
      · omega
    · intro hs
      exact absurd hs (by omega)
  · show Sp29 b i ((5 : Nat) : Int) ((12 : Nat) : Int) ↔ wW b i 5 = 1634954099
    constructor
    · intro hs
      rcases hs with ⟨q1, q2, -⟩ | ⟨-, -, hq⟩ | ⟨q1, q2, -⟩
      · omega
      · have q : (32 : Int) = b (i + 4) := hq.2.2.2 4 (by decide) (by decide)
        omega
      · omega
    · intro hs
      exact absurd hs (by omega)
  · show Sp29 b i ((5 : Nat) : Int) ((13 : Nat) : Int) ↔ wW b i 5 = 474080961907
    constructor
    · intro hs
      rcases hs with ⟨q1, q2, -⟩ | ⟨-, -, hq⟩ | ⟨q1, q2, -⟩
      · omega
      · have q0 : (110 : Int) = b (i + 0) := hq.2.2.2 0 (by decide) (by decide)
        have q1 : (97 : Int) = b (i + 1) := hq.2.2.2 1 (by decide) (by decide)
        have q2 : (109 : Int) = b (i + 2) := hq.2.2.2 2 (by decide) (by decide)
        have q3 : (101 : Int) = b (i + 3) := hq.2.2.2 3 (by decide) (by decide)
        have q4 : (115 : Int) = b (i + 4) := hq.2.2.2 4 (by decide) (by decide)
        omega
      · omega
    · intro hs
      refine Or.inr (Or.inl ⟨by decide, by decide, by decide, by decide, by decide +kernel, fun k h1 h2 => ?_⟩)
      rcases (show k = 0 ∨ k = 1 ∨ k = 2 ∨ k = 3 ∨ k = 4 by omega) with rfl | rfl | rfl | rfl | rfl
      · show (110 : Int) = b (i + 0)
        omega
      · show (97 : Int) = b (i + 1)
        omega
      · show (109 : Int) = b (i + 2)
        omega
      · show (101 : Int) = b (i + 3)
        omega
      · show (115 : Int) = b (i + 4)
        omega
  · show Sp29 b i ((5 : Nat) : Int) ((14 : Nat) : Int) ↔ wW b i 5 = 123623812527219
    constructor
    · intro hs
      rcases hs with ⟨q1, q2, -⟩ | ⟨-, -, hq⟩ | ⟨q1, q2, -⟩
      · omega
      · exact absurd hq.2.2.1 (by decide +kernel)
      · omega
    · intro hs
      exact absurd hs (by omega)
  · show Sp29 b i ((5 : Nat) : Int) ((15 : Nat) : Int) ↔ wW b i 5 = 1886745715
    constructor
    · intro hs
      rcases hs with ⟨q1, q2, -⟩ | ⟨-, -, hq⟩ | ⟨q1, q2, -⟩
      · omega
      · have q : (32 : Int) = b (i + 4) := hq.2.2.2 4 (by decide) (by decide)
        omega
      · omega
    · intro hs
      exact absurd hs (by omega)
  · show Sp29 b i ((5 : Nat) : Int) ((16 : Nat) : Int) ↔ wW b i 5 = 119182682386035
    constructor
    · intro hs
      rcases hs with ⟨q1, q2, -⟩ | ⟨-, -, hq⟩ | ⟨q1, q2, -⟩
      · omega
      · exact absurd hq.2.2.1 (by decide +kernel)
      · omega
    · intro hs
      exact absurd hs (by omega)
  · show Sp29 b i ((5 : Nat) : Int) ((17 : Nat) : Int) ↔ wW b i 5 = 6578553
    constructor
    · intro hs
      rcases hs with ⟨q1, q2, -⟩ | ⟨-, -, hq⟩ | ⟨q1, q2, -⟩
      · omega
      · have q : (32 : Int) = b (i + 3) := hq.2.2.2 3 (by decide) (by decide)
        omega
      · omega
    · intro hs
      exact absurd hs (by omega)
  · show Sp29 b i ((5 : Nat) : Int) ((18 : Nat) : Int) ↔ wW b i 5 = 28530
    constructor
    · intro hs
      rcases hs with ⟨q1, q2, -⟩ | ⟨q1, q2, -⟩ | ⟨-, -, hq⟩
      · omega
      · omega
      · have q : (32 : Int) = b (i + 2) := hq.2.2.2 2 (by decide) (by decide)
        omega
    · intro hs
      exact absurd hs (by omega)
  · show Sp29 b i ((5 : Nat) : Int) ((19 : Nat) : Int) ↔ wW b i 5 = 6385252
    constructor
    · intro hs
      rcases hs with ⟨q1, q2, -⟩ | ⟨q1, q2, -⟩ | ⟨-, -, hq⟩
      · omega
      · omega
      · have q : (32 : Int) = b (i + 3) := hq.2.2.2 3 (by decide) (by decide)
        omega
    · intro hs
      exact absurd hs (by omega)
  · show Sp29 b i ((5 : Nat) : Int) ((20 : Nat) : Int) ↔ wW b i 5 = 7237492
    constructor
    · intro hs
      rcases hs with ⟨q1, q2, -⟩ | ⟨q1, q2, -⟩ | ⟨-, -, hq⟩
      · omega
      · omega
      · have q : (32 : Int) = b (i + 3) := hq.2.2.2 3 (by decide) (by decide)
        omega
    · intro hs
      exact absurd hs (by omega)
  · show Sp29 b i ((5 : Nat) : Int) ((21 : Nat) : Int) ↔ wW b i 5 = 27973166868030820
    constructor
    · intro hs
      rcases hs with ⟨q1, q2, -⟩ | ⟨q1, q2, -⟩ | ⟨-, -, hq⟩
      · omega
      · omega
      · exact absurd hq.2.2.1 (by decide +kernel)
    · intro hs
      exact absurd hs (by omega)
  · show Sp29 b i ((5 : Nat) : Int) ((22 : Nat) : Int) ↔ wW b i 5 = 1819242085
    constructor
    · intro hs
      rcases hs with ⟨q1, q2, -⟩ | ⟨q1, q2, -⟩ | ⟨-, -, hq⟩
      · omega
      · omega
      · have q : (32 : Int) = b (i + 4) := hq.2.2.2 4 (by decide) (by decide)
        omega
    · intro hs
      exact absurd hs (by omega)
  · show Sp29 b i ((5 : Nat) : Int) ((23 : Nat) : Int) ↔ wW b i 5 = 6840691
    constructor
    · intro hs
      rcases hs with ⟨q1, q2, -⟩ | ⟨q1, q2, -⟩ | ⟨-, -, hq⟩
      · omega
      · omega
      · have q : (32 : Int) = b (i + 3) := hq.2.2.2 3 (by decide) (by decide)
        omega
    · intro hs
      exact absurd hs (by omega)
  · show Sp29 b i ((5 : Nat) : Int) ((24 : Nat) : Int) ↔ wW b i 5 = 24948
    constructor
    · intro hs
      rcases hs with ⟨q1, q2, -⟩ | ⟨q1, q2, -⟩ | ⟨-, -, hq⟩
      · omega
      · omega
      · have q : (32 : Int) = b (i + 2) := hq.2.2.2 2 (by decide) (by decide)
        omega
    · intro hs
      exact absurd hs (by omega)
  · show Sp29 b i ((5 : Nat) : Int) ((25 : Nat) : Int) ↔ wW b i 5 = 2003399784
    constructor
    · intro hs
      rcases hs with ⟨q1, q2, -⟩ | ⟨q1, q2, -⟩ | ⟨-, -, hq⟩
      · omega
      · omega
      · have q : (32 : Int) = b (i + 4) := hq.2.2.2 4 (by decide) (by decide)
        omega
    · intro hs
      exact absurd hs (by omega)
  · show Sp29 b i ((5 : Nat) : Int) ((26 : Nat) : Int) ↔ wW b i 5 = 469786323827
    constructor
    · intro hs
      rcases hs with ⟨q1, q2, -⟩ | ⟨q1, q2, -⟩ | ⟨-, -, hq⟩
      · omega
      · omega
      · have q0 : (109 : Int) = b (i + 0) := hq.2.2.2 0 (by decide) (by decide)
        have q1 : (97 : Int) = b (i + 1) := hq.2.2.2 1 (by decide) (by decide)
        have q2 : (114 : Int) = b (i + 2) := hq.2.2.2 2 (by decide) (by decide)
        have q3 : (107 : Int) = b (i + 3) := hq.2.2.2 3 (by decide) (by decide)
        have q4 : (115 : Int) = b (i + 4) := hq.2.2.2 4 (by decide) (by decide)
        omega
    · intro hs
      refine Or.inr (Or.inr ⟨by decide, by decide, by decide, by decide, by decide +kernel, fun k h1 h2 => ?_⟩)
      rcases (show k = 0 ∨ k = 1 ∨ k = 2 ∨ k = 3 ∨ k = 4 by omega) with rfl | rfl | rfl | rfl | rfl
      · show (109 : Int) = b (i + 0)
        omega
      · show (97 : Int) = b (i + 1)
        omega
      · show (114 : Int) = b (i + 2)
        omega
      · show (107 : Int) = b (i + 3)
        omega
      · show (115 : Int) = b (i + 4)
        omega
  · show Sp29 b i ((5 : Nat) : Int) ((27 : Nat) : Int) ↔ wW b i 5 = 474080961892
    constructor
    · intro hs
      rcases hs with ⟨q1, q2, -⟩ | ⟨q1, q2, -⟩ | ⟨-, -, hq⟩
      · omega
      · omega
      · have q0 : (110 : Int) = b (i + 0) := hq.2.2.2 0 (by decide) (by decide)
        have q1 : (97 : Int) = b (i + 1) := hq.2.2.2 1 (by decide) (by decide)
        have q2 : (109 : Int) = b (i + 2) := hq.2.2.2 2 (by decide) (by decide)
        have q3 : (101 : Int) = b (i + 3) := hq.2.2.2 3 (by decide) (by decide)
        have q4 : (100 : Int) = b (i + 4) := hq.2.2.2 4 (by decide) (by decide)
        omega
    · intro hs
      refine Or.inr (Or.inr ⟨by decide, by decide, by decide, by decide, by decide +kernel, fun k h1 h2 => ?_⟩)
      rcases (show k = 0 ∨ k = 1 ∨ k = 2 ∨ k = 3 ∨ k = 4 by omega) with rfl | rfl | rfl | rfl | rfl
      · show (110 : Int) = b (i + 0)
        omega
      · show (97 : Int) = b (i + 1)
        omega
      · show (109 : Int) = b (i + 2)
        omega
      · show (101 : Int) = b (i + 3)
        omega
      · show (100 : Int) = b (i + 4)
        omega
  · show Sp29 b i ((5 : Nat) : Int) ((28 : Nat) : Int) ↔ wW b i 5 = 121450625394034
    constructor
    · intro hs
      rcases hs with ⟨q1, q2, -⟩ | ⟨q1, q2, -⟩ | ⟨-, -, hq⟩
      · omega
      · omega
      · exact absurd hq.2.2.1 (by decide +kernel)
    · intro hs
      exact absurd hs (by omega)
theorem spw_6 (h : ∀ k : Nat, k < 6 → isL (b (i + k))) : ∀ w : Nat, w < 29 → (Sp29 b i ((6 : Nat) : Int) (w : Int) ↔ wW b i 6 = RC w) := by
  have c0 : 97 ≤ b (i + 0) ∧ b (i + 0) ≤ 122 := h 0 (by omega)
  have c1 : 97 ≤ b (i + 1) ∧ b (i + 1) ≤ 122 := h 1 (by omega)
  have c2 : 97 ≤ b (i + 2) ∧ b (i + 2) ≤ 122 := h 2 (by omega)
  have c3 : 97 ≤ b (i + 3) ∧ b (i + 3) ≤ 122 := h 3 (by omega)
  have c4 : 97 ≤ b (i + 4) ∧ b (i + 4) ≤ 122 := h 4 (by omega)
  have c5 : 97 ≤ b (i + 5) ∧ b (i + 5) ≤ 122 := h 5 (by omega)
  have e0 : wW b i 0 = 0 := rfl
  have e1 : wW b i 1 = wW b i 0 * 256 + b (i + 0) := wW_succ (m := 0) (by omega) (fun k hk => h k (by omega))
  have e2 : wW b i 2 = wW b i 1 * 256 + b (i + 1) := wW_succ (m := 1) (by omega) (fun k hk => h k (by omega))
  have e3 : wW b i 3 = wW b i 2 * 256 + b (i + 2) := wW_succ (m := 2) (by omega) (fun k hk => h k (by omega))
  have e4 : wW b i 4 = wW b i 3 * 256 + b (i + 3) := wW_succ (m := 3) (by omega) (fun k hk => h k (by omega))
  have e5 : wW b i 5 = wW b i 4 * 256 + b (i + 4) := wW_succ (m := 4) (by omega) (fun k hk => h k (by omega))
  have e6 : wW b i 6 = wW b i 5 * 256 + b (i + 5) := wW_succ (m := 5) (by omega) (fun k hk => h k (by omega))
  intro w hw
  rcases (show w = 0 ∨ w = 1 ∨ w = 2 ∨ w = 3 ∨ w = 4 ∨ w = 5 ∨ w = 6 ∨ w = 7 ∨ w = 8 ∨ w = 9 ∨ w = 10 ∨ w = 11 ∨ w = 12 ∨ w = 13 ∨ w = 14 ∨ w = 15 ∨ w = 16 ∨ w = 17 ∨ w = 18 ∨ w = 19 ∨ w = 20 ∨ w = 21 ∨ w = 22 ∨ w = 23 ∨ w = 24 ∨ w = 25 ∨ w = 26 ∨ w = 27 ∨ w = 28 by omega) with rfl | rfl | rfl | rfl | rfl | rfl | rfl | rfl | rfl | rfl | rfl | rfl | rfl | rfl | rfl | rfl | rfl | rfl | rfl | rfl | rfl | rfl | rfl | rfl | rfl | rfl | rfl | rfl | rfl
  · show Sp29 b i ((6 : Nat) : Int) ((0 : Nat) : Int) ↔ wW b i 6 = 482854658917
    constructor
    · intro hs
      rcases hs with ⟨-, -, hq⟩ | ⟨q1, q2, -⟩ | ⟨q1, q2, -⟩
      · have q : (32 : Int) = b (i + 5) := hq.2.2.2 5 (by decide) (by decide)
        omega
      · omega
      · omega
    · intro hs
      exact absurd hs (by omega)
  · show Sp29 b i ((6 : Nat) : Int) ((1 : Nat) : Int) ↔ wW b i 6 = 1835102827
    constructor
    · intro hs
      rcases hs with ⟨-, -, hq⟩ | ⟨q1, q2, -⟩ | ⟨q1, q2, -⟩
      · have q : (32 : Int) = b (i + 4) := hq.2.2.2 4 (by decide) (by decide)
        omega
      · omega
      · omega
    · intro hs
      exact absurd hs (by omega)
  · show Sp29 b i ((6 : Nat) : Int) ((2 : Nat) : Int) ↔ wW b i 6 = 499967946343
    constructor
    · intro hs
      rcases hs with ⟨-, -, hq⟩ | ⟨q1, q2, -⟩ | ⟨q1, q2, -⟩
      · have q : (32 : Int) = b (i + 5) := hq.2.2.2 5 (by decide) (by decide)
        omega
      · omega
      · omega
    · intro hs
      exact absurd hs (by omega)
  · show Sp29 b i ((6 : Nat) : Int) ((3 : Nat) : Int) ↔ wW b i 6 = 123581014175598
    constructor
    · intro hs
      rcases hs with ⟨-, -, hq⟩ | ⟨q1, q2, -⟩ | ⟨q1, q2, -⟩
      · have q0 : (112 : Int) = b (i + 0) := hq.2.2.2 0 (by decide) (by decide)
        have q1 : (101 : Int) = b (i + 1) := hq.2.2.2 1 (by decide) (by decide)
        have q2 : (114 : Int) = b (i + 2) := hq.2.2.2 2 (by decide) (by decide)
        have q3 : (115 : Int) = b (i + 3) := hq.2.2.2 3 (by decide) (by decide)
        have q4 : (111 : Int) = b (i + 4) := hq.2.2.2 4 (by decide) (by decide)
        have q5 : (110 : Int) = b (i + 5) := hq.2.2.2 5 (by decide) (by decide)
        omega
      · omega
      · omega
    · intro hs
      refine Or.inl ⟨by decide, by decide, by decide, by decide, by decide +kernel, fun k h1 h2 => ?_⟩
      rcases (show k = 0 ∨ k = 1 ∨ k = 2 ∨ k = 3 ∨ k = 4 ∨ k = 5 by omega) with rfl | rfl | rfl | rfl | rfl | rfl
      · show (112 : Int) = b (i + 0)
        omega
      · show (101 : Int) = b (i + 1)
        omega
      · show (114 : Int) = b (i + 2)
        omega
      · show (115 : Int) = b (i + 3)
        omega
      · show (111 : Int) = b (i + 4)
        omega
      · show (110 : Int) = b (i + 5)
        omega
  · show Sp29 b i ((6 : Nat) : Int) ((4 : Nat) : Int) ↔ wW b i 6 = 1718185573
    constructor
    · intro hs
      rcases hs with ⟨-, -, hq⟩ | ⟨q1, q2, -⟩ | ⟨q1, q2, -⟩
      · have q : (32 : Int) = b (i + 4) := hq.2.2.2 4 (by decide) (by decide)
        omega
      · omega
      · omega
    · intro hs
      exact absurd hs (by omega)
  · show Sp29 b i ((6 : Nat) : Int) ((5 : Nat) : Int) ↔ wW b i 6 = 1835627621
    constructor
    · intro hs
      rcases hs with ⟨-, -, hq⟩ | ⟨q1, q2, -⟩ | ⟨q1, q2, -⟩
      · have q : (32 : Int) = b (i + 4) := hq.2.2.2 4 (by decide) (by decide)
        omega
      · omega
      · omega
    · intro hs
      exact absurd hs (by omega)
  · show Sp29 b i ((6 : Nat) : Int) ((6 : Nat) : Int) ↔ wW b i 6 = 2002872165
    constructor
    · intro hs
      rcases hs with ⟨-, -, hq⟩ | ⟨q1, q2, -⟩ | ⟨q1, q2, -⟩
      · have q : (32 : Int) = b (i + 4) := hq.2.2.2 4 (by decide) (by decide)
        omega
      · omega
      · omega
    · intro hs
      exact absurd hs (by omega)
  · show Sp29 b i ((6 : Nat) : Int) ((7 : Nat) : Int) ↔ wW b i 6 = 1717662580
    constructor
    · intro hs
      rcases hs with ⟨-, -, hq⟩ | ⟨q1, q2, -⟩ | ⟨q1, q2, -⟩
      · have q : (32 : Int) = b (i + 4) := hq.2.2.2 4 (by decide) (by decide)
        omega
      · omega
      · omega
    · intro hs
      exact absurd hs (by omega)
  · show Sp29 b i ((6 : Nat) : Int) ((8 : Nat) : Int) ↔ wW b i 6 = 26995
    constructor
    · intro hs
      rcases hs with ⟨-, -, hq⟩ | ⟨q1, q2, -⟩ | ⟨q1, q2, -⟩
      · have q : (32 : Int) = b (i + 2) := hq.2.2.2 2 (by decide) (by decide)
        omega
      · omega
      · omega
    · intro hs
      exact absurd hs (by omega)
  · show Sp29 b i ((6 : Nat) : Int) ((9 : Nat) : Int) ↔ wW b i 6 = 461414299507
    constructor
    · intro hs
      rcases hs with ⟨-, -, hq⟩ | ⟨q1, q2, -⟩ | ⟨q1, q2, -⟩
      · have q : (32 : Int) = b (i + 5) := hq.2.2.2 5 (by decide) (by decide)
        omega
      · omega
      · omega
    · intro hs
      exact absurd hs (by omega)
  · show Sp29 b i ((6 : Nat) : Int) ((10 : Nat) : Int) ↔ wW b i 6 = 28832984742848366
    constructor
    · intro hs
      rcases hs with ⟨-, -, hq⟩ | ⟨q1, q2, -⟩ | ⟨q1, q2, -⟩
      · exact absurd hq.2.2.1 (by decide +kernel)
      · omega
      · omega
    · intro hs
      exact absurd hs (by omega)
  · show Sp29 b i ((6 : Nat) : Int) ((11 : Nat) : Int) ↔ wW b i 6 = 1735353715
    constructor
    · intro hs
      rcases hs with ⟨q1, q2, -⟩ | ⟨-, -, hq⟩ | ⟨q1, q2, -⟩
      · omega
      · have q : (32 : Int) = b (i + 4) := hq.2.2.2 4 (by decide) (by decide)
        omega
      · omega
    · intro hs
      exact absurd hs (by omega)
  · show Sp29 b i ((6 : Nat) : Int) ((12 : Nat) : Int) ↔ wW b i 6 = 1634954099
    constructor
    · intro hs
      rcases hs with ⟨q1, q2, -⟩ | ⟨-, -, hq⟩ | ⟨q1, q2, -⟩
      · omega
      · have q : (32 : Int) = b (i + 4) := hq.2.2.2 4 (by decide) (by decide)
        omega
      · omega
    · intro hs
      exact absurd hs (by omega)
  · show Sp29 b i ((6 : Nat) : Int) ((13 : Nat) : Int) ↔ wW b i 6 = 474080961907
    constructor
    · intro hs
      rcases hs with ⟨q1, q2, -⟩ | ⟨-, -, hq⟩ | ⟨q1, q2, -⟩
      · omega
      · have q : (32 : Int) = b (i + 5) := hq.2.2.2 5 (by decide) (by decide)
        omega
      · omega
    · intro hs
      exact absurd hs (by omega)
  · show Sp29 b i ((6 : Nat) : Int) ((14 : Nat) : Int) ↔ wW b i 6 = 123623812527219
    constructor
    · intro hs
      rcases hs with ⟨q1, q2, -⟩ | ⟨-, -, hq⟩ | ⟨q1, q2, -⟩
      · omega
      · have q0 : (112 : Int) = b (i + 0) := hq.2.2.2 0 (by decide) (by decide)
        have q1 : (111 : Int) = b (i + 1) := hq.2.2.2 1 (by decide) (by decide)
        have q2 : (105 : Int) = b (i + 2) := hq.2.2.2 2 (by decide) (by decide)
        have q3 : (110 : Int) = b (i + 3) := hq.2.2.2 3 (by decide) (by decide)
        have q4 : (116 : Int) = b (i + 4) := hq.2.2.2 4 (by decide) (by decide)
        have q5 : (115 : Int) = b (i + 5) := hq.2.2.2 5 (by decide) (by decide)
        omega
      · omega
    · intro hs
      refine Or.inr (Or.inl ⟨by decide, by decide, by decide, by decide, by decide +kernel, fun k h1 h2 => ?_⟩)
      rcases (show k = 0 ∨ k = 1 ∨ k = 2 ∨ k = 3 ∨ k = 4 ∨ k = 5 by omega) with rfl | rfl | rfl | rfl | rfl | rfl
      · show (112 : Int) = b (i + 0)
        omega
      · show (111 : Int) = b (i + 1)
        omega
      · show (105 : Int) = b (i + 2)
        omega
      · show (110 : Int) = b (i + 3)
        omega
      · show (116 : Int) = b (i + 4)
        omega
      · show (115 : Int) = b (i + 5)
        omega
  · show Sp29 b i ((6 : Nat) : Int) ((15 : Nat) : Int) ↔ wW b i 6 = 1886745715
    constructor
    · intro hs
      rcases hs with ⟨q1, q2, -⟩ | ⟨-, -, hq⟩ | ⟨q1, q2, -⟩
      · omega
      · have q : (32 : Int) = b (i + 4) := hq.2.2.2 4 (by decide) (by decide)
        omega
      · omega
    · intro hs
      exact absurd hs (by omega)
  · show Sp29 b i ((6 : Nat) : Int) ((16 : Nat) : Int) ↔ wW b i 6 = 119182682386035
    constructor
    · intro hs
      rcases hs with ⟨q1, q2, -⟩ | ⟨-, -, hq⟩ | ⟨q1, q2, -⟩
      · omega
      · have q0 : (108 : Int) = b (i + 0) := hq.2.2.2 0 (by decide) (by decide)
        have q1 : (101 : Int) = b (i + 1) := hq.2.2.2 1 (by decide) (by decide)
        have q2 : (97 : Int) = b (i + 2) := hq.2.2.2 2 (by decide) (by decide)
        have q3 : (114 : Int) = b (i + 3) := hq.2.2.2 3 (by decide) (by decide)
        have q4 : (110 : Int) = b (i + 4) := hq.2.2.2 4 (by decide) (by decide)
        have q5 : (115 : Int) = b (i + 5) := hq.2.2.2 5 (by decide) (by decide)
        omega
      · omega
    · intro hs
      refine Or.inr (Or.inl ⟨by decide, by decide, by decide, by decide, by decide +kernel, fun k h1 h2 => ?_⟩)
      rcases (show k = 0 ∨ k = 1 ∨ k = 2 ∨ k = 3 ∨ k = 4 ∨ k = 5 by omega) with rfl | rfl | rfl | rfl | rfl | rfl
      · show (108 : Int) = b (i + 0)
        omega
      · show (101 : Int) = b (i + 1)
        omega
      · show (97 : Int) = b (i + 2)
        omega
      · show (114 : Int) = b (i + 3)
        omega
      · show (110 : Int) = b (i + 4)
        omega
      · show (115 : Int) = b (i + 5)
        omega
  · show Sp29 b i ((6 : Nat) : Int) ((17 : Nat) : Int) ↔ wW b i 6 = 6578553
    constructor
    · intro hs
      rcases hs with ⟨q1, q2, -⟩ | ⟨-, -, hq⟩ | ⟨q1, q2, -⟩
      · omega
      · have q : (32 : Int) = b (i + 3) := hq.2.2.2 3 (by decide) (by decide)
        omega
      · omega
    · intro hs
      exact absurd hs (by omega)
  · show Sp29 b i ((6 : Nat) : Int) ((18 : Nat) : Int) ↔ wW b i 6 = 28530
    constructor
    · intro hs
      rcases hs with ⟨q1, q2, -⟩ | ⟨q1, q2, -⟩ | ⟨-, -, hq⟩
      · omega
      · omega
      · have q : (32 : Int) = b (i + 2) := hq.2.2.2 2 (by decide) (by decide)
        omega
    · intro hs
      exact absurd hs (by omega)
  · show Sp29 b i ((6 : Nat) : Int) ((19 : Nat) : Int) ↔ wW b i 6 = 6385252
    constructor
    · intro hs
      rcases hs with ⟨q1, q2, -⟩ | ⟨q1, q2, -⟩ | ⟨-, -, hq⟩
      · omega
      · omega
      · have q : (32 : Int) = b (i + 3) := hq.2.2.2 3 (by decide) (by decide)
        omega
    · intro hs
      exact absurd hs (by omega)
  · show Sp29 b i ((6 : Nat) : Int) ((20 : Nat) : Int) ↔ wW b i 6 = 7237492
    constructor
    · intro hs
      rcases hs with ⟨q1, q2, -⟩ | ⟨q1, q2, -⟩ | ⟨-, -, hq⟩
      · omega
      · omega
      · have q : (32 : Int) = b (i + 3) := hq.2.2.2 3 (by decide) (by decide)
        omega
    · intro hs
      exact absurd hs (by omega)
  · show Sp29 b i ((6 : Nat) : Int) ((21 : Nat) : Int) ↔ wW b i 6 = 27973166868030820
    constructor
    · intro hs
      rcases hs with ⟨q1, q2, -⟩ | ⟨q1, q2, -⟩ | ⟨-, -, hq⟩
      · omega
      · omega
      · exact absurd hq.2.2.1 (by decide +kernel)
    · intro hs
      exact absurd hs (by omega)
  · show Sp29 b i ((6 : Nat) : Int) ((22 : Nat) : Int) ↔ wW b i 6 = 1819242085
    constructor
    · intro hs
      rcases hs with ⟨q1, q2, -⟩ | ⟨q1, q2, -⟩ | ⟨-, -, hq⟩
      · omega
      · omega
      · have q : (32 : Int) = b (i + 4) := hq.2.2.2 4 (by decide) (by decide)
        omega
    · intro hs
      exact absurd hs (by omega)
  · show Sp29 b i ((6 : Nat) : Int) ((23 : Nat) : Int) ↔ wW b i 6 = 6840691
    constructor
    · intro hs
      rcases hs with ⟨q1, q2, -⟩ | ⟨q1, q2, -⟩ | ⟨-, -, hq⟩
      · omega
      · omega
      · have q : (32 : Int) = b (i + 3) := hq.2.2.2 3 (by decide) (by decide)
        omega
    · intro hs
      exact absurd hs (by omega)
  · show Sp29 b i ((6 : Nat) : Int) ((24 : Nat) : Int) ↔ wW b i 6 = 24948
    constructor
    · intro hs
      rcases hs with ⟨q1, q2, -⟩ | ⟨q1, q2, -⟩ | ⟨-, -, hq⟩
      · omega
      · omega
      · have q : (32 : Int) = b (i + 2) := hq.2.2.2 2 (by decide) (by decide)
        omega
    · intro hs
      exact absurd hs (by omega)
  · show Sp29 b i ((6 : Nat) : Int) ((25 : Nat) : Int) ↔ wW b i 6 = 2003399784
    constructor
    · intro hs
      rcases hs with ⟨q1, q2, -⟩ | ⟨q1, q2, -⟩ | ⟨-, -, hq⟩
      · omega
      · omega
      · have q : (32 : Int) = b (i + 4) := hq.2.2.2 4 (by decide) (by decide)
        omega
    · intro hs
      exact absurd hs (by omega)
  · show Sp29 b i ((6 : Nat) : Int) ((26 : Nat) : Int) ↔ wW b i 6 = 469786323827
    constructor
    · intro hs
      rcases hs with ⟨q1, q2, -⟩ | ⟨q1, q2, -⟩ | ⟨-, -, hq⟩
      · omega
      · omega
      · have q : (32 : Int) = b (i + 5) := hq.2.2.2 5 (by decide) (by decide)
        omega
    · intro hs
      exact absurd hs (by omega)
  · show Sp29 b i ((6 : Nat) : Int) ((27 : Nat) : Int) ↔ wW b i 6 = 474080961892
    constructor
    · intro hs
      rcases hs with ⟨q1, q2, -⟩ | ⟨q1, q2, -⟩ | ⟨-, -, hq⟩
      · omega
      · omega
      · have q : (32 : Int) = b (i + 5) := hq.2.2.2 5 (by decide) (by decide)
        omega
    · intro hs
      exact absurd hs (by omega)
  · show Sp29 b i ((6 : Nat) : Int) ((28 : Nat) : Int) ↔ wW b i 6 = 121450625394034
    constructor
    · intro hs
      rcases hs with ⟨q1, q2, -⟩ | ⟨q1, q2, -⟩ | ⟨-, -, hq⟩
      · omega
      · omega
      · have q0 : (110 : Int) = b (i + 0) := hq.2.2.2 0 (by decide) (by decide)
        have q1 : (117 : Int) = b (i + 1) := hq.2.2.2 1 (by decide) (by decide)
        have q2 : (109 : Int) = b (i + 2) := hq.2.2.2 2 (by decide) (by decide)
        have q3 : (98 : Int) = b (i + 3) := hq.2.2.2 3 (by decide) (by decide)
        have q4 : (101 : Int) = b (i + 4) := hq.2.2.2 4 (by decide) (by decide)
        have q5 : (114 : Int) = b (i + 5) := hq.2.2.2 5 (by decide) (by decide)
        omega
    · intro hs
      refine Or.inr (Or.inr ⟨by decide, by decide, by decide, by decide, by decide +kernel, fun k h1 h2 => ?_⟩)
      rcases (show k = 0 ∨ k = 1 ∨ k = 2 ∨ k = 3 ∨ k = 4 ∨ k = 5 by omega) with rfl | rfl | rfl | rfl | rfl | rfl
      · show (110 : Int) = b (i + 0)
        omega
      · show (117 : Int) = b (i + 1)
        omega
      · show (109 : Int) = b (i + 2)
        omega
      · show (98 : Int) = b (i + 3)
        omega
      · show (101 : Int) = b (i + 4)
        omega
      · show (114 : Int) = b (i + 5)
        omega
theorem spw_7 (h : ∀ k : Nat, k < 7 → isL (b (i + k))) : ∀ w : Nat, w < 29 → (Sp29 b i ((7 : Nat) : Int) (w : Int) ↔ wW b i 7 = RC w) := by
  have c0 : 97 ≤ b (i + 0) ∧ b (i + 0) ≤ 122 := h 0 (by omega)
  have c1 : 97 ≤ b (i + 1) ∧ b (i + 1) ≤ 122 := h 1 (by omega)
  have c2 : 97 ≤ b (i + 2) ∧ b (i + 2) ≤ 122 := h 2 (by omega)
  have c3 : 97 ≤ b (i + 3) ∧ b (i + 3) ≤ 122 := h 3 (by omega)
  have c4 : 97 ≤ b (i + 4) ∧ b (i + 4) ≤ 122 := h 4 (by omega)
  have c5 : 97 ≤ b (i + 5) ∧ b (i + 5) ≤ 122 := h 5 (by omega)
  have c6 : 97 ≤ b (i + 6) ∧ b (i + 6) ≤ 122 := h 6 (by omega)
  have e0 : wW b i 0 = 0 := rfl
  have e1 : wW b i 1 = wW b i 0 * 256 + b (i + 0) := wW_succ (m := 0) (by omega) (fun k hk => h k (by omega))
  have e2 : wW b i 2 = wW b i 1 * 256 + b (i + 1) := wW_succ (m := 1) (by omega) (fun k hk => h k (by omega))
  have e3 : wW b i 3 = wW b i 2 * 256 + b (i + 2) := wW_succ (m := 2) (by omega) (fun k hk => h k (by omega))
  have e4 : wW b i 4 = wW b i 3 * 256 + b (i + 3) := wW_succ (m := 3) (by omega) (fun k hk => h k (by omega))
  have e5 : wW b i 5 = wW b i 4 * 256 + b (i + 4) := wW_succ (m := 4) (by omega) (fun k hk => h k (by omega))
  have e6 : wW b i 6 = wW b i 5 * 256 + b (i + 5) := wW_succ (m := 5) (by omega) (fun k hk => h k (by omega))
  have e7 : wW b i 7 = wW b i 6 * 256 + b (i + 6) := wW_succ (m := 6) (by omega) (fun k hk => h k (by omega))
  intro w hw
  rcases (show w = 0 ∨ w = 1 ∨ w = 2 ∨ w = 3 ∨ w = 4 ∨ w = 5 ∨ w = 6 ∨ w = 7 ∨ w = 8 ∨ w = 9 ∨ w = 10 ∨ w = 11 ∨ w = 12 ∨ w = 13 ∨ w = 14 ∨ w = 15 ∨ w = 16 ∨ w = 17 ∨ w = 18 ∨ w = 19 ∨ w = 20 ∨ w = 21 ∨ w = 22 ∨ w = 23 ∨ w = 24 ∨ w = 25 ∨ w = 26 ∨ w = 27 ∨ w = 28 by omega) with rfl | rfl | rfl | rfl | rfl | rfl | rfl | rfl | rfl | rfl | rfl | rfl | rfl | rfl | rfl | rfl | rfl | rfl | rfl | rfl | rfl | rfl | rfl | rfl | rfl | rfl | rfl | rfl | rfl
  · show Sp29 b i ((7 : Nat) : Int) ((0 : Nat) : Int) ↔ wW b i 7 = 482854658917
    constructor
    · intro hs
      rcases hs with ⟨-, -, hq⟩ | ⟨q1, q2, -⟩ | ⟨q1, q2, -⟩
      · have q : (32 : Int) = b (i + 5) := hq.2.2.2 5 (by decide) (by decide)
        omega
      · omega
      · omega
    · intro hs
      exact absurd hs (by omega)
  · show Sp29 b i ((7 : Nat) : Int) ((1 : Nat) : Int) ↔ wW b i 7 = 1835102827
    constructor
    · intro hs
      rcases hs with ⟨-, -, hq⟩ | ⟨q1, q2, -⟩ | ⟨q1, q2, -⟩
      · have q : (32 : Int) = b (i + 4) := hq.2.2.2 4 (by decide) (by decide)
        omega
      · omega
      · omega
    · intro hs
      exact absurd hs (by omega)
  · show Sp29 b i ((7 : Nat) : Int) ((2 : Nat) : Int) ↔ wW b i 7 = 499967946343
    constructor
    · intro hs
      rcases hs with ⟨-, -, hq⟩ | ⟨q1, q2, -⟩ | ⟨q1, q2, -⟩
      · have q : (32 : Int) = b (i + 5) := hq.2.2.2 5 (by decide) (by decide)
        omega
      · omega
      · omega
    · intro hs
      exact absurd hs (by omega)
  · show Sp29 b i ((7 : Nat) : Int) ((3 : Nat) : Int) ↔ wW b i 7 = 123581014175598
    constructor
    · intro hs
      rcases hs with ⟨-, -, hq⟩ | ⟨q1, q2, -⟩ | ⟨q1, q2, -⟩
      · have q : (32 : Int) = b (i + 6) := hq.2.2.2 6 (by decide) (by decide)
        omega
      · omega
      · omega
    · intro hs
      exact absurd hs (by omega)
  · show Sp29 b i ((7 : Nat) : Int) ((4 : Nat) : Int) ↔ wW b i 7 = 1718185573
    constructor
    · intro hs
      rcases hs with ⟨-, -, hq⟩ | ⟨q1, q2, -⟩ | ⟨q1, q2, -⟩
      · have q : (32 : Int) = b (i + 4) := hq.2.2.2 4 (by decide) (by decide)
        omega
      · omega
      · omega
    · intro hs
      exact absurd hs (by omega)
  · show Sp29 b i ((7 : Nat) : Int) ((5 : Nat) : Int) ↔ wW b i 7 = 1835627621
    constructor
    · intro hs
      rcases hs with ⟨-, -, hq⟩ | ⟨q1, q2, -⟩ | ⟨q1, q2, -⟩
      · have q : (32 : Int) = b (i + 4) := hq.2.2.2 4 (by decide) (by decide)
        omega
      · omega
      · omega
    · intro hs
      exact absurd hs (by omega)
  · show Sp29 b i ((7 : Nat) : Int) ((6 : Nat) : Int) ↔ wW b i 7 = 2002872165
    constructor
    · intro hs
      rcases hs with ⟨-, -, hq⟩ | ⟨q1, q2, -⟩ | ⟨q1, q2, -⟩
      · have q : (32 : Int) = b (i + 4) := hq.2.2.2 4 (by decide) (by decide)
        omega
      · omega
      · omega
    · intro hs
      exact absurd hs (by omega)
  · show Sp29 b i ((7 : Nat) : Int) ((7 : Nat) : Int) ↔ wW b i 7 = 1717662580
    constructor
    · intro hs
      rcases hs with ⟨-, -, hq⟩ | ⟨q1, q2, -⟩ | ⟨q1, q2, -⟩
      · have q : (32 : Int) = b (i + 4) := hq.2.2.2 4 (by decide) (by decide)
        omega
      · omega
      · omega
    · intro hs
      exact absurd hs (by omega)
  · show Sp29 b i ((7 : Nat) : Int) ((8 : Nat) : Int) ↔ wW b i 7 = 26995
    constructor
    · intro hs
      rcases hs with ⟨-, -, hq⟩ | ⟨q1, q2, -⟩ | ⟨q1, q2, -⟩
      · have q : (32 : Int) = b (i + 2) := hq.2.2.2 2 (by decide) (by decide)
        omega
      · omega
      · omega
    · intro hs
      exact absurd hs (by omega)
  · show Sp29 b i ((7 : Nat) : Int) ((9 : Nat) : Int) ↔ wW b i 7 = 461414299507
    constructor
    · intro hs
      rcases hs with ⟨-, -, hq⟩ | ⟨q1, q2, -⟩ | ⟨q1, q2, -⟩
      · have q : (32 : Int) = b (i + 5) := hq.2.2.2 5 (by decide) (by decide)
        omega
      · omega
      · omega
    · intro hs
      exact absurd hs (by omega)
  · show Sp29 b i ((7 : Nat) : Int) ((10 : Nat) : Int) ↔ wW b i 7 = 28832984742848366
    constructor
    · intro hs
      rcases hs with ⟨-, -, hq⟩ | ⟨q1, q2, -⟩ | ⟨q1, q2, -⟩
      · have q0 : (102 : Int) = b (i + 0) := hq.2.2.2 0 (by decide) (by decide)
        have q1 : (111 : Int) = b (i + 1) := hq.2.2.2 1 (by decide) (by decide)
        have q2 : (114 : Int) = b (i + 2) := hq.2.2.2 2 (by decide) (by decide)
        have q3 : (101 : Int) = b (i + 3) := hq.2.2.2 3 (by decide) (by decide)
        have q4 : (105 : Int) = b (i + 4) := hq.2.2.2 4 (by decide) (by decide)
        have q5 : (103 : Int) = b (i + 5) := hq.2.2.2 5 (by decide) (by decide)
        have q6 : (110 : Int) = b (i + 6) := hq.2.2.2 6 (by decide) (by decide)
        omega
      · omega
      · omega
    · intro hs
      refine Or.inl ⟨by decide, by decide, by decide, by decide, by decide +kernel, fun k h1 h2 => ?_⟩
      rcases (show k = 0 ∨ k = 1 ∨ k = 2 ∨ k = 3 ∨ k = 4 ∨ k = 5 ∨ k = 6 by omega) with rfl | rfl | rfl | rfl | rfl | rfl | rfl
      · show (102 : Int) = b (i + 0)
        omega
      · show (111 : Int) = b (i + 1)
        omega
      · show (114 : Int) = b (i + 2)
        omega
      · show (101 : Int) = b (i + 3)
        omega
      · show (105 : Int) = b (i + 4)
        omega
      · show (103 : Int) = b (i + 5)
        omega
      · show (110 : Int) = b (i + 6)
        omega
  · show Sp29 b i ((7 : Nat) : Int) ((11 : Nat) : Int) ↔ wW b i 7 = 1735353715
    constructor
    · intro hs
      rcases hs with ⟨q1, q2, -⟩ | ⟨-, -, hq⟩ | ⟨q1, q2, -⟩
      · omega
      · have q : (32 : Int) = b (i + 4) := hq.2.2.2 4 (by decide) (by decide)
        omega
      · omega
    · intro hs
      exact absurd hs (by omega)
  · show Sp29 b i ((7 : Nat) : Int) ((12 : Nat) : Int) ↔ wW b i 7 = 1634954099
    constructor
    · intro hs
      rcases hs with ⟨q1, q2, -⟩ | ⟨-, -, hq⟩ | ⟨q1, q2, -⟩
      · omega
      · have q : (32 : Int) = b (i + 4) := hq.2.2.2 4 (by decide) (by decide)
        omega
      · omega
    · intro hs
      exact absurd hs (by omega)
  · show Sp29 b i ((7 : Nat) : Int) ((13 : Nat) : Int) ↔ wW b i 7 = 474080961907
    constructor
    · intro hs
      rcases hs with ⟨q1, q2, -⟩ | ⟨-, -, hq⟩ | ⟨q1, q2, -⟩
      · omega
      · have q : (32 : Int) = b (i + 5) := hq.2.2.2 5 (by decide) (by decide)
        omega
      · omega
    · intro hs
      exact absurd hs (by omega)
  · show Sp29 b i ((7 : Nat) : Int) ((14 : Nat) : Int) ↔ wW b i 7 = 123623812527219
    constructor
    · intro hs
      rcases hs with ⟨q1, q2, -⟩ | ⟨-, -, hq⟩ | ⟨q1, q2, -⟩
      · omega
      · have q : (32 : Int) = b (i + 6) := hq.2.2.2 6 (by decide) (by decide)
        omega
      · omega
    · intro hs
      exact absurd hs (by omega)
  · show Sp29 b i ((7 : Nat) : Int) ((15 : Nat) : Int) ↔ wW b i 7 = 1886745715
    constructor
    · intro hs
      rcases hs with ⟨q1, q2, -⟩ | ⟨-, -, hq⟩ | ⟨q1, q2, -⟩
      · omega
      · have q : (32 : Int) = b (i + 4) := hq.2.2.2 4 (by decide) (by decide)
        omega
      · omega
    · intro hs
      exact absurd hs (by omega)
  · show Sp29 b i ((7 : Nat) : Int) ((16 : Nat) : Int) ↔ wW b i 7 = 119182682386035
    constructor
    · intro hs
      rcases hs with ⟨q1, q2, -⟩ | ⟨-, -, hq⟩ | ⟨q1, q2, -⟩
      · omega
      · have q : (32 : Int) = b (i + 6) := hq.2.2.2 6 (by decide) (by decide)
        omega
      · omega
    · intro hs
      exact absurd hs (by omega)
  · show Sp29 b i ((7 : Nat) : Int) ((17 : Nat) : Int) ↔ wW b i 7 = 6578553
    constructor
    · intro hs
      rcases hs with ⟨q1, q2, -⟩ | ⟨-, -, hq⟩ | ⟨q1, q2, -⟩
      · omega
      · have q : (32 : Int) = b (i + 3) := hq.2.2.2 3 (by decide) (by decide)
        omega
      · omega
    · intro hs
      exact absurd hs (by omega)
  · show Sp29 b i ((7 : Nat) : Int) ((18 : Nat) : Int) ↔ wW b i 7 = 28530
    constructor
    · intro hs
      rcases hs with ⟨q1, q2, -⟩ | ⟨q1, q2, -⟩ | ⟨-, -, hq⟩
      · omega
      · omega
      · have q : (32 : Int) = b (i + 2) := hq.2.2.2 2 (by decide) (by decide)
        omega
    · intro hs
      exact absurd hs (by omega)
  · show Sp29 b i ((7 : Nat) : Int) ((19 : Nat) : Int) ↔ wW b i 7 = 6385252
    constructor
    · intro hs
      rcases hs with ⟨q1, q2, -⟩ | ⟨q1, q2, -⟩ | ⟨-, -, hq⟩
      · omega
      · omega
      · have q : (32 : Int) = b (i + 3) := hq.2.2.2 3 (by decide) (by decide)
        omega
    · intro hs
      exact absurd hs (by omega)
  · show Sp29 b i ((7 : Nat) : Int) ((20 : Nat) : Int) ↔ wW b i 7 = 7237492
    constructor
    · intro hs
      rcases hs with ⟨q1, q2, -⟩ | ⟨q1, q2, -⟩ | ⟨-, -, hq⟩
      · omega
      · omega
      · have q : (32 : Int) = b (i + 3) := hq.2.2.2 3 (by decide) (by decide)
        omega
    · intro hs
      exact absurd hs (by omega)
  · show Sp29 b i ((7 : Nat) : Int) ((21 : Nat) : Int) ↔ wW b i 7 = 27973166868030820
    constructor
    · intro hs
      rcases hs with ⟨q1, q2, -⟩ | ⟨q1, q2, -⟩ | ⟨-, -, hq⟩
      · omega
      · omega
      · have q0 : (99 : Int) = b (i + 0) := hq.2.2.2 0 (by decide) (by decide)
        have q1 : (97 : Int) = b (i + 1) := hq.2.2.2 1 (by decide) (by decide)
        have q2 : (114 : Int) = b (i + 2) := hq.2.2.2 2 (by decide) (by decide)
        have q3 : (114 : Int) = b (i + 3) := hq.2.2.2 3 (by decide) (by decide)
        have q4 : (105 : Int) = b (i + 4) := hq.2.2.2 4 (by decide) (by decide)
        have q5 : (101 : Int) = b (i + 5) := hq.2.2.2 5 (by decide) (by decide)
        have q6 : (100 : Int) = b (i + 6) := hq.2.2.2 6 (by decide) (by decide)
        omega
    · intro hs
      refine Or.inr (Or.inr ⟨by decide, by decide, by decide, by decide, by decide +kernel, fun k h1 h2 => ?_⟩)
      rcases (show k = 0 ∨ k = 1 ∨ k = 2 ∨ k = 3 ∨ k = 4 ∨ k = 5 ∨ k = 6 by omega) with rfl | rfl | rfl | rfl | rfl | rfl | rfl
      · show (99 : Int) = b (i + 0)
        omega
      · show (97 : Int) = b (i + 1)
        omega
      · show (114 : Int) = b (i + 2)
        omega
      · show (114 : Int) = b (i + 3)
        omega
      · show (105 : Int) = b (i + 4)
        omega
      · show (101 : Int) = b (i + 5)
        omega
      · show (100 : Int) = b (i + 6)
        omega
  · show Sp29 b i ((7 : Nat) : Int) ((22 : Nat) : Int) ↔ wW b i 7 = 1819242085
    constructor
    · intro hs
      rcases hs with ⟨q1, q2, -⟩ | ⟨q1, q2, -⟩ | ⟨-, -, hq⟩
      · omega
      · omega
      · have q : (32 : Int) = b (i + 4) := hq.2.2.2 4 (by decide) (by decide)
        omega
    · intro hs
      exact absurd hs (by omega)
  · show Sp29 b i ((7 : Nat) : Int) ((23 : Nat) : Int) ↔ wW b i 7 = 6840691
    constructor
    · intro hs
      rcases hs with ⟨q1, q2, -⟩ | ⟨q1, q2, -⟩ | ⟨-, -, hq⟩
      · omega
      · omega
      · have q : (32 : Int) = b (i + 3) := hq.2.2.2 3 (by decide) (by decide)
        omega
    · intro hs
      exact absurd hs (by omega)
  · show Sp29 b i ((7 : Nat) : Int) ((24 : Nat) : Int) ↔ wW b i 7 = 24948
    constructor
    · intro hs
      rcases hs with ⟨q1, q2, -⟩ | ⟨q1, q2, -⟩ | ⟨-, -, hq⟩
      · omega
      · omega
      · have q : (32 : Int) = b (i + 2) := hq.2.2.2 2 (by decide) (by decide)
        omega
    · intro hs
      exact absurd hs (by omega)
  · show Sp29 b i ((7 : Nat) : Int) ((25 : Nat) : Int) ↔ wW b i 7 = 2003399784
    constructor
    · intro hs
      rcases hs with ⟨q1, q2, -⟩ | ⟨q1, q2, -⟩ | ⟨-, -, hq⟩
      · omega
      · omega
      · have q : (32 : Int) = b (i + 4) := hq.2.2.2 4 (by decide) (by decide)
        omega
    · intro hs
      exact absurd hs (by omega)
  · show Sp29 b i ((7 : Nat) : Int) ((26 : Nat) : Int) ↔ wW b i 7 = 469786323827
    constructor
    · intro hs
      rcases hs with ⟨q1, q2, -⟩ | ⟨q1, q2, -⟩ | ⟨-, -, hq⟩
      · omega
      · omega
      · have q : (32 : Int) = b (i + 5) := hq.2.2.2 5 (by decide) (by decide)
        omega
    · intro hs
      exact absurd hs (by omega)
  · show Sp29 b i ((7 : Nat) : Int) ((27 : Nat) : Int) ↔ wW b i 7 = 474080961892
    constructor
    · intro hs
      rcases hs with ⟨q1, q2, -⟩ | ⟨q1, q2, -⟩ | ⟨-, -, hq⟩
      · omega
      · omega
      · have q : (32 : Int) = b (i + 5) := hq.2.2.2 5 (by decide) (by decide)
        omega
    · intro hs
      exact absurd hs (by omega)
  · show Sp29 b i ((7 : Nat) : Int) ((28 : Nat) : Int) ↔ wW b i 7 = 121450625394034
    constructor
    · intro hs
      rcases hs with ⟨q1, q2, -⟩ | ⟨q1, q2, -⟩ | ⟨-, -, hq⟩
      · omega
      · omega
      · have q : (32 : Int) = b (i + 6) := hq.2.2.2 6 (by decide) (by decide)
        omega
    · intro hs
      exact absurd hs (by omega)
theorem spw {m : Nat} (hm : m ≤ 7) (h : ∀ k : Nat, k < m → isL (b (i + k))) (w : Nat) (hw : w < 29) : Sp29 b i (m : Int) (w : Int) ↔ wW b i m = RC w := by
  rcases (show m = 0 ∨ m = 1 ∨ m = 2 ∨ m = 3 ∨ m = 4 ∨ m = 5 ∨ m = 6 ∨ m = 7 by omega) with rfl | rfl | rfl | rfl | rfl | rfl | rfl | rfl
  · exact spw_0 h w hw
  · exact spw_1 h w hw
  · exact spw_2 h w hw
  · exact spw_3 h w hw
  · exact spw_4 h w hw
  · exact spw_5 h w hw
  · exact spw_6 h w hw
  · exact spw_7 h w hw
end PS
