/-! words of class and reference (written by a program in NOTES.md, 5) -/
/-- the same in the reference's order -/
def RVc (k : Nat) : Int := ([482854658917, 1835102827, 499967946343, 26995, 123581014175598, 28832984742848366, 461414299507, 1718185573, 1835627621, 2002872165, 1717662580, 1735353715, 1634954099, 474080961907, 123623812527219, 1886745715, 119182682386035, 6578553, 28530, 6385252, 7237492, 27973166868030820, 1819242085, 6840691, 24948, 2003399784, 469786323827, 474080961892, 121450625394034] : List Int).getD k 0
def RVi (k : Nat) : Nat := ([0, 1, 2, 8, 3, 10, 9, 4, 5, 6, 7, 11, 12, 13, 14, 15, 16, 17, 18, 19, 20, 21, 22, 23, 24, 25, 26, 27, 28] : List Nat).getD k 0
theorem RV_RC : ∀ k, k < 29 → RVc k = RC (RVi k) ∧ RVi k < 29 := by decide +kernel
theorem RC_inj : ∀ v, v < 29 → ∀ w, w < 29 → RC v = RC w → v = w := by decide +kernel
theorem z_lshl {z : Int} {k : Nat} (h1 : 0 ≤ z) (hk : k < 64) (h2 : z.toNat * 2 ^ k < 9223372036854775808) : zlshl z (k : Int) = z * 2 ^ k := by
  have e1 : Int64.ofInt z = lN z.toNat := by
    have e : z = ((z.toNat : Nat) : Int) := by omega
    rw [e, Int64.ofInt_eq_ofNat]
    rfl
  have e2 : Int32.ofInt (k : Int) = nI k := (fa_eq _ _).mpr (by rw [nI_toInt (by omega), en_o32 (by omega) (by omega)])
  unfold zlshl
  rw [e1, e2, wb_shl _ hk]
  show (Int64.ofNat (z.toNat * 2 ^ k)).toInt = _
  rw [← Int64.ofInt_eq_ofNat, z_o64 ⟨by omega, by omega⟩, Int.natCast_mul, Int.toNat_of_nonneg h1]
  simp
theorem z_lor8 {w c : Int} (h1 : 0 ≤ w) (h2 : w < 281474976710656) (h3 : 0 ≤ c) (h4 : c < 256) : zlor (zlshl w 8) c = w * 256 + c := by
  have e0 : zlshl w 8 = w * 256 := z_lshl (k := 8) h1 (by omega) (by omega)
  rw [e0]
  have e1 : Int64.ofInt (w * 256) = lN (2 ^ 8 * w.toNat) := by
    have e : w * 256 = (((2 ^ 8 * w.toNat : Nat)) : Int) := by omega
    rw [e, Int64.ofInt_eq_ofNat]
    rfl
  have e2 : Int64.ofInt c = lN c.toNat := by
    have e : c = ((c.toNat : Nat) : Int) := by omega
    rw [e, Int64.ofInt_eq_ofNat]
    rfl
  unfold zlor
  rw [e1, e2, fb_or_sumL _ (by omega)]
  show (Int64.ofNat (2 ^ 8 * w.toNat + c.toNat)).toInt = _
  rw [← Int64.ofInt_eq_ofNat, z_o64 ⟨by omega, by omega⟩]
  omega
theorem z_shl5 {k : Int} (h1 : 0 ≤ k) (h2 : k < 281474976710656) : zlshl k 5 = k * 32 := z_lshl (k := 5) h1 (by omega) (by omega)
section PW
variable {b : Int → Int} {i j : Int}
theorem rrL_all : ∀ m : Nat, rrL b i m = (m : Int) → ∀ k : Nat, k < m → isL (b (i + k)) := by
  intro m
  induction m with
  | zero => intro _ k hk; omega
  | succ m ih =>
    intro h k hk
    have hr := rrL_rng b i m
    simp only [rrL] at h
    split at h
    · rename_i hc
      rcases (show k < m ∨ k = m by omega) with q | rfl
      · exact ih (by omega) k q
      · exact hc
    · omega
theorem rrL_of : ∀ m : Nat, (∀ k : Nat, k < m → isL (b (i + k))) → rrL b i m = (m : Int) := by
  intro m
  induction m with
  | zero => intro _; rfl
  | succ m ih =>
    intro h
    rw [show rrL b i (m + 1) = _ from if_pos (h m (by omega)), ih (fun k hk => h k (by omega))]
    omega
theorem rrL_zero : ∀ m : Nat, rrL b i m = 0 → ∀ k : Nat, k < m → ¬ isL (b (i + k)) := by
  intro m
  induction m with
  | zero => intro _ k hk; omega
  | succ m ih =>
    intro h k hk
    have hr := rrL_rng b i m
    simp only [rrL] at h
    split at h
    · omega
    · rename_i hc
      rcases (show k < m ∨ k = m by omega) with q | rfl
      · exact ih h k q
      · exact hc
theorem rrL_no : ∀ m : Nat, (∀ k : Nat, k < m → ¬ isL (b (i + k))) → rrL b i m = 0 := by
  intro m
  induction m with
  | zero => intro _; rfl
  | succ m ih =>
    intro h
    rw [show rrL b i (m + 1) = _ from if_neg (h m (by omega)), ih (fun k hk => h k (by omega))]
theorem aW_iff {s : Int} : ∀ t : Nat, aW b j s t = 1 ↔ ∀ k : Nat, k < t → (if 97 ≤ b (j + k) ∧ b (j + k) ≤ 122 then (1 : Int) else 0) = s := by
  intro t
  induction t with
  | zero => exact ⟨fun _ k hk => by omega, fun _ => rfl⟩
  | succ t ih =>
    constructor
    · intro h k hk
      have h1 : aW b j s t = 1 ∧ (if 97 ≤ b (j + t) ∧ b (j + t) ≤ 122 then (1 : Int) else 0) = s := by
        rcases Classical.em (aW b j s t = 1 ∧ (if 97 ≤ b (j + t) ∧ b (j + t) ≤ 122 then (1 : Int) else 0) = s) with q | q
        · exact q
        · rw [show aW b j s (t + 1) = 0 from if_neg q] at h
          exact absurd h (by decide)
      rcases (show k < t ∨ k = t by omega) with q | rfl
      · exact ih.mp h1.1 k q
      · exact h1.2
    · intro h
      exact if_pos ⟨ih.mpr (fun k hk => h k (by omega)), h t (by omega)⟩
/-- all letters -/
theorem aW_L {t : Nat} : aW b j 1 t = 1 ↔ rrL b j t = (t : Int) := by
  rw [aW_iff]
  constructor
  · intro h
    refine rrL_of t (fun k hk => ?_)
    have h1 := h k hk
    split at h1
    · rename_i q
      exact q
    · exact absurd h1 (by decide)
  · intro h k hk
    exact if_pos (rrL_all t h k hk)
theorem aW_N {t : Nat} : aW b j 0 t = 1 ↔ rrL b j t = 0 := by
  rw [aW_iff]
  constructor
  · intro h
    refine rrL_no t (fun k hk q => ?_)
    have h1 : (1 : Int) = 0 := (show (if 97 ≤ b (j + k) ∧ b (j + k) ≤ 122 then (1 : Int) else 0) = 1 from if_pos q).symm.trans (h k hk)
    exact absurd h1 (by decide)
  · intro h k hk
    exact if_neg (rrL_zero t h k hk)
theorem wdN_rng : ∀ (f k : Nat), 0 ≤ wdN f k ∧ wdN f k < 256 ^ f := by
  intro f
  induction f with
  | zero => intro k; exact ⟨Int.le_refl 0, by show (0 : Int) < 256 ^ 0; decide⟩
  | succ f ih =>
    intro k
    simp only [wdN]
    split
    · exact ⟨Int.le_refl 0, Int.pow_pos (by decide)⟩
    · have h := ih (k / 32)
      rw [Int.pow_succ]
      omega
theorem wdN_inj : ∀ (f x y : Nat), x < 32 ^ f → y < 32 ^ f → wdN f x = wdN f y → x = y := by
  intro f
  induction f with
  | zero => intro x y hx hy _; simp at hx hy; omega
  | succ f ih =>
    intro x y hx hy h
    have hx1 : x / 32 < 32 ^ f := by rw [Nat.pow_succ] at hx; omega
    have hy1 : y / 32 < 32 ^ f := by rw [Nat.pow_succ] at hy; omega
    have r1 := (wdN_rng f (x / 32)).1
    have r2 := (wdN_rng f (y / 32)).1
    simp only [wdN] at h
    split at h
    · split at h
      · omega
      · omega
    · split at h
      · omega
      · have h2 : wdN f (x / 32) = wdN f (y / 32) := by omega
        have h3 := ih _ _ hx1 hy1 h2
        omega
theorem wd_inj {x y : Int} (hx : 0 ≤ x ∧ x < 34359738368) (hy : 0 ≤ y ∧ y < 34359738368) (h : wd x = wd y) : x = y := by
  have h1 := wdN_inj 7 x.toNat y.toNat (by omega) (by omega) h
  omega
/-- letters: key and word -/
theorem key_word : ∀ m : Nat, m ≤ 7 → (∀ k : Nat, k < m → isL (b (i + k))) → (0 ≤ rrK b i m ∧ rrK b i m < 32 ^ m) ∧ (0 ≤ wW b i m ∧ wW b i m < 256 ^ m) ∧ ∀ f : Nat, m ≤ f → wW b i m = wdN f (rrK b i m).toNat := by
  intro m
  induction m with
  | zero =>
    intro _ _
    refine ⟨⟨Int.le_refl 0, by show (0 : Int) < 32 ^ 0; decide⟩, ⟨Int.le_refl 0, by show (0 : Int) < 256 ^ 0; decide⟩, fun f _ => ?_⟩
    show (0 : Int) = wdN f 0
    cases f <;> rfl
  | succ m ih =>
    intro hm h
    obtain ⟨⟨a1, a2⟩, ⟨a3, a4⟩, a5⟩ := ih (by omega) (fun k hk => h k (by omega))
    have hl := h m (by omega)
    have hb := hl
    unfold isL at hb
    have p1 : (32 : Int) ^ m ≤ 32 ^ 6 := by
      rcases (show m = 0 ∨ m = 1 ∨ m = 2 ∨ m = 3 ∨ m = 4 ∨ m = 5 ∨ m = 6 by omega) with rfl | rfl | rfl | rfl | rfl | rfl | rfl <;> decide
    have p2 : (256 : Int) ^ m ≤ 256 ^ 6 := by
      rcases (show m = 0 ∨ m = 1 ∨ m = 2 ∨ m = 3 ∨ m = 4 ∨ m = 5 ∨ m = 6 by omega) with rfl | rfl | rfl | rfl | rfl | rfl | rfl <;> decide
    have e1 : rrK b i (m + 1) = rrK b i m * 32 + (b (i + m) - 97 + 1) := by
      rw [show rrK b i (m + 1) = _ from if_pos hl, z_shl5 a1 (by omega)]
    have e2 : wW b i (m + 1) = wW b i m * 256 + b (i + m) := by
      rw [show wW b i (m + 1) = _ from if_pos (by omega), z_lor8 a3 (by omega) (by omega) (by omega)]
    rw [e1, e2, Int.pow_succ, Int.pow_succ]
    refine ⟨⟨by omega, by omega⟩, ⟨by omega, by omega⟩, fun f hf => ?_⟩
    obtain ⟨g, rfl⟩ : ∃ g, f = g + 1 := ⟨f - 1, by omega⟩
    simp only [wdN]
    rw [if_neg (by omega), show (rrK b i m * 32 + (b (i + m) - 97 + 1)).toNat / 32 = (rrK b i m).toNat by omega, ← a5 g (by omega)]
    omega
theorem nW_rrN : ∀ m : Nat, m ≤ 3 → (∀ k : Nat, k < m → ¬ isL (b (i + k))) → nW b i m = rrN b i m := by
  intro m
  induction m with
  | zero => intro _ _; rfl
  | succ m ih =>
    intro hm h
    rw [show nW b i (m + 1) = _ from if_pos (by omega), show rrN b i (m + 1) = _ from if_neg (h m (by omega)), ih (by omega) (fun k hk => h k (by omega))]
    omega
theorem wW_lo : ∀ t : Nat, 7 ≤ t → wW b j t = wW b j 7 := by
  intro t
  induction t with
  | zero => intro h; omega
  | succ t ih =>
    intro h
    rcases (show t = 6 ∨ 7 ≤ t by omega) with rfl | q
    · rfl
    · rw [show wW b j (t + 1) = _ from if_neg (by omega)]
      exact ih q
end PW
