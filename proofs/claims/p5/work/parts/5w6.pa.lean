/-! what a city's text says, line by line (plain numbers) -/
/-- a fault (0: none), where; then the rows as they are: how many, names, marks of things, marks known, what was told once -/
abbrev AR : Type := Int × Nat × (Nat → Int) × (Nat → Int) × (Nat → Int) × (Nat → Int) × Int
def bad (f : Int) (i : Nat) : AR := (f, i, fun _ => 0, fun _ => 0, fun _ => 0, fun _ => 0, 0)
def aReg (K V CN NM : Nat → Int) (mx b : Int) (s idx : Nat) (k : (Nat → Int) → (Nat → Int) → AR) : AR :=
  if mx ≤ CN s then bad 4 idx else if K (idx + 1) = 1 then (if fnd CN NM (V (idx + 1)) = -1 then k (zup CN s (CN s + 1)) (zup NM (b + CN s).toNat (V (idx + 1))) else bad 3 (idx + 1)) else bad 1 (idx + 1)
def aPlain (K V CN NM MK KN : Nat → Int) (x mx b : Int) (s idx : Nat) : AR := aReg K V CN NM mx b s idx (fun CN NM => (0, idx + 2, CN, NM, MK, KN, x))
def aThing (K V CN NM MK KN : Nat → Int) (x : Int) (idx : Nat) : AR := aReg K V CN NM 8 20 2 idx (fun CN NM => if tdF K V CN NM 0 (idx + 2) = 0 then (0, idx + 3, CN, NM, MK, KN, x) else bad (tdF K V CN NM 0 (idx + 2)) (idx + 2))
def aPers (K V CN NM MK KN : Nat → Int) (x : Int) (i : Nat) : AR := if tdF K V CN NM 0 i = 0 then (if nmF K V 0 99 (i + 1) = 0 then (if K (i + 2) = 2 ∧ V (i + 2) = 10 then (0, i + 3, CN, NM, MK, KN, x) else (0, i + 2, CN, NM, MK, KN, x)) else bad (nmF K V 0 99 (i + 1)) (i + 1)) else bad (tdF K V CN NM 0 i) i
def aPerson (K V CN NM MK KN : Nat → Int) (x : Int) (idx : Nat) : AR := aReg K V CN NM 6 30 3 idx (fun CN NM => aPers K V CN NM MK KN x (idx + 2))
def aPair (K V CN NM R : Nat → Int) (s i : Nat) (k : (Nat → Int) → AR) : AR := if tdF K V CN NM s i = 0 then (if tdF K V CN NM 1 (i + 1) = 0 then (if zand (zshr (R (lkS CN NM s (V i)).toNat) (lkS CN NM 1 (V (i + 1)))) 1 = 1 then bad 3 (i + 1) else k (zup R (lkS CN NM s (V i)).toNat (zor (R (lkS CN NM s (V i)).toNat) (zshl 1 (lkS CN NM 1 (V (i + 1))))))) else bad (tdF K V CN NM 1 (i + 1)) (i + 1)) else bad (tdF K V CN NM s i) i
def aIs (K V CN NM MK KN : Nat → Int) (x : Int) (i : Nat) : AR := aPair K V CN NM MK 2 i (fun MK => (0, i + 2, CN, NM, MK, KN, x))
def aKnows (K V CN NM MK KN : Nat → Int) (x : Int) (i : Nat) : AR := aPair K V CN NM KN 3 i (fun KN => (0, i + 2, CN, NM, MK, KN, x))
def aSet (K V CN NM MK KN : Nat → Int) (x lo hi : Int) (w idx : Nat) : AR := if zand (zshr x ((w : Int) - 4)) 1 = 1 then bad 3 idx else if nmF K V lo hi (idx + 1) = 0 then (0, idx + 2, zup CN w (V (idx + 1)), NM, MK, KN, zor x (zshl 1 ((w : Int) - 4))) else bad (nmF K V lo hi (idx + 1)) (idx + 1)
def aWord (K V CN NM MK KN : Nat → Int) (x : Int) (idx w : Nat) : AR := match w with
  | 0 => aPlain K V CN NM MK KN x 4 0 0 idx
  | 1 => aPlain K V CN NM MK KN x 10 10 1 idx
  | 2 => aThing K V CN NM MK KN x idx
  | 3 => aPerson K V CN NM MK KN x idx
  | 4 => aSet K V CN NM MK KN x 1 20 4 idx
  | 5 => aSet K V CN NM MK KN x 0 9 5 idx
  | 6 => aSet K V CN NM MK KN x 0 9 6 idx
  | 7 => aSet K V CN NM MK KN x 0 6 7 idx
  | 8 => aIs K V CN NM MK KN x (idx + 1)
  | 9 => aKnows K V CN NM MK KN x (idx + 1)
  | _ => bad 1 idx
def aLine (K V CN NM MK KN : Nat → Int) (x : Int) (idx : Nat) : AR := if K idx = 2 then aWord K V CN NM MK KN x idx (V idx).toNat else bad 1 idx
/-- lines from there on: the fault, where, how many lines, and the rows then -/
def aRun (K V : Nat → Int) : Nat → AR → Nat → AR × Nat
  | 0, A, n => (A, n)
  | t + 1, (f, idx, CN, NM, MK, KN, x), n => if K idx = 0 then ((0, idx, CN, NM, MK, KN, x), n) else (match aLine K V CN NM MK KN x idx with
    | (f2, i2, CN2, NM2, MK2, KN2, x2) => if f2 = 0 then (if K i2 = 59 then aRun K V t (0, i2 + 1, CN2, NM2, MK2, KN2, x2) (n + 1) else (bad 1 i2, n)) else ((f2, i2, CN2, NM2, MK2, KN2, x2), n))
theorem INV.cn {CN NM : Nat → Int} {x : Int} (h : INV CN NM x) : ∀ s, s < 4 → 0 ≤ CN s ∧ CN s ≤ 10 := by
  obtain ⟨h0, h1, h2, h3, -⟩ := h
  intro s hs
  rcases (show s = 0 ∨ s = 1 ∨ s = 2 ∨ s = 3 by omega) with rfl | rfl | rfl | rfl <;> omega
theorem fnd_none {CN NM : Nat → Int} {key : Int} (h : fnd CN NM key = -1) (hCN : ∀ s, s < 4 → 0 ≤ CN s ∧ CN s ≤ 10) : ∀ s, s < 4 → lkS CN NM s key = -1 := by
  have r0 := lkS_rng (NM := NM) (key := key) (hCN 0 (by omega))
  have r1 := lkS_rng (NM := NM) (key := key) (hCN 1 (by omega))
  have r2 := lkS_rng (NM := NM) (key := key) (hCN 2 (by omega))
  have r3 := lkS_rng (NM := NM) (key := key) (hCN 3 (by omega))
  unfold fnd at h
  intro s hs
  rcases (show s = 0 ∨ s = 1 ∨ s = 2 ∨ s = 3 by omega) with rfl | rfl | rfl | rfl
  all_goals
    split at h
    · split at h
      · split at h
        · split at h <;> omega
        · omega
      · omega
    · omega
theorem fnd_iff {CN NM : Nat → Int} {key : Int} : (lkS CN NM 0 key = -1 ∧ lkS CN NM 1 key = -1 ∧ lkS CN NM 2 key = -1 ∧ lkS CN NM 3 key = -1) → fnd CN NM key = -1 := by
  rintro ⟨h0, h1, h2, h3⟩
  unfold fnd
  rw [if_pos h0, if_pos h1, if_pos h2, if_pos h3]
/-- a row of names with one more -/
theorem lkS_reg {CN NM : Nat → Int} {key : Int} {s : Nat} (hCN : ∀ s, s < 4 → 0 ≤ CN s ∧ CN s ≤ 10) (hs : s < 4) (hm : CN s < 10) (t : Nat) (ht : t < 4) (k : Int) :
    lkS (zup CN s (CN s + 1)) (zup NM ((s : Int) * 10 + CN s).toNat key) t k = if t = s then (if 0 ≤ lkS CN NM s k then lkS CN NM s k else if key = k then CN s else -1) else lkS CN NM t k := by
  have hcs := hCN s hs
  have hct := hCN t ht
  split
  · rename_i e
    subst e
    unfold lkS
    rw [zup_eq, show (CN t + 1).toNat = (CN t).toNat + 1 by omega]
    have e1 : lk (nmS (zup NM ((t : Int) * 10 + CN t).toNat key) t) k (CN t).toNat = lk (nmS NM t) k (CN t).toNat := lk_congr (fun i hi => by unfold nmS; rw [zup_ne (by omega)])
    simp only [lk]
    rw [e1, show nmS (zup NM ((t : Int) * 10 + CN t).toNat key) t (CN t).toNat = key by unfold nmS; rw [show t * 10 + (CN t).toNat = ((t : Int) * 10 + CN t).toNat by omega, zup_eq], show (((CN t).toNat : Nat) : Int) = CN t by omega]
  · rename_i e
    unfold lkS
    rw [zup_ne e]
    exact lk_congr (fun i hi => by unfold nmS; rw [zup_ne (by omega)])
theorem reg_ok {CN NM : Nat → Int} {key : Int} {s : Nat} (hCN : ∀ s, s < 4 → 0 ≤ CN s ∧ CN s ≤ 10) (hNM : ∀ k, zin64 (NM k)) (hU : Uq CN NM) (hs : s < 4) (hm : CN s < 10) (hk : zin64 key) (hf : fnd CN NM key = -1) :
    (∀ t, t < 4 → 0 ≤ zup CN s (CN s + 1) t ∧ zup CN s (CN s + 1) t ≤ 10) ∧ (∀ k, zin64 (zup NM ((s : Int) * 10 + CN s).toNat key k)) ∧ Uq (zup CN s (CN s + 1)) (zup NM ((s : Int) * 10 + CN s).toNat key) := by
  refine ⟨fun t ht => ?_, fun k => ?_, ?_⟩
  · by_cases e : t = s
    · subst e
      rw [zup_eq]
      have := hCN t ht
      omega
    · rw [zup_ne e]
      exact hCN t ht
  · by_cases e : k = ((s : Int) * 10 + CN s).toNat
    · subst e
      rw [zup_eq]
      exact hk
    · rw [zup_ne e]
      exact hNM k
  · intro t u k ht hu h1 h2
    have hn := fnd_none hf hCN
    rw [lkS_reg hCN hs hm t ht k] at h1
    rw [lkS_reg hCN hs hm u hu k] at h2
    have hcs := hCN s hs
    by_cases e1 : t = s
    · rw [if_pos e1] at h1
      by_cases e2 : u = s
      · rw [e1, e2]
      · rw [if_neg e2] at h2
        by_cases e3 : key = k
        · subst e3
          exact absurd (hn u hu) h2
        · rw [if_neg e3] at h1
          split at h1
          · exact hU t u k ht hu (by rw [e1]; exact h1) h2
          · omega
    · rw [if_neg e1] at h1
      by_cases e2 : u = s
      · rw [if_pos e2] at h2
        by_cases e3 : key = k
        · subst e3
          exact absurd (hn t ht) h1
        · rw [if_neg e3] at h2
          split at h2
          · exact hU t u k ht hu h1 (by rw [e2]; exact h2)
          · omega
      · rw [if_neg e2] at h2
        exact hU t u k ht hu h1 h2
theorem zand_in (a b : Int) : -2147483648 ≤ zand a b ∧ zand a b < 2147483648 := fb_rng _
theorem z_bits : ∀ (x w : Nat), x < 16 → w < 4 → zand (zshr (16 * (x : Int)) ((w : Int) + 4)) 1 = zand (zshr (x : Int) (w : Int)) 1 ∧ zor (16 * (x : Int)) (zshl 1 ((w : Int) + 4)) = 16 * zor (x : Int) (zshl 1 (w : Int)) ∧ 0 ≤ zor (x : Int) (zshl 1 (w : Int)) ∧ zor (x : Int) (zshl 1 (w : Int)) < 16 := by
  have key : ∀ x : Nat, x < 16 → ∀ w : Nat, w < 4 → zand (zshr (16 * (x : Int)) ((w : Int) + 4)) 1 = zand (zshr (x : Int) (w : Int)) 1 ∧ zor (16 * (x : Int)) (zshl 1 ((w : Int) + 4)) = 16 * zor (x : Int) (zshl 1 (w : Int)) ∧ 0 ≤ zor (x : Int) (zshl 1 (w : Int)) ∧ zor (x : Int) (zshl 1 (w : Int)) < 16 := by decide +kernel
  exact fun x w h1 h2 => key x h1 w h2
theorem z_bit16 {x w : Int} (hx : 0 ≤ x ∧ x < 16) (hw : 4 ≤ w ∧ w < 8) : zand (zshr (16 * x) w) 1 = zand (zshr x (w - 4)) 1 ∧ zor (16 * x) (zshl 1 w) = 16 * zor x (zshl 1 (w - 4)) ∧ 0 ≤ zor x (zshl 1 (w - 4)) ∧ zor x (zshl 1 (w - 4)) < 16 := by
  have h := z_bits x.toNat (w - 4).toNat (by omega) (by omega)
  rw [show ((x.toNat : Nat) : Int) = x by omega, show (((w - 4).toNat : Nat) : Int) = w - 4 by omega, show w - 4 + 4 = w by omega] at h
  exact h
