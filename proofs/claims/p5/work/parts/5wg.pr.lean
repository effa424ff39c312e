/-! rows of the reference and of the class -/
def RR (HH NR CN NM MK KN : Nat → Int) : Prop := (∀ s, s < 8 → HH s = CN s) ∧ (∀ i, i < 8 → HH (16 + i) = MK i) ∧ (∀ i, i < 6 → HH (37 + i) = KN i) ∧ (∀ (s i : Nat), s < 4 → (i : Int) < CN s → NR (bs s + i) = wd (NM (s * 10 + i)) ∧ 0 ≤ NM (s * 10 + i) ∧ NM (s * 10 + i) < 34359738368) ∧ ∀ q, zin64 (NR q)
section PR
variable {HH NR CN NM MK KN : Nat → Int} {x : Int}
theorem bs_val : bs 0 = 28 ∧ bs 1 = 32 ∧ bs 2 = 42 ∧ bs 3 = 50 := by decide
theorem rlk {s : Nat} {v : Int} (hR : RR HH NR CN NM MK KN) (hI : INV CN NM x) (hs : s < 4) (hv : 0 ≤ v ∧ v < 34359738368) : lk (fun q => NR (bs s + q)) (wd v) (CN s).toNat = lkS CN NM s v := by
  have hc := hI.cn s hs
  refine lk_congr (fun i hi => ?_)
  obtain ⟨e, r1, r2⟩ := hR.2.2.2.1 s i hs (by omega)
  show NR (bs s + i) = wd v ↔ nmS NM s i = v
  rw [e]
  constructor
  · intro h
    exact wd_inj ⟨r1, r2⟩ hv h
  · intro h
    unfold nmS at h
    rw [h]
theorem RR_reg {s : Nat} {v : Int} (hR : RR HH NR CN NM MK KN) (hI : INV CN NM x) (hs : (s = 0 ∧ CN 0 < 4) ∨ (s = 1 ∧ CN 1 < 10) ∨ (s = 2 ∧ CN 2 < 8) ∨ (s = 3 ∧ CN 3 < 6)) (hv : 0 ≤ v ∧ v < 34359738368) : RR (zup HH s (HH s + 1)) (zup NR ((bs s : Int) + CN s).toNat (wd v)) (zup CN s (CN s + 1)) (zup NM ((s : Int) * 10 + CN s).toNat v) MK KN := by
  obtain ⟨h1, h2, h3, h4, h5⟩ := hR
  obtain ⟨c0, c1, c2, c3, -⟩ := hI
  obtain ⟨b0, b1, b2, b3⟩ := bs_val
  have hs4 : s < 4 := by omega
  refine ⟨fun t ht => ?_, fun i hi => ?_, fun i hi => ?_, fun t i ht hi => ?_, fun q => ?_⟩
  · by_cases e : t = s
    · subst e
      rw [zup_eq, zup_eq, h1 t (by omega)]
    · rw [zup_ne e, zup_ne e]
      exact h1 t ht
  · rw [zup_ne (by omega)]
    exact h2 i hi
  · rw [zup_ne (by omega)]
    exact h3 i hi
  · have hbt : (t = 0 ∧ bs t = 28 ∧ CN t = CN 0) ∨ (t = 1 ∧ bs t = 32 ∧ CN t = CN 1) ∨ (t = 2 ∧ bs t = 42 ∧ CN t = CN 2) ∨ (t = 3 ∧ bs t = 50 ∧ CN t = CN 3) := by
      rcases (show t = 0 ∨ t = 1 ∨ t = 2 ∨ t = 3 by omega) with rfl | rfl | rfl | rfl <;> omega
    have hbs : (s = 0 ∧ bs s = 28 ∧ CN s = CN 0) ∨ (s = 1 ∧ bs s = 32 ∧ CN s = CN 1) ∨ (s = 2 ∧ bs s = 42 ∧ CN s = CN 2) ∨ (s = 3 ∧ bs s = 50 ∧ CN s = CN 3) := by
      rcases hs with ⟨rfl, -⟩ | ⟨rfl, -⟩ | ⟨rfl, -⟩ | ⟨rfl, -⟩ <;> omega
    by_cases e : t = s
    · subst e
      rw [zup_eq] at hi
      by_cases e2 : (i : Int) = CN t
      · rw [show bs t + i = ((bs t : Int) + CN t).toNat by omega, show t * 10 + i = ((t : Int) * 10 + CN t).toNat by omega, zup_eq, zup_eq]
        exact ⟨rfl, hv⟩
      · rw [zup_ne (by omega), zup_ne (by omega)]
        exact h4 t i ht (by omega)
    · rw [zup_ne e] at hi
      rw [zup_ne (by omega), zup_ne (by omega)]
      exact h4 t i ht hi
  · by_cases e : q = ((bs s : Int) + CN s).toNat
    · subst e
      rw [zup_eq]
      have := wd_rng v
      exact ⟨by omega, by omega⟩
    · rw [zup_ne e]
      exact h5 q
theorem RR_oth {q : Nat} {v : Int} (hR : RR HH NR CN NM MK KN) (hq : (8 ≤ q ∧ q < 16) ∨ (24 ≤ q ∧ q < 37)) : RR (zup HH q v) NR CN NM MK KN := by
  obtain ⟨h1, h2, h3, h4, h5⟩ := hR
  refine ⟨fun t ht => ?_, fun i hi => ?_, fun i hi => ?_, h4, h5⟩
  · rw [zup_ne (by omega)]
    exact h1 t ht
  · rw [zup_ne (by omega)]
    exact h2 i hi
  · rw [zup_ne (by omega)]
    exact h3 i hi
theorem RR_set {w : Nat} {v : Int} (hR : RR HH NR CN NM MK KN) (hw : 4 ≤ w ∧ w < 8) : RR (zup HH w v) NR (zup CN w v) NM MK KN := by
  obtain ⟨h1, h2, h3, h4, h5⟩ := hR
  refine ⟨fun t ht => ?_, fun i hi => ?_, fun i hi => ?_, fun t i ht hi => ?_, h5⟩
  · by_cases e : t = w
    · subst e
      rw [zup_eq, zup_eq]
    · rw [zup_ne e, zup_ne e]
      exact h1 t ht
  · rw [zup_ne (by omega)]
    exact h2 i hi
  · rw [zup_ne (by omega)]
    exact h3 i hi
  · rw [zup_ne (by omega)] at hi
    exact h4 t i ht hi
theorem RR_mk {o : Int} {v : Int} (hR : RR HH NR CN NM MK KN) (ho : 0 ≤ o ∧ o < 8) : RR (zup HH (16 + o).toNat v) NR CN NM (zup MK o.toNat v) KN := by
  obtain ⟨h1, h2, h3, h4, h5⟩ := hR
  refine ⟨fun t ht => ?_, fun i hi => ?_, fun i hi => ?_, h4, h5⟩
  · rw [zup_ne (by omega)]
    exact h1 t ht
  · by_cases e : i = o.toNat
    · subst e
      rw [show 16 + o.toNat = (16 + o).toNat by omega, zup_eq, zup_eq]
    · rw [zup_ne (by omega), zup_ne e]
      exact h2 i hi
  · rw [zup_ne (by omega)]
    exact h3 i hi
theorem RR_kn {o : Int} {v : Int} (hR : RR HH NR CN NM MK KN) (ho : 0 ≤ o ∧ o < 6) : RR (zup HH (37 + o).toNat v) NR CN NM MK (zup KN o.toNat v) := by
  obtain ⟨h1, h2, h3, h4, h5⟩ := hR
  refine ⟨fun t ht => ?_, fun i hi => ?_, fun i hi => ?_, h4, h5⟩
  · rw [zup_ne (by omega)]
    exact h1 t ht
  · rw [zup_ne (by omega)]
    exact h2 i hi
  · by_cases e : i = o.toNat
    · subst e
      rw [show 37 + o.toNat = (37 + o).toNat by omega, zup_eq, zup_eq]
    · rw [zup_ne (by omega), zup_ne e]
      exact h3 i hi
end PR
