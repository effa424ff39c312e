/-! the reference: bytes and tokens (written by wip/p4/g10.py) -/
def rW (m : Nat → Nat) (F B SS HH NR RV : Nat → Int) : ZW := [(m 0, .inl (11, [zI (F 0), zR (m 1), zI (F 2), zI (F 3), zI (F 4), zI (F 5), zR (m 6), zR (m 7), zR (m 8), zR (m 9), zR (m 10), zI (F 11), zI (F 12), zI (F 13), zI (F 14), zI (F 15), zI (F 16), zL (F 17), zI (F 18), zI (F 19), zI (F 20), zR (m 21), zR (m 22), zI (F 23), zI (F 24), zI (F 25), zI (F 26), zI (F 27), zI (F 28), zI (F 29), zI (F 30), zI (F 31), zI (F 32), zR (m 33), zR (m 34), zR (m 35), zI (F 36), zR (m 37), zI (F 38), zI (F 39), zI (F 40), zR (m 41), zI (F 42), zR (m 43), zI (F 44), zI (F 45), zI (F 46), zI (F 47), zI (F 48), zR (m 49), zR (m 50), zR (m 51), zR (m 52)])), (m 1, .inr (.inl (1, 940, B))), (m 6, .inr (.inl (0, 269, SS))), (m 7, .inr (.inl (0, 43, HH))), (m 9, .inr (.inr (56, NR))), (m 10, .inr (.inr (29, RV)))]
def wW (b : Int → Int) (j : Int) : Nat → Int
  | 0 => 0
  | t + 1 => if t < 7 then zlor (zlshl (wW b j t) 8) (b (j + t)) else wW b j t
def nW (b : Int → Int) (j : Int) : Nat → Int
  | 0 => 0
  | t + 1 => if t < 3 then 10 * nW b j t + b (j + t) - 48 else nW b j t
/-- 1 while all are letters (s = 1), all are none (s = 0) -/
def aW (b : Int → Int) (j s : Int) : Nat → Int
  | 0 => 1
  | t + 1 => if aW b j s t = 1 ∧ (if 97 ≤ b (j + t) ∧ b (j + t) ≤ 122 then (1 : Int) else 0) = s then 1 else 0
theorem aW_01 (b : Int → Int) (j s : Int) : ∀ t : Nat, aW b j s t = 0 ∨ aW b j s t = 1 := by
  intro t
  cases t with
  | zero => exact Or.inr rfl
  | succ t =>
    rcases Classical.em (aW b j s t = 1 ∧ (if 97 ≤ b (j + t) ∧ b (j + t) ≤ 122 then (1 : Int) else 0) = s) with h | h
    · exact Or.inr (if_pos h)
    · exact Or.inl (if_neg h)
/-- what next() leaves: token, at, number, word, p -/
def RTok (b : Int → Int) (n lim i : Int) (F : Nat → Int) : Prop := ∃ j, Sk b i j ∧ ((n > lim ∧ lim ≤ j ∧ F 11 = 4 ∧ F 12 = lim) ∨ (¬ (n > lim ∧ lim ≤ j) ∧ n ≤ j ∧ F 11 = 0 ∧ F 12 = j) ∨
  (¬ (n > lim ∧ lim ≤ j) ∧ j < n ∧ F 12 = j ∧ ((¬ isLD (b j) ∧ F 4 = j + 1 ∧ F 14 = b j ∧ ((isS (b j) ∧ F 11 = 3) ∨ (¬ isS (b j) ∧ F 11 = 4))) ∨
    (isLD (b j) ∧ ∃ (t : Nat) (s : Int), ((isL (b j) ∧ s = 1) ∨ (¬ isL (b j) ∧ s = 0)) ∧ Rn b j (j + t) ∧ F 4 = j + t ∧ F 17 = wW b j t ∧ F 14 = nW b j t ∧ ((¬ (aW b j s t = 1 ∧ (t : Int) ≤ (if s = 1 then 7 else 3)) ∧ F 11 = 4) ∨ (aW b j s t = 1 ∧ (t : Int) ≤ (if s = 1 then 7 else 3) ∧ F 11 = (if s = 1 then 1 else 2)))))))
/-- all else is as it was -/
def frT (F F9 : Nat → Int) : Prop := ∀ k : Nat, ¬ k = 4 → ¬ k = 11 → ¬ k = 12 → ¬ k = 13 → ¬ k = 14 → ¬ k = 17 → F9 k = F k
theorem tb_val {B : Nat → Int} {n i : Int} (h : 0 ≤ i ∧ i < n) : 0 ≤ tb B n i := by
  unfold tb
  rw [if_pos h]
  omega
theorem aW_1L {b : Int → Int} {j s : Int} {t : Nat} (ha : aW b j s t = 1) (h : isL (b (j + t))) (q : 1 = s) : aW b j s (t + 1) = 1 := if_pos ⟨ha, (if_pos h).trans q⟩
theorem aW_1N {b : Int → Int} {j s : Int} {t : Nat} (ha : aW b j s t = 1) (h : ¬ isL (b (j + t))) (q : 0 = s) : aW b j s (t + 1) = 1 := if_pos ⟨ha, (if_neg h).trans q⟩
theorem aW_0 {b : Int → Int} {j s : Int} {t : Nat} (ha : aW b j s t = 0) : aW b j s (t + 1) = 0 := if_neg (fun h => by omega)
theorem aW_0L {b : Int → Int} {j s : Int} {t : Nat} (h : isL (b (j + t))) (q : ¬ 1 = s) : aW b j s (t + 1) = 0 := if_neg (fun w => q ((if_pos h).symm.trans w.2))
theorem aW_0N {b : Int → Int} {j s : Int} {t : Nat} (h : ¬ isL (b (j + t))) (q : ¬ 0 = s) : aW b j s (t + 1) = 0 := if_neg (fun w => q ((if_neg h).symm.trans w.2))
section ZR
variable {xs : Nat → Int32} {D : va_G} {cy : Nat → ClassId} {l : Launch} {ex : Nat → Nat} {m : Nat → Nat} {F B SS HH NR RV : Nat → Int} {Y0 : ZW}
set_option maxRecDepth 4000 in
theorem zj_X12_isSmall : PR2[141]? = some mt2_X12_isSmall := rfl
set_option maxRecDepth 4000 in
theorem zr_isSmall {z1 : Int} (hz1 : -2147483648 ≤ z1 ∧ z1 < 2147483648) : ZMet (EWX xs) D cy l ex mt2_X12_isSmall (0, 0, 0, 0) Y0 [zI z1] (fun z Y => (isL z1 ∧ z = some (zI 1) ∧ Y = Y0) ∨ (¬ isL z1 ∧ z = some (zI 0) ∧ Y = Y0)) := by
  obtain ⟨mok, tok, ow⟩ := pok2.1 _ _ zj_X12_isSmall
  refine met_ofz EWX_ok mok tok ow (Nat.le_of_ble_eq_true rfl) (fun r p0 e0 s0 m0 ar0 be0 me0 c0 A0 Q0 X hR => ?_)
  refine zg_blk pok2 X 2 [] (S' := (3, [(0, zI z1)], [zI 97, zI z1], Y0)) rfl trivial ?_
  refine zg_icmp X 16 rfl rfl (by unfold zin; omega) (by unfold zin; omega) (fun g1 => ?_) (fun g1 => ?_)
  · simp only [x_cnd] at g1
    refine zg_blk pok2 X 1 [] (S' := (17, [(0, zI z1)], [zI 0], Y0)) rfl trivial ?_
    refine zg_retb X hR rfl rfl (by decide) (by decide) (by first | exact Or.inl rfl | exact Or.inr rfl) ?_
    first | exact Or.inl ⟨by unfold isL; omega, rfl, rfl⟩ | exact Or.inr ⟨by unfold isL; omega, rfl, rfl⟩
  · simp only [x_ncd] at g1
    refine zg_blk pok2 X 2 [] (S' := (9, [(0, zI z1)], [zI 122, zI z1], Y0)) rfl trivial ?_
    refine zg_icmp X 16 rfl rfl (by unfold zin; omega) (by unfold zin; omega) (fun g2 => ?_) (fun g2 => ?_)
    · simp only [x_cnd] at g2
      refine zg_blk pok2 X 1 [] (S' := (17, [(0, zI z1)], [zI 0], Y0)) rfl trivial ?_
      refine zg_retb X hR rfl rfl (by decide) (by decide) (by first | exact Or.inl rfl | exact Or.inr rfl) ?_
      first | exact Or.inl ⟨by unfold isL; omega, rfl, rfl⟩ | exact Or.inr ⟨by unfold isL; omega, rfl, rfl⟩
    · simp only [x_ncd] at g2
      refine zg_blk pok2 X 2 [] (S' := (17, [(0, zI z1)], [zI 1], Y0)) rfl trivial ?_
      refine zg_retb X hR rfl rfl (by decide) (by decide) (by first | exact Or.inl rfl | exact Or.inr rfl) ?_
      first | exact Or.inl ⟨by unfold isL; omega, rfl, rfl⟩ | exact Or.inr ⟨by unfold isL; omega, rfl, rfl⟩
set_option maxRecDepth 4000 in
theorem zj_X12_isDigit : PR2[128]? = some mt2_X12_isDigit := rfl
set_option maxRecDepth 4000 in
theorem zr_isDigit {z1 : Int} (hz1 : -2147483648 ≤ z1 ∧ z1 < 2147483648) : ZMet (EWX xs) D cy l ex mt2_X12_isDigit (0, 0, 0, 0) Y0 [zI z1] (fun z Y => (isD z1 ∧ z = some (zI 1) ∧ Y = Y0) ∨ (¬ isD z1 ∧ z = some (zI 0) ∧ Y = Y0)) := by
  obtain ⟨mok, tok, ow⟩ := pok2.1 _ _ zj_X12_isDigit
  refine met_ofz EWX_ok mok tok ow (Nat.le_of_ble_eq_true rfl) (fun r p0 e0 s0 m0 ar0 be0 me0 c0 A0 Q0 X hR => ?_)
  refine zg_blk pok2 X 2 [] (S' := (3, [(0, zI z1)], [zI 48, zI z1], Y0)) rfl trivial ?_
  refine zg_icmp X 16 rfl rfl (by unfold zin; omega) (by unfold zin; omega) (fun g1 => ?_) (fun g1 => ?_)
  · simp only [x_cnd] at g1
    refine zg_blk pok2 X 1 [] (S' := (17, [(0, zI z1)], [zI 0], Y0)) rfl trivial ?_
    refine zg_retb X hR rfl rfl (by decide) (by decide) (by first | exact Or.inl rfl | exact Or.inr rfl) ?_
    first | exact Or.inl ⟨by unfold isD; omega, rfl, rfl⟩ | exact Or.inr ⟨by unfold isD; omega, rfl, rfl⟩
  · simp only [x_ncd] at g1
    refine zg_blk pok2 X 2 [] (S' := (9, [(0, zI z1)], [zI 57, zI z1], Y0)) rfl trivial ?_
    refine zg_icmp X 16 rfl rfl (by unfold zin; omega) (by unfold zin; omega) (fun g2 => ?_) (fun g2 => ?_)
    · simp only [x_cnd] at g2
      refine zg_blk pok2 X 1 [] (S' := (17, [(0, zI z1)], [zI 0], Y0)) rfl trivial ?_
      refine zg_retb X hR rfl rfl (by decide) (by decide) (by first | exact Or.inl rfl | exact Or.inr rfl) ?_
      first | exact Or.inl ⟨by unfold isD; omega, rfl, rfl⟩ | exact Or.inr ⟨by unfold isD; omega, rfl, rfl⟩
    · simp only [x_ncd] at g2
      refine zg_blk pok2 X 2 [] (S' := (17, [(0, zI z1)], [zI 1], Y0)) rfl trivial ?_
      refine zg_retb X hR rfl rfl (by decide) (by decide) (by first | exact Or.inl rfl | exact Or.inr rfl) ?_
      first | exact Or.inl ⟨by unfold isD; omega, rfl, rfl⟩ | exact Or.inr ⟨by unfold isD; omega, rfl, rfl⟩
set_option maxRecDepth 4000 in
theorem zj_X12_peek : PR2[168]? = some mt2_X12_peek := rfl
set_option maxRecDepth 4000 in
theorem zr_peek (hB : ∀ k, -128 ≤ B k ∧ B k ≤ 127) (hn : 0 ≤ F 3 ∧ F 3 ≤ 940) (hp : 0 ≤ F 4 ∧ F 4 ≤ 1000) : ZMet (EWX xs) D cy l ex mt2_X12_peek (0, 0, 0, 0) (rW m F B SS HH NR RV) [zR (m 0)] (fun z Y => z = some (zI (tb B (F 3) (F 4))) ∧ Y = (rW m F B SS HH NR RV)) := by
  obtain ⟨mok, tok, ow⟩ := pok2.1 _ _ zj_X12_peek
  refine met_ofz EWX_ok mok tok ow (Nat.le_of_ble_eq_true rfl) (fun r p0 e0 s0 m0 ar0 be0 me0 c0 A0 Q0 X hR => ?_)
  refine zg_blk pok2 X 4 [0, 0] (S' := (8, [(0, zR (m 0))], [zI (F 3), zI (F 4)], (rW m F B SS HH NR RV))) rfl ⟨rfl, rfl, trivial⟩ ?_
  refine zg_icmp X 27 rfl rfl (by unfold zin; omega) (by unfold zin; omega) (fun g1 => ?_) (fun g1 => ?_)
  · simp only [x_cnd] at g1
    refine zg_blk pok2 X 1 [] (S' := (28, [(0, zR (m 0))], [zI (-1)], (rW m F B SS HH NR RV))) rfl trivial ?_
    refine zg_reti X hR rfl rfl (by decide) (by decide) ?_
    refine ⟨?_, rfl⟩
    have hb9 := hB (F 4).toNat
    unfold tb
    first | rw [if_neg (by omega)] | rw [if_pos (by omega), z_255 hb9.1 hb9.2]
  · simp only [x_ncd] at g1
    refine zg_blk pok2 X 8 [0, 0, 1] (S' := (28, [(0, zR (m 0))], [zI (zand (B ((F 4).toNat)) 255)], (rW m F B SS HH NR RV))) rfl ⟨rfl, rfl, rfl, rfl, (show zidx (F 4) 940 from by unfold zidx; omega), trivial⟩ ?_
    refine zg_reti X hR rfl rfl (by decide) (by decide) ?_
    refine ⟨?_, rfl⟩
    have hb9 := hB (F 4).toNat
    unfold tb
    first | rw [if_neg (by omega)] | rw [if_pos (by omega), z_255 hb9.1 hb9.2]
set_option maxRecDepth 4000 in
theorem zj_X12_next : PR2[161]? = some mt2_X12_next := rfl
set_option maxRecDepth 4000 in
theorem zr_next (hB : ∀ k, -128 ≤ B k ∧ B k ≤ 127) (hn : 0 ≤ F 3 ∧ F 3 ≤ 940) (hp : 0 ≤ F 4 ∧ F 4 ≤ F 3) (hlim : 0 ≤ F 5 ∧ F 5 ≤ 1000) : ZMet (EWX xs) D cy l ex mt2_X12_next (1, 0, 0, 20) (rW m F B SS HH NR RV) [zR (m 0)] (fun z Y => z = none ∧ ∃ F9, Y = (rW m F9 B SS HH NR RV) ∧ RTok (tb B (F 3)) (F 3) (F 5) (F 4) F9 ∧ frT F F9) := by
  obtain ⟨mok, tok, ow⟩ := pok2.1 _ _ zj_X12_next
  refine met_ofz EWX_ok mok tok ow (Nat.le_of_ble_eq_true rfl) (fun r p0 e0 s0 m0 ar0 be0 me0 c0 A0 Q0 X hR => ?_)
  have fin9 : ∀ (t : Nat) (sm j : Int), ((isL (tb B (F 3) j) ∧ sm = 1) ∨ (¬ isL (tb B (F 3) j) ∧ sm = 0)) → 0 ≤ j → j < F 3 → Sk (tb B (F 3)) (F 4) j → ¬ (F 3 > F 5 ∧ F 5 ≤ j) → isLD (tb B (F 3) j) → j + (t : Int) ≤ F 3 → (∀ k, j ≤ k → k < j + (t : Int) → isLD (tb B (F 3) k)) → ¬ isLD (tb B (F 3) (j + (t : Int))) → ZG D cy r mt2_X12_next p0 l e0 (rmR (1, 0, 0, 20)) s0 m0 ar0 be0 me0 c0 A0 Q0 0 0 (298, [(0, zR (m 0)), (1, zI (tb B (F 3) j)), (2, zI sm), (3, zI (aW (tb B (F 3)) j sm t))], [], (rW m (zup (zup (zup (zup (zup F 4 (j + (t : Int))) 12 j) 13 (t : Int)) 14 (nW (tb B (F 3)) j t)) 17 (wW (tb B (F 3)) j t)) B SS HH NR RV)) := by
    intro t sm j hsm hj1 hj2 hsk hnl hLD hjt h4 hx
    have h71 := aW_01 (tb B (F 3)) j sm t
    refine zg_blk pok2 X 2 [] (S' := (300, [(0, zR (m 0)), (1, zI (tb B (F 3) j)), (2, zI sm), (3, zI (aW (tb B (F 3)) j sm t))], [zI (aW (tb B (F 3)) j sm t), zR (m 0)], (rW m (zup (zup (zup (zup (zup F 4 (j + (t : Int))) 12 j) 13 (t : Int)) 14 (nW (tb B (F 3)) j t)) 17 (wW (tb B (F 3)) j t)) B SS HH NR RV))) rfl trivial ?_
    refine zg_if X 320 rfl rfl (by have h9 := tb_rng (B := B) (F 3) j; have h8 := tb_rng (B := B) (F 3) (j + (t : Int)); have h7 := aW_01 (tb B (F 3)) j sm t; unfold zin; omega) (fun g1 => ?_) (fun g1 => ?_)
    · simp only [x_cnd] at g1
      refine zg_blk pok2 X 3 [0] (S' := (336, [(0, zR (m 0)), (1, zI (tb B (F 3) j)), (2, zI sm), (3, zI (aW (tb B (F 3)) j sm t))], [], (rW m (zup (zup (zup (zup (zup (zup F 4 (j + (t : Int))) 11 4) 12 j) 13 (t : Int)) 14 (nW (tb B (F 3)) j t)) 17 (wW (tb B (F 3)) j t)) B SS HH NR RV))) rfl ⟨rfl, rfl, rfl, trivial⟩ ?_
      refine zg_retv X hR rfl rfl (by decide) (by decide) ?_
      refine ⟨rfl, _, rfl, ?_, fun k h1 h2 h3 h4 h5 h6 => by simp only [zup_ne h1, zup_ne h2, zup_ne h3, zup_ne h4, zup_ne h5, zup_ne h6]⟩
      refine ⟨j, hsk, Or.inr (Or.inr ⟨hnl, hj2, rfl, Or.inr ⟨hLD, t, sm, hsm, ⟨by omega, h4, hx⟩, rfl, rfl, rfl, ?_⟩⟩)⟩
      refine Or.inl ⟨fun h => ?_, rfl⟩
      have h9 := h.2
      split at h9 <;> omega
    · simp only [x_ncd] at g1
      refine zg_blk pok2 X 3 [0] (S' := (308, [(0, zR (m 0)), (1, zI (tb B (F 3) j)), (2, zI sm), (3, zI (aW (tb B (F 3)) j sm t))], [zI sm, zI (t : Int), zR (m 0)], (rW m (zup (zup (zup (zup (zup F 4 (j + (t : Int))) 12 j) 13 (t : Int)) 14 (nW (tb B (F 3)) j t)) 17 (wW (tb B (F 3)) j t)) B SS HH NR RV))) rfl ⟨rfl, trivial⟩ ?_
      refine zg_if X 316 rfl rfl (by have h9 := tb_rng (B := B) (F 3) j; have h8 := tb_rng (B := B) (F 3) (j + (t : Int)); have h7 := aW_01 (tb B (F 3)) j sm t; unfold zin; omega) (fun g2 => ?_) (fun g2 => ?_)
      · simp only [x_cnd] at g2
        refine zg_blk pok2 X 1 [] (S' := (317, [(0, zR (m 0)), (1, zI (tb B (F 3) j)), (2, zI sm), (3, zI (aW (tb B (F 3)) j sm t))], [zI 3, zI (t : Int), zR (m 0)], (rW m (zup (zup (zup (zup (zup F 4 (j + (t : Int))) 12 j) 13 (t : Int)) 14 (nW (tb B (F 3)) j t)) 17 (wW (tb B (F 3)) j t)) B SS HH NR RV))) rfl trivial ?_
        refine zg_icmp X 324 rfl rfl (by have h9 := tb_rng (B := B) (F 3) j; have h8 := tb_rng (B := B) (F 3) (j + (t : Int)); have h7 := aW_01 (tb B (F 3)) j sm t; unfold zin; omega) (by have h9 := tb_rng (B := B) (F 3) j; have h8 := tb_rng (B := B) (F 3) (j + (t : Int)); have h7 := aW_01 (tb B (F 3)) j sm t; unfold zin; omega) (fun g3 => ?_) (fun g3 => ?_)
        · simp only [x_cnd] at g3
          refine zg_blk pok2 X 1 [] (S' := (325, [(0, zR (m 0)), (1, zI (tb B (F 3) j)), (2, zI sm), (3, zI (aW (tb B (F 3)) j sm t))], [zI sm, zR (m 0)], (rW m (zup (zup (zup (zup (zup F 4 (j + (t : Int))) 12 j) 13 (t : Int)) 14 (nW (tb B (F 3)) j t)) 17 (wW (tb B (F 3)) j t)) B SS HH NR RV))) rfl trivial ?_
          refine zg_if X 332 rfl rfl (by have h9 := tb_rng (B := B) (F 3) j; have h8 := tb_rng (B := B) (F 3) (j + (t : Int)); have h7 := aW_01 (tb B (F 3)) j sm t; unfold zin; omega) (fun g4 => ?_) (fun g4 => ?_)
          · simp only [x_cnd] at g4
            refine zg_blk pok2 X 2 [0] (S' := (336, [(0, zR (m 0)), (1, zI (tb B (F 3) j)), (2, zI sm), (3, zI (aW (tb B (F 3)) j sm t))], [], (rW m (zup (zup (zup (zup (zup (zup F 4 (j + (t : Int))) 11 2) 12 j) 13 (t : Int)) 14 (nW (tb B (F 3)) j t)) 17 (wW (tb B (F 3)) j t)) B SS HH NR RV))) rfl ⟨rfl, rfl, rfl, trivial⟩ ?_
            refine zg_retv X hR rfl rfl (by decide) (by decide) ?_
            refine ⟨rfl, _, rfl, ?_, fun k h1 h2 h3 h4 h5 h6 => by simp only [zup_ne h1, zup_ne h2, zup_ne h3, zup_ne h4, zup_ne h5, zup_ne h6]⟩
            refine ⟨j, hsk, Or.inr (Or.inr ⟨hnl, hj2, rfl, Or.inr ⟨hLD, t, sm, hsm, ⟨by omega, h4, hx⟩, rfl, rfl, rfl, ?_⟩⟩)⟩
            refine Or.inr ⟨by omega, ?_, ?_⟩
            · split <;> omega
            · show (2 : Int) = _
              first | (exfalso; omega) | rw [if_pos (by omega)] | rw [if_neg (by omega)]
          · simp only [x_ncd] at g4
            refine zg_blk pok2 X 3 [0] (S' := (336, [(0, zR (m 0)), (1, zI (tb B (F 3) j)), (2, zI sm), (3, zI (aW (tb B (F 3)) j sm t))], [], (rW m (zup (zup (zup (zup (zup (zup F 4 (j + (t : Int))) 11 1) 12 j) 13 (t : Int)) 14 (nW (tb B (F 3)) j t)) 17 (wW (tb B (F 3)) j t)) B SS HH NR RV))) rfl ⟨rfl, rfl, rfl, trivial⟩ ?_
            refine zg_retv X hR rfl rfl (by decide) (by decide) ?_
            refine ⟨rfl, _, rfl, ?_, fun k h1 h2 h3 h4 h5 h6 => by simp only [zup_ne h1, zup_ne h2, zup_ne h3, zup_ne h4, zup_ne h5, zup_ne h6]⟩
            refine ⟨j, hsk, Or.inr (Or.inr ⟨hnl, hj2, rfl, Or.inr ⟨hLD, t, sm, hsm, ⟨by omega, h4, hx⟩, rfl, rfl, rfl, ?_⟩⟩)⟩
            refine Or.inr ⟨by omega, ?_, ?_⟩
            · split <;> omega
            · show (1 : Int) = _
              first | (exfalso; omega) | rw [if_pos (by omega)] | rw [if_neg (by omega)]
        · simp only [x_ncd] at g3
          refine zg_blk pok2 X 3 [0] (S' := (336, [(0, zR (m 0)), (1, zI (tb B (F 3) j)), (2, zI sm), (3, zI (aW (tb B (F 3)) j sm t))], [], (rW m (zup (zup (zup (zup (zup (zup F 4 (j + (t : Int))) 11 4) 12 j) 13 (t : Int)) 14 (nW (tb B (F 3)) j t)) 17 (wW (tb B (F 3)) j t)) B SS HH NR RV))) rfl ⟨rfl, rfl, rfl, trivial⟩ ?_
          refine zg_retv X hR rfl rfl (by decide) (by decide) ?_
          refine ⟨rfl, _, rfl, ?_, fun k h1 h2 h3 h4 h5 h6 => by simp only [zup_ne h1, zup_ne h2, zup_ne h3, zup_ne h4, zup_ne h5, zup_ne h6]⟩
          refine ⟨j, hsk, Or.inr (Or.inr ⟨hnl, hj2, rfl, Or.inr ⟨hLD, t, sm, hsm, ⟨by omega, h4, hx⟩, rfl, rfl, rfl, ?_⟩⟩)⟩
          refine Or.inl ⟨fun h => ?_, rfl⟩
          have h9 := h.2
          split at h9 <;> omega
      · simp only [x_ncd] at g2
        refine zg_blk pok2 X 2 [] (S' := (317, [(0, zR (m 0)), (1, zI (tb B (F 3) j)), (2, zI sm), (3, zI (aW (tb B (F 3)) j sm t))], [zI 7, zI (t : Int), zR (m 0)], (rW m (zup (zup (zup (zup (zup F 4 (j + (t : Int))) 12 j) 13 (t : Int)) 14 (nW (tb B (F 3)) j t)) 17 (wW (tb B (F 3)) j t)) B SS HH NR RV))) rfl trivial ?_
        refine zg_icmp X 324 rfl rfl (by have h9 := tb_rng (B := B) (F 3) j; have h8 := tb_rng (B := B) (F 3) (j + (t : Int)); have h7 := aW_01 (tb B (F 3)) j sm t; unfold zin; omega) (by have h9 := tb_rng (B := B) (F 3) j; have h8 := tb_rng (B := B) (F 3) (j + (t : Int)); have h7 := aW_01 (tb B (F 3)) j sm t; unfold zin; omega) (fun g5 => ?_) (fun g5 => ?_)
        · simp only [x_cnd] at g5
          refine zg_blk pok2 X 1 [] (S' := (325, [(0, zR (m 0)), (1, zI (tb B (F 3) j)), (2, zI sm), (3, zI (aW (tb B (F 3)) j sm t))], [zI sm, zR (m 0)], (rW m (zup (zup (zup (zup (zup F 4 (j + (t : Int))) 12 j) 13 (t : Int)) 14 (nW (tb B (F 3)) j t)) 17 (wW (tb B (F 3)) j t)) B SS HH NR RV))) rfl trivial ?_
          refine zg_if X 332 rfl rfl (by have h9 := tb_rng (B := B) (F 3) j; have h8 := tb_rng (B := B) (F 3) (j + (t : Int)); have h7 := aW_01 (tb B (F 3)) j sm t; unfold zin; omega) (fun g6 => ?_) (fun g6 => ?_)
          · simp only [x_cnd] at g6
            refine zg_blk pok2 X 2 [0] (S' := (336, [(0, zR (m 0)), (1, zI (tb B (F 3) j)), (2, zI sm), (3, zI (aW (tb B (F 3)) j sm t))], [], (rW m (zup (zup (zup (zup (zup (zup F 4 (j + (t : Int))) 11 2) 12 j) 13 (t : Int)) 14 (nW (tb B (F 3)) j t)) 17 (wW (tb B (F 3)) j t)) B SS HH NR RV))) rfl ⟨rfl, rfl, rfl, trivial⟩ ?_
            refine zg_retv X hR rfl rfl (by decide) (by decide) ?_
            refine ⟨rfl, _, rfl, ?_, fun k h1 h2 h3 h4 h5 h6 => by simp only [zup_ne h1, zup_ne h2, zup_ne h3, zup_ne h4, zup_ne h5, zup_ne h6]⟩
            refine ⟨j, hsk, Or.inr (Or.inr ⟨hnl, hj2, rfl, Or.inr ⟨hLD, t, sm, hsm, ⟨by omega, h4, hx⟩, rfl, rfl, rfl, ?_⟩⟩)⟩
            refine Or.inr ⟨by omega, ?_, ?_⟩
            · split <;> omega
            · show (2 : Int) = _
              first | (exfalso; omega) | rw [if_pos (by omega)] | rw [if_neg (by omega)]
          · simp only [x_ncd] at g6
            refine zg_blk pok2 X 3 [0] (S' := (336, [(0, zR (m 0)), (1, zI (tb B (F 3) j)), (2, zI sm), (3, zI (aW (tb B (F 3)) j sm t))], [], (rW m (zup (zup (zup (zup (zup (zup F 4 (j + (t : Int))) 11 1) 12 j) 13 (t : Int)) 14 (nW (tb B (F 3)) j t)) 17 (wW (tb B (F 3)) j t)) B SS HH NR RV))) rfl ⟨rfl, rfl, rfl, trivial⟩ ?_
            refine zg_retv X hR rfl rfl (by decide) (by decide) ?_
            refine ⟨rfl, _, rfl, ?_, fun k h1 h2 h3 h4 h5 h6 => by simp only [zup_ne h1, zup_ne h2, zup_ne h3, zup_ne h4, zup_ne h5, zup_ne h6]⟩
            refine ⟨j, hsk, Or.inr (Or.inr ⟨hnl, hj2, rfl, Or.inr ⟨hLD, t, sm, hsm, ⟨by omega, h4, hx⟩, rfl, rfl, rfl, ?_⟩⟩)⟩
            refine Or.inr ⟨by omega, ?_, ?_⟩
            · split <;> omega
            · show (1 : Int) = _
              first | (exfalso; omega) | rw [if_pos (by omega)] | rw [if_neg (by omega)]
        · simp only [x_ncd] at g5
          refine zg_blk pok2 X 3 [0] (S' := (336, [(0, zR (m 0)), (1, zI (tb B (F 3) j)), (2, zI sm), (3, zI (aW (tb B (F 3)) j sm t))], [], (rW m (zup (zup (zup (zup (zup (zup F 4 (j + (t : Int))) 11 4) 12 j) 13 (t : Int)) 14 (nW (tb B (F 3)) j t)) 17 (wW (tb B (F 3)) j t)) B SS HH NR RV))) rfl ⟨rfl, rfl, rfl, trivial⟩ ?_
          refine zg_retv X hR rfl rfl (by decide) (by decide) ?_
          refine ⟨rfl, _, rfl, ?_, fun k h1 h2 h3 h4 h5 h6 => by simp only [zup_ne h1, zup_ne h2, zup_ne h3, zup_ne h4, zup_ne h5, zup_ne h6]⟩
          refine ⟨j, hsk, Or.inr (Or.inr ⟨hnl, hj2, rfl, Or.inr ⟨hLD, t, sm, hsm, ⟨by omega, h4, hx⟩, rfl, rfl, rfl, ?_⟩⟩)⟩
          refine Or.inl ⟨fun h => ?_, rfl⟩
          have h9 := h.2
          split at h9 <;> omega
  have loop : ∀ (t0 t : Nat) (sm j : Int), ((isL (tb B (F 3) j) ∧ sm = 1) ∨ (¬ isL (tb B (F 3) j) ∧ sm = 0)) → 0 ≤ j → j < F 3 → Sk (tb B (F 3)) (F 4) j → ¬ (F 3 > F 5 ∧ F 5 ≤ j) → isLD (tb B (F 3) j) → j + (t : Int) ≤ F 3 → F 3 - (j + (t : Int)) < t0 → (∀ k, j ≤ k → k < j + (t : Int) → isLD (tb B (F 3) k)) → ZG D cy r mt2_X12_next p0 l e0 (rmR (1, 0, 0, 20)) s0 m0 ar0 be0 me0 c0 A0 Q0 0 0 (181, [(0, zR (m 0)), (1, zI (tb B (F 3) j)), (2, zI sm), (3, zI (aW (tb B (F 3)) j sm t))], [], (rW m (zup (zup (zup (zup (zup F 4 (j + (t : Int))) 12 j) 13 (t : Int)) 14 (nW (tb B (F 3)) j t)) 17 (wW (tb B (F 3)) j t)) B SS HH NR RV)) := by
    intro t0
    induction t0 with
    | zero => intro t sm j hsm hj1 hj2 hsk hnl hLD h1 h2; omega
    | succ t0 ih =>
      intro t sm j hsm hj1 hj2 hsk hnl hLD h1 h2 h4
      have h71 := aW_01 (tb B (F 3)) j sm t
      have h72 : isL (tb B (F 3) (j + (t : Int))) → 0 ≤ tb B (F 3) (j + (t : Int)) := fun h => by unfold isL at h; omega
      have h73 : isD (tb B (F 3) (j + (t : Int))) → 0 ≤ tb B (F 3) (j + (t : Int)) := fun h => by unfold isD at h; omega
      refine zg_blk pok2 X 1 [] (S' := (182, [(0, zR (m 0)), (1, zI (tb B (F 3) j)), (2, zI sm), (3, zI (aW (tb B (F 3)) j sm t))], [zR (m 0)], (rW m (zup (zup (zup (zup (zup F 4 (j + (t : Int))) 12 j) 13 (t : Int)) 14 (nW (tb B (F 3)) j t)) 17 (wW (tb B (F 3)) j t)) B SS HH NR RV))) rfl trivial ?_
      refine zg_callV pok2 EWX_ok X 0 (vas := []) (vr := []) (Y1 := (rW m (zup (zup (zup (zup (zup F 4 (j + (t : Int))) 12 j) 13 (t : Int)) 14 (nW (tb B (F 3)) j t)) 17 (wW (tb B (F 3)) j t)) B SS HH NR RV)) (Y2 := []) rfl rfl (Or.inl rfl) zj_X12_peek rfl rfl rfl rfl (Nat.le_of_ble_eq_true rfl) rfl (zr_peek (F := (zup (zup (zup (zup (zup F 4 (j + (t : Int))) 12 j) 13 (t : Int)) 14 (nW (tb B (F 3)) j t)) 17 (wW (tb B (F 3)) j t))) hB hn (show 0 ≤ j + (t : Int) ∧ j + (t : Int) ≤ 1000 by omega)) ⟨by decide, by decide, by decide, by decide⟩ (fun z9 Y9 hz => ?_)
      obtain ⟨rfl, rfl⟩ := hz
      refine zg_callS pok2 EWX_ok X (vas := [zI (tb B (F 3) (j + (t : Int)))]) (vr := []) (Y1 := (rW m (zup (zup (zup (zup (zup F 4 (j + (t : Int))) 12 j) 13 (t : Int)) 14 (nW (tb B (F 3)) j t)) 17 (wW (tb B (F 3)) j t)) B SS HH NR RV)) (Y2 := []) rfl rfl (Or.inl rfl) zj_X12_isSmall rfl rfl rfl (Nat.le_of_ble_eq_true rfl) rfl (zr_isSmall (by have h9 := tb_rng (B := B) (F 3) (j + (t : Int)); omega)) ⟨by decide, by decide, by decide, by decide⟩ (fun z9 Y9 hz => ?_)
      rcases hz with ⟨hl, rfl, rfl⟩ | ⟨hl, rfl, rfl⟩
      · refine zg_if X 201 rfl rfl (by have h9 := tb_rng (B := B) (F 3) j; have h8 := tb_rng (B := B) (F 3) (j + (t : Int)); have h7 := aW_01 (tb B (F 3)) j sm t; unfold zin; omega) (fun g1 => ?_) (fun g1 => ?_)
        · simp only [x_cnd] at g1
          refine zg_blk pok2 X 1 [] (S' := (202, [(0, zR (m 0)), (1, zI (tb B (F 3) j)), (2, zI sm), (3, zI (aW (tb B (F 3)) j sm t))], [zI (aW (tb B (F 3)) j sm t)], (rW m (zup (zup (zup (zup (zup F 4 (j + (t : Int))) 12 j) 13 (t : Int)) 14 (nW (tb B (F 3)) j t)) 17 (wW (tb B (F 3)) j t)) B SS HH NR RV))) rfl trivial ?_
          refine zg_if X 220 rfl rfl (by have h9 := tb_rng (B := B) (F 3) j; have h8 := tb_rng (B := B) (F 3) (j + (t : Int)); have h7 := aW_01 (tb B (F 3)) j sm t; unfold zin; omega) (fun g2 => ?_) (fun g2 => ?_)
          · simp only [x_cnd] at g2
            refine zg_blk pok2 X 5 [0] (S' := (228, [(3, zI 0), (0, zR (m 0)), (1, zI (tb B (F 3) j)), (2, zI sm)], [zI 7, zI (t : Int)], (rW m (zup (zup (zup (zup (zup F 4 (j + (t : Int))) 12 j) 13 (t : Int)) 14 (nW (tb B (F 3)) j t)) 17 (wW (tb B (F 3)) j t)) B SS HH NR RV))) rfl ⟨rfl, trivial⟩ ?_
            refine zg_icmp X 248 rfl rfl (by have h9 := tb_rng (B := B) (F 3) j; have h8 := tb_rng (B := B) (F 3) (j + (t : Int)); have h7 := aW_01 (tb B (F 3)) j sm t; unfold zin; omega) (by have h9 := tb_rng (B := B) (F 3) j; have h8 := tb_rng (B := B) (F 3) (j + (t : Int)); have h7 := aW_01 (tb B (F 3)) j sm t; unfold zin; omega) (fun g3 => ?_) (fun g3 => ?_)
            · simp only [x_cnd] at g3
              refine zg_blk pok2 X 3 [0] (S' := (253, [(3, zI 0), (0, zR (m 0)), (1, zI (tb B (F 3) j)), (2, zI sm)], [zI 3, zI (t : Int)], (rW m (zup (zup (zup (zup (zup F 4 (j + (t : Int))) 12 j) 13 (t : Int)) 14 (nW (tb B (F 3)) j t)) 17 (wW (tb B (F 3)) j t)) B SS HH NR RV))) rfl ⟨rfl, trivial⟩ ?_
              refine zg_icmp X 275 rfl rfl (by have h9 := tb_rng (B := B) (F 3) j; have h8 := tb_rng (B := B) (F 3) (j + (t : Int)); have h7 := aW_01 (tb B (F 3)) j sm t; unfold zin; omega) (by have h9 := tb_rng (B := B) (F 3) j; have h8 := tb_rng (B := B) (F 3) (j + (t : Int)); have h7 := aW_01 (tb B (F 3)) j sm t; unfold zin; omega) (fun g4 => ?_) (fun g4 => ?_)
              · simp only [x_cnd] at g4
                refine zg_blk pok2 X 13 [0, 0, 0, 0] (S' := (181, [(3, zI 0), (0, zR (m 0)), (1, zI (tb B (F 3) j)), (2, zI sm)], [], (rW m (zup (zup (zup (zup (zup F 4 ((j + (t : Int)) + 1)) 12 j) 13 ((t : Int) + 1)) 14 (nW (tb B (F 3)) j t)) 17 (wW (tb B (F 3)) j t)) B SS HH NR RV))) rfl ⟨rfl, rfl, rfl, rfl, rfl, rfl, rfl, rfl, trivial⟩ ?_
                have ih9 := ih (t + 1) sm j hsm hj1 hj2 hsk hnl hLD (by have h9 := tb_in (B := B) (n := F 3) (i := j + (t : Int)) (by first | exact h72 hl | exact h73 hd); omega) (by omega) (fun k q1 q2 => by
                  rcases (show k < j + (t : Int) ∨ k = j + (t : Int) by omega) with h | rfl
                  · exact h4 k q1 h
                  · first | exact Or.inl hl | exact Or.inr hd)
                rw [show aW (tb B (F 3)) j sm (t + 1) = 0 from aW_0 (by omega), show wW (tb B (F 3)) j (t + 1) = _ from (if_neg (by omega)), show nW (tb B (F 3)) j (t + 1) = _ from (if_neg (by omega)), show j + (((t + 1 : Nat)) : Int) = j + (t : Int) + 1 by omega, show (((t + 1 : Nat)) : Int) = (t : Int) + 1 by omega] at ih9
                refine zg_lv _ ?_ ih9
                intro q hq
                simp only [List.mem_cons, List.not_mem_nil, or_false] at hq ⊢
                rcases hq with rfl | rfl | rfl | rfl <;> simp
              · simp only [x_ncd] at g4
                refine zg_blk pok2 X 6 [0] (S' := (265, [(3, zI 0), (0, zR (m 0)), (1, zI (tb B (F 3) j)), (2, zI sm)], [zR (m 0), zI (10 * (nW (tb B (F 3)) j t)), zR (m 0)], (rW m (zup (zup (zup (zup (zup F 4 (j + (t : Int))) 12 j) 13 (t : Int)) 14 (nW (tb B (F 3)) j t)) 17 (wW (tb B (F 3)) j t)) B SS HH NR RV))) rfl ⟨rfl, trivial⟩ ?_
                refine zg_callV pok2 EWX_ok X 0 (vas := []) (vr := [zI (10 * (nW (tb B (F 3)) j t)), zR (m 0)]) (Y1 := (rW m (zup (zup (zup (zup (zup F 4 (j + (t : Int))) 12 j) 13 (t : Int)) 14 (nW (tb B (F 3)) j t)) 17 (wW (tb B (F 3)) j t)) B SS HH NR RV)) (Y2 := []) rfl rfl (Or.inl rfl) zj_X12_peek rfl rfl rfl rfl (Nat.le_of_ble_eq_true rfl) rfl (zr_peek (F := (zup (zup (zup (zup (zup F 4 (j + (t : Int))) 12 j) 13 (t : Int)) 14 (nW (tb B (F 3)) j t)) 17 (wW (tb B (F 3)) j t))) hB hn (show 0 ≤ j + (t : Int) ∧ j + (t : Int) ≤ 1000 by omega)) ⟨by decide, by decide, by decide, by decide⟩ (fun z9 Y9 hz => ?_)
                obtain ⟨rfl, rfl⟩ := hz
                refine zg_blk pok2 X 17 [0, 0, 0, 0, 0] (S' := (181, [(3, zI 0), (0, zR (m 0)), (1, zI (tb B (F 3) j)), (2, zI sm)], [], (rW m (zup (zup (zup (zup (zup F 4 ((j + (t : Int)) + 1)) 12 j) 13 ((t : Int) + 1)) 14 (((10 * (nW (tb B (F 3)) j t)) + (tb B (F 3) (j + (t : Int)))) - 48)) 17 (wW (tb B (F 3)) j t)) B SS HH NR RV))) rfl ⟨rfl, rfl, rfl, rfl, rfl, rfl, rfl, rfl, rfl, rfl, rfl, trivial⟩ ?_
                have ih9 := ih (t + 1) sm j hsm hj1 hj2 hsk hnl hLD (by have h9 := tb_in (B := B) (n := F 3) (i := j + (t : Int)) (by first | exact h72 hl | exact h73 hd); omega) (by omega) (fun k q1 q2 => by
                  rcases (show k < j + (t : Int) ∨ k = j + (t : Int) by omega) with h | rfl
                  · exact h4 k q1 h
                  · first | exact Or.inl hl | exact Or.inr hd)
                rw [show aW (tb B (F 3)) j sm (t + 1) = 0 from aW_0 (by omega), show wW (tb B (F 3)) j (t + 1) = _ from (if_neg (by omega)), show nW (tb B (F 3)) j (t + 1) = _ from (if_pos (by omega)), show j + (((t + 1 : Nat)) : Int) = j + (t : Int) + 1 by omega, show (((t + 1 : Nat)) : Int) = (t : Int) + 1 by omega] at ih9
                refine zg_lv _ ?_ ih9
                intro q hq
                simp only [List.mem_cons, List.not_mem_nil, or_false] at hq ⊢
                rcases hq with rfl | rfl | rfl | rfl <;> simp
            · simp only [x_ncd] at g3
              refine zg_blk pok2 X 6 [0] (S' := (240, [(3, zI 0), (0, zR (m 0)), (1, zI (tb B (F 3) j)), (2, zI sm)], [zR (m 0), zL (zlshl (wW (tb B (F 3)) j t) 8), zR (m 0)], (rW m (zup (zup (zup (zup (zup F 4 (j + (t : Int))) 12 j) 13 (t : Int)) 14 (nW (tb B (F 3)) j t)) 17 (wW (tb B (F 3)) j t)) B SS HH NR RV))) rfl ⟨rfl, trivial⟩ ?_
              refine zg_callV pok2 EWX_ok X 0 (vas := []) (vr := [zL (zlshl (wW (tb B (F 3)) j t) 8), zR (m 0)]) (Y1 := (rW m (zup (zup (zup (zup (zup F 4 (j + (t : Int))) 12 j) 13 (t : Int)) 14 (nW (tb B (F 3)) j t)) 17 (wW (tb B (F 3)) j t)) B SS HH NR RV)) (Y2 := []) rfl rfl (Or.inl rfl) zj_X12_peek rfl rfl rfl rfl (Nat.le_of_ble_eq_true rfl) rfl (zr_peek (F := (zup (zup (zup (zup (zup F 4 (j + (t : Int))) 12 j) 13 (t : Int)) 14 (nW (tb B (F 3)) j t)) 17 (wW (tb B (F 3)) j t))) hB hn (show 0 ≤ j + (t : Int) ∧ j + (t : Int) ≤ 1000 by omega)) ⟨by decide, by decide, by decide, by decide⟩ (fun z9 Y9 hz => ?_)
              obtain ⟨rfl, rfl⟩ := hz
              refine zg_blk pok2 X 6 [0, 0] (S' := (253, [(3, zI 0), (0, zR (m 0)), (1, zI (tb B (F 3) j)), (2, zI sm)], [zI 3, zI (t : Int)], (rW m (zup (zup (zup (zup (zup F 4 (j + (t : Int))) 12 j) 13 (t : Int)) 14 (nW (tb B (F 3)) j t)) 17 (zlor (zlshl (wW (tb B (F 3)) j t) 8) (tb B (F 3) (j + (t : Int))))) B SS HH NR RV))) rfl ⟨(show zin (tb B (F 3) (j + (t : Int))) from by have h9 := tb_rng (B := B) (F 3) j; have h8 := tb_rng (B := B) (F 3) (j + (t : Int)); have h7 := aW_01 (tb B (F 3)) j sm t; unfold zin; omega), rfl, rfl, rfl, rfl, trivial⟩ ?_
              refine zg_icmp X 275 rfl rfl (by have h9 := tb_rng (B := B) (F 3) j; have h8 := tb_rng (B := B) (F 3) (j + (t : Int)); have h7 := aW_01 (tb B (F 3)) j sm t; unfold zin; omega) (by have h9 := tb_rng (B := B) (F 3) j; have h8 := tb_rng (B := B) (F 3) (j + (t : Int)); have h7 := aW_01 (tb B (F 3)) j sm t; unfold zin; omega) (fun g5 => ?_) (fun g5 => ?_)
              · simp only [x_cnd] at g5
                refine zg_blk pok2 X 13 [0, 0, 0, 0] (S' := (181, [(3, zI 0), (0, zR (m 0)), (1, zI (tb B (F 3) j)), (2, zI sm)], [], (rW m (zup (zup (zup (zup (zup F 4 ((j + (t : Int)) + 1)) 12 j) 13 ((t : Int) + 1)) 14 (nW (tb B (F 3)) j t)) 17 (zlor (zlshl (wW (tb B (F 3)) j t) 8) (tb B (F 3) (j + (t : Int))))) B SS HH NR RV))) rfl ⟨rfl, rfl, rfl, rfl, rfl, rfl, rfl, rfl, trivial⟩ ?_
                have ih9 := ih (t + 1) sm j hsm hj1 hj2 hsk hnl hLD (by have h9 := tb_in (B := B) (n := F 3) (i := j + (t : Int)) (by first | exact h72 hl | exact h73 hd); omega) (by omega) (fun k q1 q2 => by
                  rcases (show k < j + (t : Int) ∨ k = j + (t : Int) by omega) with h | rfl
                  · exact h4 k q1 h
                  · first | exact Or.inl hl | exact Or.inr hd)
                rw [show aW (tb B (F 3)) j sm (t + 1) = 0 from aW_0 (by omega), show wW (tb B (F 3)) j (t + 1) = _ from (if_pos (by omega)), show nW (tb B (F 3)) j (t + 1) = _ from (if_neg (by omega)), show j + (((t + 1 : Nat)) : Int) = j + (t : Int) + 1 by omega, show (((t + 1 : Nat)) : Int) = (t : Int) + 1 by omega] at ih9
                refine zg_lv _ ?_ ih9
                intro q hq
                simp only [List.mem_cons, List.not_mem_nil, or_false] at hq ⊢
                rcases hq with rfl | rfl | rfl | rfl <;> simp
              · simp only [x_ncd] at g5
                refine zg_blk pok2 X 6 [0] (S' := (265, [(3, zI 0), (0, zR (m 0)), (1, zI (tb B (F 3) j)), (2, zI sm)], [zR (m 0), zI (10 * (nW (tb B (F 3)) j t)), zR (m 0)], (rW m (zup (zup (zup (zup (zup F 4 (j + (t : Int))) 12 j) 13 (t : Int)) 14 (nW (tb B (F 3)) j t)) 17 (zlor (zlshl (wW (tb B (F 3)) j t) 8) (tb B (F 3) (j + (t : Int))))) B SS HH NR RV))) rfl ⟨rfl, trivial⟩ ?_
                refine zg_callV pok2 EWX_ok X 0 (vas := []) (vr := [zI (10 * (nW (tb B (F 3)) j t)), zR (m 0)]) (Y1 := (rW m (zup (zup (zup (zup (zup F 4 (j + (t : Int))) 12 j) 13 (t : Int)) 14 (nW (tb B (F 3)) j t)) 17 (zlor (zlshl (wW (tb B (F 3)) j t) 8) (tb B (F 3) (j + (t : Int))))) B SS HH NR RV)) (Y2 := []) rfl rfl (Or.inl rfl) zj_X12_peek rfl rfl rfl rfl (Nat.le_of_ble_eq_true rfl) rfl (zr_peek (F := (zup (zup (zup (zup (zup F 4 (j + (t : Int))) 12 j) 13 (t : Int)) 14 (nW (tb B (F 3)) j t)) 17 (zlor (zlshl (wW (tb B (F 3)) j t) 8) (tb B (F 3) (j + (t : Int)))))) hB hn (show 0 ≤ j + (t : Int) ∧ j + (t : Int) ≤ 1000 by omega)) ⟨by decide, by decide, by decide, by decide⟩ (fun z9 Y9 hz => ?_)
                obtain ⟨rfl, rfl⟩ := hz
                refine zg_blk pok2 X 17 [0, 0, 0, 0, 0] (S' := (181, [(3, zI 0), (0, zR (m 0)), (1, zI (tb B (F 3) j)), (2, zI sm)], [], (rW m (zup (zup (zup (zup (zup F 4 ((j + (t : Int)) + 1)) 12 j) 13 ((t : Int) + 1)) 14 (((10 * (nW (tb B (F 3)) j t)) + (tb B (F 3) (j + (t : Int)))) - 48)) 17 (zlor (zlshl (wW (tb B (F 3)) j t) 8) (tb B (F 3) (j + (t : Int))))) B SS HH NR RV))) rfl ⟨rfl, rfl, rfl, rfl, rfl, rfl, rfl, rfl, rfl, rfl, rfl, trivial⟩ ?_
                have ih9 := ih (t + 1) sm j hsm hj1 hj2 hsk hnl hLD (by have h9 := tb_in (B := B) (n := F 3) (i := j + (t : Int)) (by first | exact h72 hl | exact h73 hd); omega) (by omega) (fun k q1 q2 => by
                  rcases (show k < j + (t : Int) ∨ k = j + (t : Int) by omega) with h | rfl
                  · exact h4 k q1 h
                  · first | exact Or.inl hl | exact Or.inr hd)
                rw [show aW (tb B (F 3)) j sm (t + 1) = 0 from aW_0 (by omega), show wW (tb B (F 3)) j (t + 1) = _ from (if_pos (by omega)), show nW (tb B (F 3)) j (t + 1) = _ from (if_pos (by omega)), show j + (((t + 1 : Nat)) : Int) = j + (t : Int) + 1 by omega, show (((t + 1 : Nat)) : Int) = (t : Int) + 1 by omega] at ih9
                refine zg_lv _ ?_ ih9
                intro q hq
                simp only [List.mem_cons, List.not_mem_nil, or_false] at hq ⊢
                rcases hq with rfl | rfl | rfl | rfl <;> simp
          · simp only [x_ncd] at g2
            refine zg_blk pok2 X 1 [] (S' := (206, [(0, zR (m 0)), (1, zI (tb B (F 3) j)), (2, zI sm), (3, zI (aW (tb B (F 3)) j sm t))], [zR (m 0)], (rW m (zup (zup (zup (zup (zup F 4 (j + (t : Int))) 12 j) 13 (t : Int)) 14 (nW (tb B (F 3)) j t)) 17 (wW (tb B (F 3)) j t)) B SS HH NR RV))) rfl trivial ?_
            refine zg_callV pok2 EWX_ok X 0 (vas := []) (vr := []) (Y1 := (rW m (zup (zup (zup (zup (zup F 4 (j + (t : Int))) 12 j) 13 (t : Int)) 14 (nW (tb B (F 3)) j t)) 17 (wW (tb B (F 3)) j t)) B SS HH NR RV)) (Y2 := []) rfl rfl (Or.inl rfl) zj_X12_peek rfl rfl rfl rfl (Nat.le_of_ble_eq_true rfl) rfl (zr_peek (F := (zup (zup (zup (zup (zup F 4 (j + (t : Int))) 12 j) 13 (t : Int)) 14 (nW (tb B (F 3)) j t)) 17 (wW (tb B (F 3)) j t))) hB hn (show 0 ≤ j + (t : Int) ∧ j + (t : Int) ≤ 1000 by omega)) ⟨by decide, by decide, by decide, by decide⟩ (fun z9 Y9 hz => ?_)
            obtain ⟨rfl, rfl⟩ := hz
            refine zg_callS pok2 EWX_ok X (vas := [zI (tb B (F 3) (j + (t : Int)))]) (vr := []) (Y1 := (rW m (zup (zup (zup (zup (zup F 4 (j + (t : Int))) 12 j) 13 (t : Int)) 14 (nW (tb B (F 3)) j t)) 17 (wW (tb B (F 3)) j t)) B SS HH NR RV)) (Y2 := []) rfl rfl (Or.inl rfl) zj_X12_isSmall rfl rfl rfl (Nat.le_of_ble_eq_true rfl) rfl (zr_isSmall (by have h9 := tb_rng (B := B) (F 3) (j + (t : Int)); omega)) ⟨by decide, by decide, by decide, by decide⟩ (fun z9 Y9 hz => ?_)
            rcases hz with ⟨hl2, rfl, rfl⟩ | ⟨hl2, rfl, rfl⟩
            · refine zg_blk pok2 X 1 [] (S' := (213, [(0, zR (m 0)), (1, zI (tb B (F 3) j)), (2, zI sm), (3, zI (aW (tb B (F 3)) j sm t))], [zI sm, zI 1], (rW m (zup (zup (zup (zup (zup F 4 (j + (t : Int))) 12 j) 13 (t : Int)) 14 (nW (tb B (F 3)) j t)) 17 (wW (tb B (F 3)) j t)) B SS HH NR RV))) rfl trivial ?_
              refine zg_icmp X 220 rfl rfl (by have h9 := tb_rng (B := B) (F 3) j; have h8 := tb_rng (B := B) (F 3) (j + (t : Int)); have h7 := aW_01 (tb B (F 3)) j sm t; unfold zin; omega) (by have h9 := tb_rng (B := B) (F 3) j; have h8 := tb_rng (B := B) (F 3) (j + (t : Int)); have h7 := aW_01 (tb B (F 3)) j sm t; unfold zin; omega) (fun g6 => ?_) (fun g6 => ?_)
              · simp only [x_cnd] at g6
                refine zg_blk pok2 X 5 [0] (S' := (228, [(3, zI 0), (0, zR (m 0)), (1, zI (tb B (F 3) j)), (2, zI sm)], [zI 7, zI (t : Int)], (rW m (zup (zup (zup (zup (zup F 4 (j + (t : Int))) 12 j) 13 (t : Int)) 14 (nW (tb B (F 3)) j t)) 17 (wW (tb B (F 3)) j t)) B SS HH NR RV))) rfl ⟨rfl, trivial⟩ ?_
                refine zg_icmp X 248 rfl rfl (by have h9 := tb_rng (B := B) (F 3) j; have h8 := tb_rng (B := B) (F 3) (j + (t : Int)); have h7 := aW_01 (tb B (F 3)) j sm t; unfold zin; omega) (by have h9 := tb_rng (B := B) (F 3) j; have h8 := tb_rng (B := B) (F 3) (j + (t : Int)); have h7 := aW_01 (tb B (F 3)) j sm t; unfold zin; omega) (fun g7 => ?_) (fun g7 => ?_)
                · simp only [x_cnd] at g7
                  refine zg_blk pok2 X 3 [0] (S' := (253, [(3, zI 0), (0, zR (m 0)), (1, zI (tb B (F 3) j)), (2, zI sm)], [zI 3, zI (t : Int)], (rW m (zup (zup (zup (zup (zup F 4 (j + (t : Int))) 12 j) 13 (t : Int)) 14 (nW (tb B (F 3)) j t)) 17 (wW (tb B (F 3)) j t)) B SS HH NR RV))) rfl ⟨rfl, trivial⟩ ?_
                  refine zg_icmp X 275 rfl rfl (by have h9 := tb_rng (B := B) (F 3) j; have h8 := tb_rng (B := B) (F 3) (j + (t : Int)); have h7 := aW_01 (tb B (F 3)) j sm t; unfold zin; omega) (by have h9 := tb_rng (B := B) (F 3) j; have h8 := tb_rng (B := B) (F 3) (j + (t : Int)); have h7 := aW_01 (tb B (F 3)) j sm t; unfold zin; omega) (fun g8 => ?_) (fun g8 => ?_)
                  · simp only [x_cnd] at g8
                    refine zg_blk pok2 X 13 [0, 0, 0, 0] (S' := (181, [(3, zI 0), (0, zR (m 0)), (1, zI (tb B (F 3) j)), (2, zI sm)], [], (rW m (zup (zup (zup (zup (zup F 4 ((j + (t : Int)) + 1)) 12 j) 13 ((t : Int) + 1)) 14 (nW (tb B (F 3)) j t)) 17 (wW (tb B (F 3)) j t)) B SS HH NR RV))) rfl ⟨rfl, rfl, rfl, rfl, rfl, rfl, rfl, rfl, trivial⟩ ?_
                    have ih9 := ih (t + 1) sm j hsm hj1 hj2 hsk hnl hLD (by have h9 := tb_in (B := B) (n := F 3) (i := j + (t : Int)) (by first | exact h72 hl | exact h73 hd); omega) (by omega) (fun k q1 q2 => by
                      rcases (show k < j + (t : Int) ∨ k = j + (t : Int) by omega) with h | rfl
                      · exact h4 k q1 h
                      · first | exact Or.inl hl | exact Or.inr hd)
                    rw [show aW (tb B (F 3)) j sm (t + 1) = 0 from aW_0L hl g6, show wW (tb B (F 3)) j (t + 1) = _ from (if_neg (by omega)), show nW (tb B (F 3)) j (t + 1) = _ from (if_neg (by omega)), show j + (((t + 1 : Nat)) : Int) = j + (t : Int) + 1 by omega, show (((t + 1 : Nat)) : Int) = (t : Int) + 1 by omega] at ih9
                    refine zg_lv _ ?_ ih9
                    intro q hq
                    simp only [List.mem_cons, List.not_mem_nil, or_false] at hq ⊢
                    rcases hq with rfl | rfl | rfl | rfl <;> simp
                  · simp only [x_ncd] at g8
                    refine zg_blk pok2 X 6 [0] (S' := (265, [(3, zI 0), (0, zR (m 0)), (1, zI (tb B (F 3) j)), (2, zI sm)], [zR (m 0), zI (10 * (nW (tb B (F 3)) j t)), zR (m 0)], (rW m (zup (zup (zup (zup (zup F 4 (j + (t : Int))) 12 j) 13 (t : Int)) 14 (nW (tb B (F 3)) j t)) 17 (wW (tb B (F 3)) j t)) B SS HH NR RV))) rfl ⟨rfl, trivial⟩ ?_
                    refine zg_callV pok2 EWX_ok X 0 (vas := []) (vr := [zI (10 * (nW (tb B (F 3)) j t)), zR (m 0)]) (Y1 := (rW m (zup (zup (zup (zup (zup F 4 (j + (t : Int))) 12 j) 13 (t : Int)) 14 (nW (tb B (F 3)) j t)) 17 (wW (tb B (F 3)) j t)) B SS HH NR RV)) (Y2 := []) rfl rfl (Or.inl rfl) zj_X12_peek rfl rfl rfl rfl (Nat.le_of_ble_eq_true rfl) rfl (zr_peek (F := (zup (zup (zup (zup (zup F 4 (j + (t : Int))) 12 j) 13 (t : Int)) 14 (nW (tb B (F 3)) j t)) 17 (wW (tb B (F 3)) j t))) hB hn (show 0 ≤ j + (t : Int) ∧ j + (t : Int) ≤ 1000 by omega)) ⟨by decide, by decide, by decide, by decide⟩ (fun z9 Y9 hz => ?_)
                    obtain ⟨rfl, rfl⟩ := hz
                    refine zg_blk pok2 X 17 [0, 0, 0, 0, 0] (S' := (181, [(3, zI 0), (0, zR (m 0)), (1, zI (tb B (F 3) j)), (2, zI sm)], [], (rW m (zup (zup (zup (zup (zup F 4 ((j + (t : Int)) + 1)) 12 j) 13 ((t : Int) + 1)) 14 (((10 * (nW (tb B (F 3)) j t)) + (tb B (F 3) (j + (t : Int)))) - 48)) 17 (wW (tb B (F 3)) j t)) B SS HH NR RV))) rfl ⟨rfl, rfl, rfl, rfl, rfl, rfl, rfl, rfl, rfl, rfl, rfl, trivial⟩ ?_
                    have ih9 := ih (t + 1) sm j hsm hj1 hj2 hsk hnl hLD (by have h9 := tb_in (B := B) (n := F 3) (i := j + (t : Int)) (by first | exact h72 hl | exact h73 hd); omega) (by omega) (fun k q1 q2 => by
                      rcases (show k < j + (t : Int) ∨ k = j + (t : Int) by omega) with h | rfl
                      · exact h4 k q1 h
                      · first | exact Or.inl hl | exact Or.inr hd)
                    rw [show aW (tb B (F 3)) j sm (t + 1) = 0 from aW_0L hl g6, show wW (tb B (F 3)) j (t + 1) = _ from (if_neg (by omega)), show nW (tb B (F 3)) j (t + 1) = _ from (if_pos (by omega)), show j + (((t + 1 : Nat)) : Int) = j + (t : Int) + 1 by omega, show (((t + 1 : Nat)) : Int) = (t : Int) + 1 by omega] at ih9
                    refine zg_lv _ ?_ ih9
                    intro q hq
                    simp only [List.mem_cons, List.not_mem_nil, or_false] at hq ⊢
                    rcases hq with rfl | rfl | rfl | rfl <;> simp
                · simp only [x_ncd] at g7
                  refine zg_blk pok2 X 6 [0] (S' := (240, [(3, zI 0), (0, zR (m 0)), (1, zI (tb B (F 3) j)), (2, zI sm)], [zR (m 0), zL (zlshl (wW (tb B (F 3)) j t) 8), zR (m 0)], (rW m (zup (zup (zup (zup (zup F 4 (j + (t : Int))) 12 j) 13 (t : Int)) 14 (nW (tb B (F 3)) j t)) 17 (wW (tb B (F 3)) j t)) B SS HH NR RV))) rfl ⟨rfl, trivial⟩ ?_
                  refine zg_callV pok2 EWX_ok X 0 (vas := []) (vr := [zL (zlshl (wW (tb B (F 3)) j t) 8), zR (m 0)]) (Y1 := (rW m (zup (zup (zup (zup (zup F 4 (j + (t : Int))) 12 j) 13 (t : Int)) 14 (nW (tb B (F 3)) j t)) 17 (wW (tb B (F 3)) j t)) B SS HH NR RV)) (Y2 := []) rfl rfl (Or.inl rfl) zj_X12_peek rfl rfl rfl rfl (Nat.le_of_ble_eq_true rfl) rfl (zr_peek (F := (zup (zup (zup (zup (zup F 4 (j + (t : Int))) 12 j) 13 (t : Int)) 14 (nW (tb B (F 3)) j t)) 17 (wW (tb B (F 3)) j t))) hB hn (show 0 ≤ j + (t : Int) ∧ j + (t : Int) ≤ 1000 by omega)) ⟨by decide, by decide, by decide, by decide⟩ (fun z9 Y9 hz => ?_)
                  obtain ⟨rfl, rfl⟩ := hz
                  refine zg_blk pok2 X 6 [0, 0] (S' := (253, [(3, zI 0), (0, zR (m 0)), (1, zI (tb B (F 3) j)), (2, zI sm)], [zI 3, zI (t : Int)], (rW m (zup (zup (zup (zup (zup F 4 (j + (t : Int))) 12 j) 13 (t : Int)) 14 (nW (tb B (F 3)) j t)) 17 (zlor (zlshl (wW (tb B (F 3)) j t) 8) (tb B (F 3) (j + (t : Int))))) B SS HH NR RV))) rfl ⟨(show zin (tb B (F 3) (j + (t : Int))) from by have h9 := tb_rng (B := B) (F 3) j; have h8 := tb_rng (B := B) (F 3) (j + (t : Int)); have h7 := aW_01 (tb B (F 3)) j sm t; unfold zin; omega), rfl, rfl, rfl, rfl, trivial⟩ ?_
                  refine zg_icmp X 275 rfl rfl (by have h9 := tb_rng (B := B) (F 3) j; have h8 := tb_rng (B := B) (F 3) (j + (t : Int)); have h7 := aW_01 (tb B (F 3)) j sm t; unfold zin; omega) (by have h9 := tb_rng (B := B) (F 3) j; have h8 := tb_rng (B := B) (F 3) (j + (t : Int)); have h7 := aW_01 (tb B (F 3)) j sm t; unfold zin; omega) (fun g9 => ?_) (fun g9 => ?_)
                  · simp only [x_cnd] at g9
                    refine zg_blk pok2 X 13 [0, 0, 0, 0] (S' := (181, [(3, zI 0), (0, zR (m 0)), (1, zI (tb B (F 3) j)), (2, zI sm)], [], (rW m (zup (zup (zup (zup (zup F 4 ((j + (t : Int)) + 1)) 12 j) 13 ((t : Int) + 1)) 14 (nW (tb B (F 3)) j t)) 17 (zlor (zlshl (wW (tb B (F 3)) j t) 8) (tb B (F 3) (j + (t : Int))))) B SS HH NR RV))) rfl ⟨rfl, rfl, rfl, rfl, rfl, rfl, rfl, rfl, trivial⟩ ?_
                    have ih9 := ih (t + 1) sm j hsm hj1 hj2 hsk hnl hLD (by have h9 := tb_in (B := B) (n := F 3) (i := j + (t : Int)) (by first | exact h72 hl | exact h73 hd); omega) (by omega) (fun k q1 q2 => by
                      rcases (show k < j + (t : Int) ∨ k = j + (t : Int) by omega) with h | rfl
                      · exact h4 k q1 h
                      · first | exact Or.inl hl | exact Or.inr hd)
                    rw [show aW (tb B (F 3)) j sm (t + 1) = 0 from aW_0L hl g6, show wW (tb B (F 3)) j (t + 1) = _ from (if_pos (by omega)), show nW (tb B (F 3)) j (t + 1) = _ from (if_neg (by omega)), show j + (((t + 1 : Nat)) : Int) = j + (t : Int) + 1 by omega, show (((t + 1 : Nat)) : Int) = (t : Int) + 1 by omega] at ih9
                    refine zg_lv _ ?_ ih9
                    intro q hq
                    simp only [List.mem_cons, List.not_mem_nil, or_false] at hq ⊢
                    rcases hq with rfl | rfl | rfl | rfl <;> simp
                  · simp only [x_ncd] at g9
                    refine zg_blk pok2 X 6 [0] (S' := (265, [(3, zI 0), (0, zR (m 0)), (1, zI (tb B (F 3) j)), (2, zI sm)], [zR (m 0), zI (10 * (nW (tb B (F 3)) j t)), zR (m 0)], (rW m (zup (zup (zup (zup (zup F 4 (j + (t : Int))) 12 j) 13 (t : Int)) 14 (nW (tb B (F 3)) j t)) 17 (zlor (zlshl (wW (tb B (F 3)) j t) 8) (tb B (F 3) (j + (t : Int))))) B SS HH NR RV))) rfl ⟨rfl, trivial⟩ ?_
                    refine zg_callV pok2 EWX_ok X 0 (vas := []) (vr := [zI (10 * (nW (tb B (F 3)) j t)), zR (m 0)]) (Y1 := (rW m (zup (zup (zup (zup (zup F 4 (j + (t : Int))) 12 j) 13 (t : Int)) 14 (nW (tb B (F 3)) j t)) 17 (zlor (zlshl (wW (tb B (F 3)) j t) 8) (tb B (F 3) (j + (t : Int))))) B SS HH NR RV)) (Y2 := []) rfl rfl (Or.inl rfl) zj_X12_peek rfl rfl rfl rfl (Nat.le_of_ble_eq_true rfl) rfl (zr_peek (F := (zup (zup (zup (zup (zup F 4 (j + (t : Int))) 12 j) 13 (t : Int)) 14 (nW (tb B (F 3)) j t)) 17 (zlor (zlshl (wW (tb B (F 3)) j t) 8) (tb B (F 3) (j + (t : Int)))))) hB hn (show 0 ≤ j + (t : Int) ∧ j + (t : Int) ≤ 1000 by omega)) ⟨by decide, by decide, by decide, by decide⟩ (fun z9 Y9 hz => ?_)
                    obtain ⟨rfl, rfl⟩ := hz
                    refine zg_blk pok2 X 17 [0, 0, 0, 0, 0] (S' := (181, [(3, zI 0), (0, zR (m 0)), (1, zI (tb B (F 3) j)), (2, zI sm)], [], (rW m (zup (zup (zup (zup (zup F 4 ((j + (t : Int)) + 1)) 12 j) 13 ((t : Int) + 1)) 14 (((10 * (nW (tb B (F 3)) j t)) + (tb B (F 3) (j + (t : Int)))) - 48)) 17 (zlor (zlshl (wW (tb B (F 3)) j t) 8) (tb B (F 3) (j + (t : Int))))) B SS HH NR RV))) rfl ⟨rfl, rfl, rfl, rfl, rfl, rfl, rfl, rfl, rfl, rfl, rfl, trivial⟩ ?_
                    have ih9 := ih (t + 1) sm j hsm hj1 hj2 hsk hnl hLD (by have h9 := tb_in (B := B) (n := F 3) (i := j + (t : Int)) (by first | exact h72 hl | exact h73 hd); omega) (by omega) (fun k q1 q2 => by
                      rcases (show k < j + (t : Int) ∨ k = j + (t : Int) by omega) with h | rfl
                      · exact h4 k q1 h
                      · first | exact Or.inl hl | exact Or.inr hd)
                    rw [show aW (tb B (F 3)) j sm (t + 1) = 0 from aW_0L hl g6, show wW (tb B (F 3)) j (t + 1) = _ from (if_pos (by omega)), show nW (tb B (F 3)) j (t + 1) = _ from (if_pos (by omega)), show j + (((t + 1 : Nat)) : Int) = j + (t : Int) + 1 by omega, show (((t + 1 : Nat)) : Int) = (t : Int) + 1 by omega] at ih9
                    refine zg_lv _ ?_ ih9
                    intro q hq
                    simp only [List.mem_cons, List.not_mem_nil, or_false] at hq ⊢
                    rcases hq with rfl | rfl | rfl | rfl <;> simp
              · simp only [x_ncd] at g6
                refine zg_blk pok2 X 6 [0] (S' := (228, [(3, zI 1), (0, zR (m 0)), (1, zI (tb B (F 3) j)), (2, zI sm)], [zI 7, zI (t : Int)], (rW m (zup (zup (zup (zup (zup F 4 (j + (t : Int))) 12 j) 13 (t : Int)) 14 (nW (tb B (F 3)) j t)) 17 (wW (tb B (F 3)) j t)) B SS HH NR RV))) rfl ⟨rfl, trivial⟩ ?_
                refine zg_icmp X 248 rfl rfl (by have h9 := tb_rng (B := B) (F 3) j; have h8 := tb_rng (B := B) (F 3) (j + (t : Int)); have h7 := aW_01 (tb B (F 3)) j sm t; unfold zin; omega) (by have h9 := tb_rng (B := B) (F 3) j; have h8 := tb_rng (B := B) (F 3) (j + (t : Int)); have h7 := aW_01 (tb B (F 3)) j sm t; unfold zin; omega) (fun g10 => ?_) (fun g10 => ?_)
                · simp only [x_cnd] at g10
                  refine zg_blk pok2 X 3 [0] (S' := (253, [(3, zI 1), (0, zR (m 0)), (1, zI (tb B (F 3) j)), (2, zI sm)], [zI 3, zI (t : Int)], (rW m (zup (zup (zup (zup (zup F 4 (j + (t : Int))) 12 j) 13 (t : Int)) 14 (nW (tb B (F 3)) j t)) 17 (wW (tb B (F 3)) j t)) B SS HH NR RV))) rfl ⟨rfl, trivial⟩ ?_
                  refine zg_icmp X 275 rfl rfl (by have h9 := tb_rng (B := B) (F 3) j; have h8 := tb_rng (B := B) (F 3) (j + (t : Int)); have h7 := aW_01 (tb B (F 3)) j sm t; unfold zin; omega) (by have h9 := tb_rng (B := B) (F 3) j; have h8 := tb_rng (B := B) (F 3) (j + (t : Int)); have h7 := aW_01 (tb B (F 3)) j sm t; unfold zin; omega) (fun g11 => ?_) (fun g11 => ?_)
                  · simp only [x_cnd] at g11
                    refine zg_blk pok2 X 13 [0, 0, 0, 0] (S' := (181, [(3, zI 1), (0, zR (m 0)), (1, zI (tb B (F 3) j)), (2, zI sm)], [], (rW m (zup (zup (zup (zup (zup F 4 ((j + (t : Int)) + 1)) 12 j) 13 ((t : Int) + 1)) 14 (nW (tb B (F 3)) j t)) 17 (wW (tb B (F 3)) j t)) B SS HH NR RV))) rfl ⟨rfl, rfl, rfl, rfl, rfl, rfl, rfl, rfl, trivial⟩ ?_
                    have ih9 := ih (t + 1) sm j hsm hj1 hj2 hsk hnl hLD (by have h9 := tb_in (B := B) (n := F 3) (i := j + (t : Int)) (by first | exact h72 hl | exact h73 hd); omega) (by omega) (fun k q1 q2 => by
                      rcases (show k < j + (t : Int) ∨ k = j + (t : Int) by omega) with h | rfl
                      · exact h4 k q1 h
                      · first | exact Or.inl hl | exact Or.inr hd)
                    rw [show aW (tb B (F 3)) j sm (t + 1) = 1 from aW_1L (by omega) hl g6, show wW (tb B (F 3)) j (t + 1) = _ from (if_neg (by omega)), show nW (tb B (F 3)) j (t + 1) = _ from (if_neg (by omega)), show j + (((t + 1 : Nat)) : Int) = j + (t : Int) + 1 by omega, show (((t + 1 : Nat)) : Int) = (t : Int) + 1 by omega] at ih9
                    refine zg_lv _ ?_ ih9
                    intro q hq
                    simp only [List.mem_cons, List.not_mem_nil, or_false] at hq ⊢
                    rcases hq with rfl | rfl | rfl | rfl <;> simp
                  · simp only [x_ncd] at g11
                    refine zg_blk pok2 X 6 [0] (S' := (265, [(3, zI 1), (0, zR (m 0)), (1, zI (tb B (F 3) j)), (2, zI sm)], [zR (m 0), zI (10 * (nW (tb B (F 3)) j t)), zR (m 0)], (rW m (zup (zup (zup (zup (zup F 4 (j + (t : Int))) 12 j) 13 (t : Int)) 14 (nW (tb B (F 3)) j t)) 17 (wW (tb B (F 3)) j t)) B SS HH NR RV))) rfl ⟨rfl, trivial⟩ ?_
                    refine zg_callV pok2 EWX_ok X 0 (vas := []) (vr := [zI (10 * (nW (tb B (F 3)) j t)), zR (m 0)]) (Y1 := (rW m (zup (zup (zup (zup (zup F 4 (j + (t : Int))) 12 j) 13 (t : Int)) 14 (nW (tb B (F 3)) j t)) 17 (wW (tb B (F 3)) j t)) B SS HH NR RV)) (Y2 := []) rfl rfl (Or.inl rfl) zj_X12_peek rfl rfl rfl rfl (Nat.le_of_ble_eq_true rfl) rfl (zr_peek (F := (zup (zup (zup (zup (zup F 4 (j + (t : Int))) 12 j) 13 (t : Int)) 14 (nW (tb B (F 3)) j t)) 17 (wW (tb B (F 3)) j t))) hB hn (show 0 ≤ j + (t : Int) ∧ j + (t : Int) ≤ 1000 by omega)) ⟨by decide, by decide, by decide, by decide⟩ (fun z9 Y9 hz => ?_)
                    obtain ⟨rfl, rfl⟩ := hz
                    refine zg_blk pok2 X 17 [0, 0, 0, 0, 0] (S' := (181, [(3, zI 1), (0, zR (m 0)), (1, zI (tb B (F 3) j)), (2, zI sm)], [], (rW m (zup (zup (zup (zup (zup F 4 ((j + (t : Int)) + 1)) 12 j) 13 ((t : Int) + 1)) 14 (((10 * (nW (tb B (F 3)) j t)) + (tb B (F 3) (j + (t : Int)))) - 48)) 17 (wW (tb B (F 3)) j t)) B SS HH NR RV))) rfl ⟨rfl, rfl, rfl, rfl, rfl, rfl, rfl, rfl, rfl, rfl, rfl, trivial⟩ ?_
                    have ih9 := ih (t + 1) sm j hsm hj1 hj2 hsk hnl hLD (by have h9 := tb_in (B := B) (n := F 3) (i := j + (t : Int)) (by first | exact h72 hl | exact h73 hd); omega) (by omega) (fun k q1 q2 => by
                      rcases (show k < j + (t : Int) ∨ k = j + (t : Int) by omega) with h | rfl
                      · exact h4 k q1 h
                      · first | exact Or.inl hl | exact Or.inr hd)
                    rw [show aW (tb B (F 3)) j sm (t + 1) = 1 from aW_1L (by omega) hl g6, show wW (tb B (F 3)) j (t + 1) = _ from (if_neg (by omega)), show nW (tb B (F 3)) j (t + 1) = _ from (if_pos (by omega)), show j + (((t + 1 : Nat)) : Int) = j + (t : Int) + 1 by omega, show (((t + 1 : Nat)) : Int) = (t : Int) + 1 by omega] at ih9
                    refine zg_lv _ ?_ ih9
                    intro q hq
                    simp only [List.mem_cons, List.not_mem_nil, or_false] at hq ⊢
                    rcases hq with rfl | rfl | rfl | rfl <;> simp
                · simp only [x_ncd] at g10
                  refine zg_blk pok2 X 6 [0] (S' := (240, [(3, zI 1), (0, zR (m 0)), (1, zI (tb B (F 3) j)), (2, zI sm)], [zR (m 0), zL (zlshl (wW (tb B (F 3)) j t) 8), zR (m 0)], (rW m (zup (zup (zup (zup (zup F 4 (j + (t : Int))) 12 j) 13 (t : Int)) 14 (nW (tb B (F 3)) j t)) 17 (wW (tb B (F 3)) j t)) B SS HH NR RV))) rfl ⟨rfl, trivial⟩ ?_
                  refine zg_callV pok2 EWX_ok X 0 (vas := []) (vr := [zL (zlshl (wW (tb B (F 3)) j t) 8), zR (m 0)]) (Y1 := (rW m (zup (zup (zup (zup (zup F 4 (j + (t : Int))) 12 j) 13 (t : Int)) 14 (nW (tb B (F 3)) j t)) 17 (wW (tb B (F 3)) j t)) B SS HH NR RV)) (Y2 := []) rfl rfl (Or.inl rfl) zj_X12_peek rfl rfl rfl rfl (Nat.le_of_ble_eq_true rfl) rfl (zr_peek (F := (zup (zup (zup (zup (zup F 4 (j + (t : Int))) 12 j) 13 (t : Int)) 14 (nW (tb B (F 3)) j t)) 17 (wW (tb B (F 3)) j t))) hB hn (show 0 ≤ j + (t : Int) ∧ j + (t : Int) ≤ 1000 by omega)) ⟨by decide, by decide, by decide, by decide⟩ (fun z9 Y9 hz => ?_)
                  obtain ⟨rfl, rfl⟩ := hz
                  refine zg_blk pok2 X 6 [0, 0] (S' := (253, [(3, zI 1), (0, zR (m 0)), (1, zI (tb B (F 3) j)), (2, zI sm)], [zI 3, zI (t : Int)], (rW m (zup (zup (zup (zup (zup F 4 (j + (t : Int))) 12 j) 13 (t : Int)) 14 (nW (tb B (F 3)) j t)) 17 (zlor (zlshl (wW (tb B (F 3)) j t) 8) (tb B (F 3) (j + (t : Int))))) B SS HH NR RV))) rfl ⟨(show zin (tb B (F 3) (j + (t : Int))) from by have h9 := tb_rng (B := B) (F 3) j; have h8 := tb_rng (B := B) (F 3) (j + (t : Int)); have h7 := aW_01 (tb B (F 3)) j sm t; unfold zin; omega), rfl, rfl, rfl, rfl, trivial⟩ ?_
                  refine zg_icmp X 275 rfl rfl (by have h9 := tb_rng (B := B) (F 3) j; have h8 := tb_rng (B := B) (F 3) (j + (t : Int)); have h7 := aW_01 (tb B (F 3)) j sm t; unfold zin; omega) (by have h9 := tb_rng (B := B) (F 3) j; have h8 := tb_rng (B := B) (F 3) (j + (t : Int)); have h7 := aW_01 (tb B (F 3)) j sm t; unfold zin; omega) (fun g12 => ?_) (fun g12 => ?_)
                  · simp only [x_cnd] at g12
                    refine zg_blk pok2 X 13 [0, 0, 0, 0] (S' := (181, [(3, zI 1), (0, zR (m 0)), (1, zI (tb B (F 3) j)), (2, zI sm)], [], (rW m (zup (zup (zup (zup (zup F 4 ((j + (t : Int)) + 1)) 12 j) 13 ((t : Int) + 1)) 14 (nW (tb B (F 3)) j t)) 17 (zlor (zlshl (wW (tb B (F 3)) j t) 8) (tb B (F 3) (j + (t : Int))))) B SS HH NR RV))) rfl ⟨rfl, rfl, rfl, rfl, rfl, rfl, rfl, rfl, trivial⟩ ?_
                    have ih9 := ih (t + 1) sm j hsm hj1 hj2 hsk hnl hLD (by have h9 := tb_in (B := B) (n := F 3) (i := j + (t : Int)) (by first | exact h72 hl | exact h73 hd); omega) (by omega) (fun k q1 q2 => by
                      rcases (show k < j + (t : Int) ∨ k = j + (t : Int) by omega) with h | rfl
                      · exact h4 k q1 h
                      · first | exact Or.inl hl | exact Or.inr hd)
                    rw [show aW (tb B (F 3)) j sm (t + 1) = 1 from aW_1L (by omega) hl g6, show wW (tb B (F 3)) j (t + 1) = _ from (if_pos (by omega)), show nW (tb B (F 3)) j (t + 1) = _ from (if_neg (by omega)), show j + (((t + 1 : Nat)) : Int) = j + (t : Int) + 1 by omega, show (((t + 1 : Nat)) : Int) = (t : Int) + 1 by omega] at ih9
                    refine zg_lv _ ?_ ih9
                    intro q hq
                    simp only [List.mem_cons, List.not_mem_nil, or_false] at hq ⊢
                    rcases hq with rfl | rfl | rfl | rfl <;> simp
                  · simp only [x_ncd] at g12
                    refine zg_blk pok2 X 6 [0] (S' := (265, [(3, zI 1), (0, zR (m 0)), (1, zI (tb B (F 3) j)), (2, zI sm)], [zR (m 0), zI (10 * (nW (tb B (F 3)) j t)), zR (m 0)], (rW m (zup (zup (zup (zup (zup F 4 (j + (t : Int))) 12 j) 13 (t : Int)) 14 (nW (tb B (F 3)) j t)) 17 (zlor (zlshl (wW (tb B (F 3)) j t) 8) (tb B (F 3) (j + (t : Int))))) B SS HH NR RV))) rfl ⟨rfl, trivial⟩ ?_
                    refine zg_callV pok2 EWX_ok X 0 (vas := []) (vr := [zI (10 * (nW (tb B (F 3)) j t)), zR (m 0)]) (Y1 := (rW m (zup (zup (zup (zup (zup F 4 (j + (t : Int))) 12 j) 13 (t : Int)) 14 (nW (tb B (F 3)) j t)) 17 (zlor (zlshl (wW (tb B (F 3)) j t) 8) (tb B (F 3) (j + (t : Int))))) B SS HH NR RV)) (Y2 := []) rfl rfl (Or.inl rfl) zj_X12_peek rfl rfl rfl rfl (Nat.le_of_ble_eq_true rfl) rfl (zr_peek (F := (zup (zup (zup (zup (zup F 4 (j + (t : Int))) 12 j) 13 (t : Int)) 14 (nW (tb B (F 3)) j t)) 17 (zlor (zlshl (wW (tb B (F 3)) j t) 8) (tb B (F 3) (j + (t : Int)))))) hB hn (show 0 ≤ j + (t : Int) ∧ j + (t : Int) ≤ 1000 by omega)) ⟨by decide, by decide, by decide, by decide⟩ (fun z9 Y9 hz => ?_)
                    obtain ⟨rfl, rfl⟩ := hz
                    refine zg_blk pok2 X 17 [0, 0, 0, 0, 0] (S' := (181, [(3, zI 1), (0, zR (m 0)), (1, zI (tb B (F 3) j)), (2, zI sm)], [], (rW m (zup (zup (zup (zup (zup F 4 ((j + (t : Int)) + 1)) 12 j) 13 ((t : Int) + 1)) 14 (((10 * (nW (tb B (F 3)) j t)) + (tb B (F 3) (j + (t : Int)))) - 48)) 17 (zlor (zlshl (wW (tb B (F 3)) j t) 8) (tb B (F 3) (j + (t : Int))))) B SS HH NR RV))) rfl ⟨rfl, rfl, rfl, rfl, rfl, rfl, rfl, rfl, rfl, rfl, rfl, trivial⟩ ?_
                    have ih9 := ih (t + 1) sm j hsm hj1 hj2 hsk hnl hLD (by have h9 := tb_in (B := B) (n := F 3) (i := j + (t : Int)) (by first | exact h72 hl | exact h73 hd); omega) (by omega) (fun k q1 q2 => by
                      rcases (show k < j + (t : Int) ∨ k = j + (t : Int) by omega) with h | rfl
                      · exact h4 k q1 h
                      · first | exact Or.inl hl | exact Or.inr hd)
                    rw [show aW (tb B (F 3)) j sm (t + 1) = 1 from aW_1L (by omega) hl g6, show wW (tb B (F 3)) j (t + 1) = _ from (if_pos (by omega)), show nW (tb B (F 3)) j (t + 1) = _ from (if_pos (by omega)), show j + (((t + 1 : Nat)) : Int) = j + (t : Int) + 1 by omega, show (((t + 1 : Nat)) : Int) = (t : Int) + 1 by omega] at ih9
                    refine zg_lv _ ?_ ih9
                    intro q hq
                    simp only [List.mem_cons, List.not_mem_nil, or_false] at hq ⊢
                    rcases hq with rfl | rfl | rfl | rfl <;> simp
            · exact absurd hl hl2
        · exact absurd (show (1 : Int) = (0 : Int) from g1) (by decide)
      · refine zg_if X 201 rfl rfl (by have h9 := tb_rng (B := B) (F 3) j; have h8 := tb_rng (B := B) (F 3) (j + (t : Int)); have h7 := aW_01 (tb B (F 3)) j sm t; unfold zin; omega) (fun g13 => ?_) (fun g13 => ?_)
        · exact absurd (show ¬ (0 : Int) = (0 : Int) from g13) (by decide)
        · simp only [x_ncd] at g13
          refine zg_blk pok2 X 1 [] (S' := (192, [(0, zR (m 0)), (1, zI (tb B (F 3) j)), (2, zI sm), (3, zI (aW (tb B (F 3)) j sm t))], [zR (m 0)], (rW m (zup (zup (zup (zup (zup F 4 (j + (t : Int))) 12 j) 13 (t : Int)) 14 (nW (tb B (F 3)) j t)) 17 (wW (tb B (F 3)) j t)) B SS HH NR RV))) rfl trivial ?_
          refine zg_callV pok2 EWX_ok X 0 (vas := []) (vr := []) (Y1 := (rW m (zup (zup (zup (zup (zup F 4 (j + (t : Int))) 12 j) 13 (t : Int)) 14 (nW (tb B (F 3)) j t)) 17 (wW (tb B (F 3)) j t)) B SS HH NR RV)) (Y2 := []) rfl rfl (Or.inl rfl) zj_X12_peek rfl rfl rfl rfl (Nat.le_of_ble_eq_true rfl) rfl (zr_peek (F := (zup (zup (zup (zup (zup F 4 (j + (t : Int))) 12 j) 13 (t : Int)) 14 (nW (tb B (F 3)) j t)) 17 (wW (tb B (F 3)) j t))) hB hn (show 0 ≤ j + (t : Int) ∧ j + (t : Int) ≤ 1000 by omega)) ⟨by decide, by decide, by decide, by decide⟩ (fun z9 Y9 hz => ?_)
          obtain ⟨rfl, rfl⟩ := hz
          refine zg_callS pok2 EWX_ok X (vas := [zI (tb B (F 3) (j + (t : Int)))]) (vr := []) (Y1 := (rW m (zup (zup (zup (zup (zup F 4 (j + (t : Int))) 12 j) 13 (t : Int)) 14 (nW (tb B (F 3)) j t)) 17 (wW (tb B (F 3)) j t)) B SS HH NR RV)) (Y2 := []) rfl rfl (Or.inl rfl) zj_X12_isDigit rfl rfl rfl (Nat.le_of_ble_eq_true rfl) rfl (zr_isDigit (by have h9 := tb_rng (B := B) (F 3) (j + (t : Int)); omega)) ⟨by decide, by decide, by decide, by decide⟩ (fun z9 Y9 hz => ?_)
          rcases hz with ⟨hd, rfl, rfl⟩ | ⟨hd, rfl, rfl⟩
          · refine zg_if X 298 rfl rfl (by have h9 := tb_rng (B := B) (F 3) j; have h8 := tb_rng (B := B) (F 3) (j + (t : Int)); have h7 := aW_01 (tb B (F 3)) j sm t; unfold zin; omega) (fun g14 => ?_) (fun g14 => ?_)
            · exact absurd (show (1 : Int) = (0 : Int) from g14) (by decide)
            · simp only [x_ncd] at g14
              refine zg_blk pok2 X 1 [] (S' := (202, [(0, zR (m 0)), (1, zI (tb B (F 3) j)), (2, zI sm), (3, zI (aW (tb B (F 3)) j sm t))], [zI (aW (tb B (F 3)) j sm t)], (rW m (zup (zup (zup (zup (zup F 4 (j + (t : Int))) 12 j) 13 (t : Int)) 14 (nW (tb B (F 3)) j t)) 17 (wW (tb B (F 3)) j t)) B SS HH NR RV))) rfl trivial ?_
              refine zg_if X 220 rfl rfl (by have h9 := tb_rng (B := B) (F 3) j; have h8 := tb_rng (B := B) (F 3) (j + (t : Int)); have h7 := aW_01 (tb B (F 3)) j sm t; unfold zin; omega) (fun g15 => ?_) (fun g15 => ?_)
              · simp only [x_cnd] at g15
                refine zg_blk pok2 X 5 [0] (S' := (228, [(3, zI 0), (0, zR (m 0)), (1, zI (tb B (F 3) j)), (2, zI sm)], [zI 7, zI (t : Int)], (rW m (zup (zup (zup (zup (zup F 4 (j + (t : Int))) 12 j) 13 (t : Int)) 14 (nW (tb B (F 3)) j t)) 17 (wW (tb B (F 3)) j t)) B SS HH NR RV))) rfl ⟨rfl, trivial⟩ ?_
                refine zg_icmp X 248 rfl rfl (by have h9 := tb_rng (B := B) (F 3) j; have h8 := tb_rng (B := B) (F 3) (j + (t : Int)); have h7 := aW_01 (tb B (F 3)) j sm t; unfold zin; omega) (by have h9 := tb_rng (B := B) (F 3) j; have h8 := tb_rng (B := B) (F 3) (j + (t : Int)); have h7 := aW_01 (tb B (F 3)) j sm t; unfold zin; omega) (fun g16 => ?_) (fun g16 => ?_)
                · simp only [x_cnd] at g16
                  refine zg_blk pok2 X 3 [0] (S' := (253, [(3, zI 0), (0, zR (m 0)), (1, zI (tb B (F 3) j)), (2, zI sm)], [zI 3, zI (t : Int)], (rW m (zup (zup (zup (zup (zup F 4 (j + (t : Int))) 12 j) 13 (t : Int)) 14 (nW (tb B (F 3)) j t)) 17 (wW (tb B (F 3)) j t)) B SS HH NR RV))) rfl ⟨rfl, trivial⟩ ?_
                  refine zg_icmp X 275 rfl rfl (by have h9 := tb_rng (B := B) (F 3) j; have h8 := tb_rng (B := B) (F 3) (j + (t : Int)); have h7 := aW_01 (tb B (F 3)) j sm t; unfold zin; omega) (by have h9 := tb_rng (B := B) (F 3) j; have h8 := tb_rng (B := B) (F 3) (j + (t : Int)); have h7 := aW_01 (tb B (F 3)) j sm t; unfold zin; omega) (fun g17 => ?_) (fun g17 => ?_)
                  · simp only [x_cnd] at g17
                    refine zg_blk pok2 X 13 [0, 0, 0, 0] (S' := (181, [(3, zI 0), (0, zR (m 0)), (1, zI (tb B (F 3) j)), (2, zI sm)], [], (rW m (zup (zup (zup (zup (zup F 4 ((j + (t : Int)) + 1)) 12 j) 13 ((t : Int) + 1)) 14 (nW (tb B (F 3)) j t)) 17 (wW (tb B (F 3)) j t)) B SS HH NR RV))) rfl ⟨rfl, rfl, rfl, rfl, rfl, rfl, rfl, rfl, trivial⟩ ?_
                    have ih9 := ih (t + 1) sm j hsm hj1 hj2 hsk hnl hLD (by have h9 := tb_in (B := B) (n := F 3) (i := j + (t : Int)) (by first | exact h72 hl | exact h73 hd); omega) (by omega) (fun k q1 q2 => by
                      rcases (show k < j + (t : Int) ∨ k = j + (t : Int) by omega) with h | rfl
                      · exact h4 k q1 h
                      · first | exact Or.inl hl | exact Or.inr hd)
                    rw [show aW (tb B (F 3)) j sm (t + 1) = 0 from aW_0 (by omega), show wW (tb B (F 3)) j (t + 1) = _ from (if_neg (by omega)), show nW (tb B (F 3)) j (t + 1) = _ from (if_neg (by omega)), show j + (((t + 1 : Nat)) : Int) = j + (t : Int) + 1 by omega, show (((t + 1 : Nat)) : Int) = (t : Int) + 1 by omega] at ih9
                    refine zg_lv _ ?_ ih9
                    intro q hq
                    simp only [List.mem_cons, List.not_mem_nil, or_false] at hq ⊢
                    rcases hq with rfl | rfl | rfl | rfl <;> simp
                  · simp only [x_ncd] at g17
                    refine zg_blk pok2 X 6 [0] (S' := (265, [(3, zI 0), (0, zR (m 0)), (1, zI (tb B (F 3) j)), (2, zI sm)], [zR (m 0), zI (10 * (nW (tb B (F 3)) j t)), zR (m 0)], (rW m (zup (zup (zup (zup (zup F 4 (j + (t : Int))) 12 j) 13 (t : Int)) 14 (nW (tb B (F 3)) j t)) 17 (wW (tb B (F 3)) j t)) B SS HH NR RV))) rfl ⟨rfl, trivial⟩ ?_
                    refine zg_callV pok2 EWX_ok X 0 (vas := []) (vr := [zI (10 * (nW (tb B (F 3)) j t)), zR (m 0)]) (Y1 := (rW m (zup (zup (zup (zup (zup F 4 (j + (t : Int))) 12 j) 13 (t : Int)) 14 (nW (tb B (F 3)) j t)) 17 (wW (tb B (F 3)) j t)) B SS HH NR RV)) (Y2 := []) rfl rfl (Or.inl rfl) zj_X12_peek rfl rfl rfl rfl (Nat.le_of_ble_eq_true rfl) rfl (zr_peek (F := (zup (zup (zup (zup (zup F 4 (j + (t : Int))) 12 j) 13 (t : Int)) 14 (nW (tb B (F 3)) j t)) 17 (wW (tb B (F 3)) j t))) hB hn (show 0 ≤ j + (t : Int) ∧ j + (t : Int) ≤ 1000 by omega)) ⟨by decide, by decide, by decide, by decide⟩ (fun z9 Y9 hz => ?_)
                    obtain ⟨rfl, rfl⟩ := hz
                    refine zg_blk pok2 X 17 [0, 0, 0, 0, 0] (S' := (181, [(3, zI 0), (0, zR (m 0)), (1, zI (tb B (F 3) j)), (2, zI sm)], [], (rW m (zup (zup (zup (zup (zup F 4 ((j + (t : Int)) + 1)) 12 j) 13 ((t : Int) + 1)) 14 (((10 * (nW (tb B (F 3)) j t)) + (tb B (F 3) (j + (t : Int)))) - 48)) 17 (wW (tb B (F 3)) j t)) B SS HH NR RV))) rfl ⟨rfl, rfl, rfl, rfl, rfl, rfl, rfl, rfl, rfl, rfl, rfl, trivial⟩ ?_
                    have ih9 := ih (t + 1) sm j hsm hj1 hj2 hsk hnl hLD (by have h9 := tb_in (B := B) (n := F 3) (i := j + (t : Int)) (by first | exact h72 hl | exact h73 hd); omega) (by omega) (fun k q1 q2 => by
                      rcases (show k < j + (t : Int) ∨ k = j + (t : Int) by omega) with h | rfl
                      · exact h4 k q1 h
                      · first | exact Or.inl hl | exact Or.inr hd)
                    rw [show aW (tb B (F 3)) j sm (t + 1) = 0 from aW_0 (by omega), show wW (tb B (F 3)) j (t + 1) = _ from (if_neg (by omega)), show nW (tb B (F 3)) j (t + 1) = _ from (if_pos (by omega)), show j + (((t + 1 : Nat)) : Int) = j + (t : Int) + 1 by omega, show (((t + 1 : Nat)) : Int) = (t : Int) + 1 by omega] at ih9
                    refine zg_lv _ ?_ ih9
                    intro q hq
                    simp only [List.mem_cons, List.not_mem_nil, or_false] at hq ⊢
                    rcases hq with rfl | rfl | rfl | rfl <;> simp
                · simp only [x_ncd] at g16
                  refine zg_blk pok2 X 6 [0] (S' := (240, [(3, zI 0), (0, zR (m 0)), (1, zI (tb B (F 3) j)), (2, zI sm)], [zR (m 0), zL (zlshl (wW (tb B (F 3)) j t) 8), zR (m 0)], (rW m (zup (zup (zup (zup (zup F 4 (j + (t : Int))) 12 j) 13 (t : Int)) 14 (nW (tb B (F 3)) j t)) 17 (wW (tb B (F 3)) j t)) B SS HH NR RV))) rfl ⟨rfl, trivial⟩ ?_
                  refine zg_callV pok2 EWX_ok X 0 (vas := []) (vr := [zL (zlshl (wW (tb B (F 3)) j t) 8), zR (m 0)]) (Y1 := (rW m (zup (zup (zup (zup (zup F 4 (j + (t : Int))) 12 j) 13 (t : Int)) 14 (nW (tb B (F 3)) j t)) 17 (wW (tb B (F 3)) j t)) B SS HH NR RV)) (Y2 := []) rfl rfl (Or.inl rfl) zj_X12_peek rfl rfl rfl rfl (Nat.le_of_ble_eq_true rfl) rfl (zr_peek (F := (zup (zup (zup (zup (zup F 4 (j + (t : Int))) 12 j) 13 (t : Int)) 14 (nW (tb B (F 3)) j t)) 17 (wW (tb B (F 3)) j t))) hB hn (show 0 ≤ j + (t : Int) ∧ j + (t : Int) ≤ 1000 by omega)) ⟨by decide, by decide, by decide, by decide⟩ (fun z9 Y9 hz => ?_)
                  obtain ⟨rfl, rfl⟩ := hz
                  refine zg_blk pok2 X 6 [0, 0] (S' := (253, [(3, zI 0), (0, zR (m 0)), (1, zI (tb B (F 3) j)), (2, zI sm)], [zI 3, zI (t : Int)], (rW m (zup (zup (zup (zup (zup F 4 (j + (t : Int))) 12 j) 13 (t : Int)) 14 (nW (tb B (F 3)) j t)) 17 (zlor (zlshl (wW (tb B (F 3)) j t) 8) (tb B (F 3) (j + (t : Int))))) B SS HH NR RV))) rfl ⟨(show zin (tb B (F 3) (j + (t : Int))) from by have h9 := tb_rng (B := B) (F 3) j; have h8 := tb_rng (B := B) (F 3) (j + (t : Int)); have h7 := aW_01 (tb B (F 3)) j sm t; unfold zin; omega), rfl, rfl, rfl, rfl, trivial⟩ ?_
                  refine zg_icmp X 275 rfl rfl (by have h9 := tb_rng (B := B) (F 3) j; have h8 := tb_rng (B := B) (F 3) (j + (t : Int)); have h7 := aW_01 (tb B (F 3)) j sm t; unfold zin; omega) (by have h9 := tb_rng (B := B) (F 3) j; have h8 := tb_rng (B := B) (F 3) (j + (t : Int)); have h7 := aW_01 (tb B (F 3)) j sm t; unfold zin; omega) (fun g18 => ?_) (fun g18 => ?_)
                  · simp only [x_cnd] at g18
                    refine zg_blk pok2 X 13 [0, 0, 0, 0] (S' := (181, [(3, zI 0), (0, zR (m 0)), (1, zI (tb B (F 3) j)), (2, zI sm)], [], (rW m (zup (zup (zup (zup (zup F 4 ((j + (t : Int)) + 1)) 12 j) 13 ((t : Int) + 1)) 14 (nW (tb B (F 3)) j t)) 17 (zlor (zlshl (wW (tb B (F 3)) j t) 8) (tb B (F 3) (j + (t : Int))))) B SS HH NR RV))) rfl ⟨rfl, rfl, rfl, rfl, rfl, rfl, rfl, rfl, trivial⟩ ?_
                    have ih9 := ih (t + 1) sm j hsm hj1 hj2 hsk hnl hLD (by have h9 := tb_in (B := B) (n := F 3) (i := j + (t : Int)) (by first | exact h72 hl | exact h73 hd); omega) (by omega) (fun k q1 q2 => by
                      rcases (show k < j + (t : Int) ∨ k = j + (t : Int) by omega) with h | rfl
                      · exact h4 k q1 h
                      · first | exact Or.inl hl | exact Or.inr hd)
                    rw [show aW (tb B (F 3)) j sm (t + 1) = 0 from aW_0 (by omega), show wW (tb B (F 3)) j (t + 1) = _ from (if_pos (by omega)), show nW (tb B (F 3)) j (t + 1) = _ from (if_neg (by omega)), show j + (((t + 1 : Nat)) : Int) = j + (t : Int) + 1 by omega, show (((t + 1 : Nat)) : Int) = (t : Int) + 1 by omega] at ih9
                    refine zg_lv _ ?_ ih9
                    intro q hq
                    simp only [List.mem_cons, List.not_mem_nil, or_false] at hq ⊢
                    rcases hq with rfl | rfl | rfl | rfl <;> simp
                  · simp only [x_ncd] at g18
                    refine zg_blk pok2 X 6 [0] (S' := (265, [(3, zI 0), (0, zR (m 0)), (1, zI (tb B (F 3) j)), (2, zI sm)], [zR (m 0), zI (10 * (nW (tb B (F 3)) j t)), zR (m 0)], (rW m (zup (zup (zup (zup (zup F 4 (j + (t : Int))) 12 j) 13 (t : Int)) 14 (nW (tb B (F 3)) j t)) 17 (zlor (zlshl (wW (tb B (F 3)) j t) 8) (tb B (F 3) (j + (t : Int))))) B SS HH NR RV))) rfl ⟨rfl, trivial⟩ ?_
                    refine zg_callV pok2 EWX_ok X 0 (vas := []) (vr := [zI (10 * (nW (tb B (F 3)) j t)), zR (m 0)]) (Y1 := (rW m (zup (zup (zup (zup (zup F 4 (j + (t : Int))) 12 j) 13 (t : Int)) 14 (nW (tb B (F 3)) j t)) 17 (zlor (zlshl (wW (tb B (F 3)) j t) 8) (tb B (F 3) (j + (t : Int))))) B SS HH NR RV)) (Y2 := []) rfl rfl (Or.inl rfl) zj_X12_peek rfl rfl rfl rfl (Nat.le_of_ble_eq_true rfl) rfl (zr_peek (F := (zup (zup (zup (zup (zup F 4 (j + (t : Int))) 12 j) 13 (t : Int)) 14 (nW (tb B (F 3)) j t)) 17 (zlor (zlshl (wW (tb B (F 3)) j t) 8) (tb B (F 3) (j + (t : Int)))))) hB hn (show 0 ≤ j + (t : Int) ∧ j + (t : Int) ≤ 1000 by omega)) ⟨by decide, by decide, by decide, by decide⟩ (fun z9 Y9 hz => ?_)
                    obtain ⟨rfl, rfl⟩ := hz
                    refine zg_blk pok2 X 17 [0, 0, 0, 0, 0] (S' := (181, [(3, zI 0), (0, zR (m 0)), (1, zI (tb B (F 3) j)), (2, zI sm)], [], (rW m (zup (zup (zup (zup (zup F 4 ((j + (t : Int)) + 1)) 12 j) 13 ((t : Int) + 1)) 14 (((10 * (nW (tb B (F 3)) j t)) + (tb B (F 3) (j + (t : Int)))) - 48)) 17 (zlor (zlshl (wW (tb B (F 3)) j t) 8) (tb B (F 3) (j + (t : Int))))) B SS HH NR RV))) rfl ⟨rfl, rfl, rfl, rfl, rfl, rfl, rfl, rfl, rfl, rfl, rfl, trivial⟩ ?_
                    have ih9 := ih (t + 1) sm j hsm hj1 hj2 hsk hnl hLD (by have h9 := tb_in (B := B) (n := F 3) (i := j + (t : Int)) (by first | exact h72 hl | exact h73 hd); omega) (by omega) (fun k q1 q2 => by
                      rcases (show k < j + (t : Int) ∨ k = j + (t : Int) by omega) with h | rfl
                      · exact h4 k q1 h
                      · first | exact Or.inl hl | exact Or.inr hd)
                    rw [show aW (tb B (F 3)) j sm (t + 1) = 0 from aW_0 (by omega), show wW (tb B (F 3)) j (t + 1) = _ from (if_pos (by omega)), show nW (tb B (F 3)) j (t + 1) = _ from (if_pos (by omega)), show j + (((t + 1 : Nat)) : Int) = j + (t : Int) + 1 by omega, show (((t + 1 : Nat)) : Int) = (t : Int) + 1 by omega] at ih9
                    refine zg_lv _ ?_ ih9
                    intro q hq
                    simp only [List.mem_cons, List.not_mem_nil, or_false] at hq ⊢
                    rcases hq with rfl | rfl | rfl | rfl <;> simp
              · simp only [x_ncd] at g15
                refine zg_blk pok2 X 1 [] (S' := (206, [(0, zR (m 0)), (1, zI (tb B (F 3) j)), (2, zI sm), (3, zI (aW (tb B (F 3)) j sm t))], [zR (m 0)], (rW m (zup (zup (zup (zup (zup F 4 (j + (t : Int))) 12 j) 13 (t : Int)) 14 (nW (tb B (F 3)) j t)) 17 (wW (tb B (F 3)) j t)) B SS HH NR RV))) rfl trivial ?_
                refine zg_callV pok2 EWX_ok X 0 (vas := []) (vr := []) (Y1 := (rW m (zup (zup (zup (zup (zup F 4 (j + (t : Int))) 12 j) 13 (t : Int)) 14 (nW (tb B (F 3)) j t)) 17 (wW (tb B (F 3)) j t)) B SS HH NR RV)) (Y2 := []) rfl rfl (Or.inl rfl) zj_X12_peek rfl rfl rfl rfl (Nat.le_of_ble_eq_true rfl) rfl (zr_peek (F := (zup (zup (zup (zup (zup F 4 (j + (t : Int))) 12 j) 13 (t : Int)) 14 (nW (tb B (F 3)) j t)) 17 (wW (tb B (F 3)) j t))) hB hn (show 0 ≤ j + (t : Int) ∧ j + (t : Int) ≤ 1000 by omega)) ⟨by decide, by decide, by decide, by decide⟩ (fun z9 Y9 hz => ?_)
                obtain ⟨rfl, rfl⟩ := hz
                refine zg_callS pok2 EWX_ok X (vas := [zI (tb B (F 3) (j + (t : Int)))]) (vr := []) (Y1 := (rW m (zup (zup (zup (zup (zup F 4 (j + (t : Int))) 12 j) 13 (t : Int)) 14 (nW (tb B (F 3)) j t)) 17 (wW (tb B (F 3)) j t)) B SS HH NR RV)) (Y2 := []) rfl rfl (Or.inl rfl) zj_X12_isSmall rfl rfl rfl (Nat.le_of_ble_eq_true rfl) rfl (zr_isSmall (by have h9 := tb_rng (B := B) (F 3) (j + (t : Int)); omega)) ⟨by decide, by decide, by decide, by decide⟩ (fun z9 Y9 hz => ?_)
                rcases hz with ⟨hl2, rfl, rfl⟩ | ⟨hl2, rfl, rfl⟩
                · exact absurd hl2 hl
                · refine zg_blk pok2 X 1 [] (S' := (213, [(0, zR (m 0)), (1, zI (tb B (F 3) j)), (2, zI sm), (3, zI (aW (tb B (F 3)) j sm t))], [zI sm, zI 0], (rW m (zup (zup (zup (zup (zup F 4 (j + (t : Int))) 12 j) 13 (t : Int)) 14 (nW (tb B (F 3)) j t)) 17 (wW (tb B (F 3)) j t)) B SS HH NR RV))) rfl trivial ?_
                  refine zg_icmp X 220 rfl rfl (by have h9 := tb_rng (B := B) (F 3) j; have h8 := tb_rng (B := B) (F 3) (j + (t : Int)); have h7 := aW_01 (tb B (F 3)) j sm t; unfold zin; omega) (by have h9 := tb_rng (B := B) (F 3) j; have h8 := tb_rng (B := B) (F 3) (j + (t : Int)); have h7 := aW_01 (tb B (F 3)) j sm t; unfold zin; omega) (fun g19 => ?_) (fun g19 => ?_)
                  · simp only [x_cnd] at g19
                    refine zg_blk pok2 X 5 [0] (S' := (228, [(3, zI 0), (0, zR (m 0)), (1, zI (tb B (F 3) j)), (2, zI sm)], [zI 7, zI (t : Int)], (rW m (zup (zup (zup (zup (zup F 4 (j + (t : Int))) 12 j) 13 (t : Int)) 14 (nW (tb B (F 3)) j t)) 17 (wW (tb B (F 3)) j t)) B SS HH NR RV))) rfl ⟨rfl, trivial⟩ ?_
                    refine zg_icmp X 248 rfl rfl (by have h9 := tb_rng (B := B) (F 3) j; have h8 := tb_rng (B := B) (F 3) (j + (t : Int)); have h7 := aW_01 (tb B (F 3)) j sm t; unfold zin; omega) (by have h9 := tb_rng (B := B) (F 3) j; have h8 := tb_rng (B := B) (F 3) (j + (t : Int)); have h7 := aW_01 (tb B (F 3)) j sm t; unfold zin; omega) (fun g20 => ?_) (fun g20 => ?_)
                    · simp only [x_cnd] at g20
                      refine zg_blk pok2 X 3 [0] (S' := (253, [(3, zI 0), (0, zR (m 0)), (1, zI (tb B (F 3) j)), (2, zI sm)], [zI 3, zI (t : Int)], (rW m (zup (zup (zup (zup (zup F 4 (j + (t : Int))) 12 j) 13 (t : Int)) 14 (nW (tb B (F 3)) j t)) 17 (wW (tb B (F 3)) j t)) B SS HH NR RV))) rfl ⟨rfl, trivial⟩ ?_
                      refine zg_icmp X 275 rfl rfl (by have h9 := tb_rng (B := B) (F 3) j; have h8 := tb_rng (B := B) (F 3) (j + (t : Int)); have h7 := aW_01 (tb B (F 3)) j sm t; unfold zin; omega) (by have h9 := tb_rng (B := B) (F 3) j; have h8 := tb_rng (B := B) (F 3) (j + (t : Int)); have h7 := aW_01 (tb B (F 3)) j sm t; unfold zin; omega) (fun g21 => ?_) (fun g21 => ?_)
                      · simp only [x_cnd] at g21
                        refine zg_blk pok2 X 13 [0, 0, 0, 0] (S' := (181, [(3, zI 0), (0, zR (m 0)), (1, zI (tb B (F 3) j)), (2, zI sm)], [], (rW m (zup (zup (zup (zup (zup F 4 ((j + (t : Int)) + 1)) 12 j) 13 ((t : Int) + 1)) 14 (nW (tb B (F 3)) j t)) 17 (wW (tb B (F 3)) j t)) B SS HH NR RV))) rfl ⟨rfl, rfl, rfl, rfl, rfl, rfl, rfl, rfl, trivial⟩ ?_
                        have ih9 := ih (t + 1) sm j hsm hj1 hj2 hsk hnl hLD (by have h9 := tb_in (B := B) (n := F 3) (i := j + (t : Int)) (by first | exact h72 hl | exact h73 hd); omega) (by omega) (fun k q1 q2 => by
                          rcases (show k < j + (t : Int) ∨ k = j + (t : Int) by omega) with h | rfl
                          · exact h4 k q1 h
                          · first | exact Or.inl hl | exact Or.inr hd)
                        rw [show aW (tb B (F 3)) j sm (t + 1) = 0 from aW_0N hl g19, show wW (tb B (F 3)) j (t + 1) = _ from (if_neg (by omega)), show nW (tb B (F 3)) j (t + 1) = _ from (if_neg (by omega)), show j + (((t + 1 : Nat)) : Int) = j + (t : Int) + 1 by omega, show (((t + 1 : Nat)) : Int) = (t : Int) + 1 by omega] at ih9
                        refine zg_lv _ ?_ ih9
                        intro q hq
                        simp only [List.mem_cons, List.not_mem_nil, or_false] at hq ⊢
                        rcases hq with rfl | rfl | rfl | rfl <;> simp
                      · simp only [x_ncd] at g21
                        refine zg_blk pok2 X 6 [0] (S' := (265, [(3, zI 0), (0, zR (m 0)), (1, zI (tb B (F 3) j)), (2, zI sm)], [zR (m 0), zI (10 * (nW (tb B (F 3)) j t)), zR (m 0)], (rW m (zup (zup (zup (zup (zup F 4 (j + (t : Int))) 12 j) 13 (t : Int)) 14 (nW (tb B (F 3)) j t)) 17 (wW (tb B (F 3)) j t)) B SS HH NR RV))) rfl ⟨rfl, trivial⟩ ?_
                        refine zg_callV pok2 EWX_ok X 0 (vas := []) (vr := [zI (10 * (nW (tb B (F 3)) j t)), zR (m 0)]) (Y1 := (rW m (zup (zup (zup (zup (zup F 4 (j + (t : Int))) 12 j) 13 (t : Int)) 14 (nW (tb B (F 3)) j t)) 17 (wW (tb B (F 3)) j t)) B SS HH NR RV)) (Y2 := []) rfl rfl (Or.inl rfl) zj_X12_peek rfl rfl rfl rfl (Nat.le_of_ble_eq_true rfl) rfl (zr_peek (F := (zup (zup (zup (zup (zup F 4 (j + (t : Int))) 12 j) 13 (t : Int)) 14 (nW (tb B (F 3)) j t)) 17 (wW (tb B (F 3)) j t))) hB hn (show 0 ≤ j + (t : Int) ∧ j + (t : Int) ≤ 1000 by omega)) ⟨by decide, by decide, by decide, by decide⟩ (fun z9 Y9 hz => ?_)
                        obtain ⟨rfl, rfl⟩ := hz
                        refine zg_blk pok2 X 17 [0, 0, 0, 0, 0] (S' := (181, [(3, zI 0), (0, zR (m 0)), (1, zI (tb B (F 3) j)), (2, zI sm)], [], (rW m (zup (zup (zup (zup (zup F 4 ((j + (t : Int)) + 1)) 12 j) 13 ((t : Int) + 1)) 14 (((10 * (nW (tb B (F 3)) j t)) + (tb B (F 3) (j + (t : Int)))) - 48)) 17 (wW (tb B (F 3)) j t)) B SS HH NR RV))) rfl ⟨rfl, rfl, rfl, rfl, rfl, rfl, rfl, rfl, rfl, rfl, rfl, trivial⟩ ?_
                        have ih9 := ih (t + 1) sm j hsm hj1 hj2 hsk hnl hLD (by have h9 := tb_in (B := B) (n := F 3) (i := j + (t : Int)) (by first | exact h72 hl | exact h73 hd); omega) (by omega) (fun k q1 q2 => by
                          rcases (show k < j + (t : Int) ∨ k = j + (t : Int) by omega) with h | rfl
                          · exact h4 k q1 h
                          · first | exact Or.inl hl | exact Or.inr hd)
                        rw [show aW (tb B (F 3)) j sm (t + 1) = 0 from aW_0N hl g19, show wW (tb B (F 3)) j (t + 1) = _ from (if_neg (by omega)), show nW (tb B (F 3)) j (t + 1) = _ from (if_pos (by omega)), show j + (((t + 1 : Nat)) : Int) = j + (t : Int) + 1 by omega, show (((t + 1 : Nat)) : Int) = (t : Int) + 1 by omega] at ih9
                        refine zg_lv _ ?_ ih9
                        intro q hq
                        simp only [List.mem_cons, List.not_mem_nil, or_false] at hq ⊢
                        rcases hq with rfl | rfl | rfl | rfl <;> simp
                    · simp only [x_ncd] at g20
                      refine zg_blk pok2 X 6 [0] (S' := (240, [(3, zI 0), (0, zR (m 0)), (1, zI (tb B (F 3) j)), (2, zI sm)], [zR (m 0), zL (zlshl (wW (tb B (F 3)) j t) 8), zR (m 0)], (rW m (zup (zup (zup (zup (zup F 4 (j + (t : Int))) 12 j) 13 (t : Int)) 14 (nW (tb B (F 3)) j t)) 17 (wW (tb B (F 3)) j t)) B SS HH NR RV))) rfl ⟨rfl, trivial⟩ ?_
                      refine zg_callV pok2 EWX_ok X 0 (vas := []) (vr := [zL (zlshl (wW (tb B (F 3)) j t) 8), zR (m 0)]) (Y1 := (rW m (zup (zup (zup (zup (zup F 4 (j + (t : Int))) 12 j) 13 (t : Int)) 14 (nW (tb B (F 3)) j t)) 17 (wW (tb B (F 3)) j t)) B SS HH NR RV)) (Y2 := []) rfl rfl (Or.inl rfl) zj_X12_peek rfl rfl rfl rfl (Nat.le_of_ble_eq_true rfl) rfl (zr_peek (F := (zup (zup (zup (zup (zup F 4 (j + (t : Int))) 12 j) 13 (t : Int)) 14 (nW (tb B (F 3)) j t)) 17 (wW (tb B (F 3)) j t))) hB hn (show 0 ≤ j + (t : Int) ∧ j + (t : Int) ≤ 1000 by omega)) ⟨by decide, by decide, by decide, by decide⟩ (fun z9 Y9 hz => ?_)
                      obtain ⟨rfl, rfl⟩ := hz
                      refine zg_blk pok2 X 6 [0, 0] (S' := (253, [(3, zI 0), (0, zR (m 0)), (1, zI (tb B (F 3) j)), (2, zI sm)], [zI 3, zI (t : Int)], (rW m (zup (zup (zup (zup (zup F 4 (j + (t : Int))) 12 j) 13 (t : Int)) 14 (nW (tb B (F 3)) j t)) 17 (zlor (zlshl (wW (tb B (F 3)) j t) 8) (tb B (F 3) (j + (t : Int))))) B SS HH NR RV))) rfl ⟨(show zin (tb B (F 3) (j + (t : Int))) from by have h9 := tb_rng (B := B) (F 3) j; have h8 := tb_rng (B := B) (F 3) (j + (t : Int)); have h7 := aW_01 (tb B (F 3)) j sm t; unfold zin; omega), rfl, rfl, rfl, rfl, trivial⟩ ?_
                      refine zg_icmp X 275 rfl rfl (by have h9 := tb_rng (B := B) (F 3) j; have h8 := tb_rng (B := B) (F 3) (j + (t : Int)); have h7 := aW_01 (tb B (F 3)) j sm t; unfold zin; omega) (by have h9 := tb_rng (B := B) (F 3) j; have h8 := tb_rng (B := B) (F 3) (j + (t : Int)); have h7 := aW_01 (tb B (F 3)) j sm t; unfold zin; omega) (fun g22 => ?_) (fun g22 => ?_)
                      · simp only [x_cnd] at g22
                        refine zg_blk pok2 X 13 [0, 0, 0, 0] (S' := (181, [(3, zI 0), (0, zR (m 0)), (1, zI (tb B (F 3) j)), (2, zI sm)], [], (rW m (zup (zup (zup (zup (zup F 4 ((j + (t : Int)) + 1)) 12 j) 13 ((t : Int) + 1)) 14 (nW (tb B (F 3)) j t)) 17 (zlor (zlshl (wW (tb B (F 3)) j t) 8) (tb B (F 3) (j + (t : Int))))) B SS HH NR RV))) rfl ⟨rfl, rfl, rfl, rfl, rfl, rfl, rfl, rfl, trivial⟩ ?_
                        have ih9 := ih (t + 1) sm j hsm hj1 hj2 hsk hnl hLD (by have h9 := tb_in (B := B) (n := F 3) (i := j + (t : Int)) (by first | exact h72 hl | exact h73 hd); omega) (by omega) (fun k q1 q2 => by
                          rcases (show k < j + (t : Int) ∨ k = j + (t : Int) by omega) with h | rfl
                          · exact h4 k q1 h
                          · first | exact Or.inl hl | exact Or.inr hd)
                        rw [show aW (tb B (F 3)) j sm (t + 1) = 0 from aW_0N hl g19, show wW (tb B (F 3)) j (t + 1) = _ from (if_pos (by omega)), show nW (tb B (F 3)) j (t + 1) = _ from (if_neg (by omega)), show j + (((t + 1 : Nat)) : Int) = j + (t : Int) + 1 by omega, show (((t + 1 : Nat)) : Int) = (t : Int) + 1 by omega] at ih9
                        refine zg_lv _ ?_ ih9
                        intro q hq
                        simp only [List.mem_cons, List.not_mem_nil, or_false] at hq ⊢
                        rcases hq with rfl | rfl | rfl | rfl <;> simp
                      · simp only [x_ncd] at g22
                        refine zg_blk pok2 X 6 [0] (S' := (265, [(3, zI 0), (0, zR (m 0)), (1, zI (tb B (F 3) j)), (2, zI sm)], [zR (m 0), zI (10 * (nW (tb B (F 3)) j t)), zR (m 0)], (rW m (zup (zup (zup (zup (zup F 4 (j + (t : Int))) 12 j) 13 (t : Int)) 14 (nW (tb B (F 3)) j t)) 17 (zlor (zlshl (wW (tb B (F 3)) j t) 8) (tb B (F 3) (j + (t : Int))))) B SS HH NR RV))) rfl ⟨rfl, trivial⟩ ?_
                        refine zg_callV pok2 EWX_ok X 0 (vas := []) (vr := [zI (10 * (nW (tb B (F 3)) j t)), zR (m 0)]) (Y1 := (rW m (zup (zup (zup (zup (zup F 4 (j + (t : Int))) 12 j) 13 (t : Int)) 14 (nW (tb B (F 3)) j t)) 17 (zlor (zlshl (wW (tb B (F 3)) j t) 8) (tb B (F 3) (j + (t : Int))))) B SS HH NR RV)) (Y2 := []) rfl rfl (Or.inl rfl) zj_X12_peek rfl rfl rfl rfl (Nat.le_of_ble_eq_true rfl) rfl (zr_peek (F := (zup (zup (zup (zup (zup F 4 (j + (t : Int))) 12 j) 13 (t : Int)) 14 (nW (tb B (F 3)) j t)) 17 (zlor (zlshl (wW (tb B (F 3)) j t) 8) (tb B (F 3) (j + (t : Int)))))) hB hn (show 0 ≤ j + (t : Int) ∧ j + (t : Int) ≤ 1000 by omega)) ⟨by decide, by decide, by decide, by decide⟩ (fun z9 Y9 hz => ?_)
                        obtain ⟨rfl, rfl⟩ := hz
                        refine zg_blk pok2 X 17 [0, 0, 0, 0, 0] (S' := (181, [(3, zI 0), (0, zR (m 0)), (1, zI (tb B (F 3) j)), (2, zI sm)], [], (rW m (zup (zup (zup (zup (zup F 4 ((j + (t : Int)) + 1)) 12 j) 13 ((t : Int) + 1)) 14 (((10 * (nW (tb B (F 3)) j t)) + (tb B (F 3) (j + (t : Int)))) - 48)) 17 (zlor (zlshl (wW (tb B (F 3)) j t) 8) (tb B (F 3) (j + (t : Int))))) B SS HH NR RV))) rfl ⟨rfl, rfl, rfl, rfl, rfl, rfl, rfl, rfl, rfl, rfl, rfl, trivial⟩ ?_
                        have ih9 := ih (t + 1) sm j hsm hj1 hj2 hsk hnl hLD (by have h9 := tb_in (B := B) (n := F 3) (i := j + (t : Int)) (by first | exact h72 hl | exact h73 hd); omega) (by omega) (fun k q1 q2 => by
                          rcases (show k < j + (t : Int) ∨ k = j + (t : Int) by omega) with h | rfl
                          · exact h4 k q1 h
                          · first | exact Or.inl hl | exact Or.inr hd)
                        rw [show aW (tb B (F 3)) j sm (t + 1) = 0 from aW_0N hl g19, show wW (tb B (F 3)) j (t + 1) = _ from (if_pos (by omega)), show nW (tb B (F 3)) j (t + 1) = _ from (if_pos (by omega)), show j + (((t + 1 : Nat)) : Int) = j + (t : Int) + 1 by omega, show (((t + 1 : Nat)) : Int) = (t : Int) + 1 by omega] at ih9
                        refine zg_lv _ ?_ ih9
                        intro q hq
                        simp only [List.mem_cons, List.not_mem_nil, or_false] at hq ⊢
                        rcases hq with rfl | rfl | rfl | rfl <;> simp
                  · simp only [x_ncd] at g19
                    refine zg_blk pok2 X 6 [0] (S' := (228, [(3, zI 1), (0, zR (m 0)), (1, zI (tb B (F 3) j)), (2, zI sm)], [zI 7, zI (t : Int)], (rW m (zup (zup (zup (zup (zup F 4 (j + (t : Int))) 12 j) 13 (t : Int)) 14 (nW (tb B (F 3)) j t)) 17 (wW (tb B (F 3)) j t)) B SS HH NR RV))) rfl ⟨rfl, trivial⟩ ?_
                    refine zg_icmp X 248 rfl rfl (by have h9 := tb_rng (B := B) (F 3) j; have h8 := tb_rng (B := B) (F 3) (j + (t : Int)); have h7 := aW_01 (tb B (F 3)) j sm t; unfold zin; omega) (by have h9 := tb_rng (B := B) (F 3) j; have h8 := tb_rng (B := B) (F 3) (j + (t : Int)); have h7 := aW_01 (tb B (F 3)) j sm t; unfold zin; omega) (fun g23 => ?_) (fun g23 => ?_)
                    · simp only [x_cnd] at g23
                      refine zg_blk pok2 X 3 [0] (S' := (253, [(3, zI 1), (0, zR (m 0)), (1, zI (tb B (F 3) j)), (2, zI sm)], [zI 3, zI (t : Int)], (rW m (zup (zup (zup (zup (zup F 4 (j + (t : Int))) 12 j) 13 (t : Int)) 14 (nW (tb B (F 3)) j t)) 17 (wW (tb B (F 3)) j t)) B SS HH NR RV))) rfl ⟨rfl, trivial⟩ ?_
                      refine zg_icmp X 275 rfl rfl (by have h9 := tb_rng (B := B) (F 3) j; have h8 := tb_rng (B := B) (F 3) (j + (t : Int)); have h7 := aW_01 (tb B (F 3)) j sm t; unfold zin; omega) (by have h9 := tb_rng (B := B) (F 3) j; have h8 := tb_rng (B := B) (F 3) (j + (t : Int)); have h7 := aW_01 (tb B (F 3)) j sm t; unfold zin; omega) (fun g24 => ?_) (fun g24 => ?_)
                      · simp only [x_cnd] at g24
                        refine zg_blk pok2 X 13 [0, 0, 0, 0] (S' := (181, [(3, zI 1), (0, zR (m 0)), (1, zI (tb B (F 3) j)), (2, zI sm)], [], (rW m (zup (zup (zup (zup (zup F 4 ((j + (t : Int)) + 1)) 12 j) 13 ((t : Int) + 1)) 14 (nW (tb B (F 3)) j t)) 17 (wW (tb B (F 3)) j t)) B SS HH NR RV))) rfl ⟨rfl, rfl, rfl, rfl, rfl, rfl, rfl, rfl, trivial⟩ ?_
                        have ih9 := ih (t + 1) sm j hsm hj1 hj2 hsk hnl hLD (by have h9 := tb_in (B := B) (n := F 3) (i := j + (t : Int)) (by first | exact h72 hl | exact h73 hd); omega) (by omega) (fun k q1 q2 => by
                          rcases (show k < j + (t : Int) ∨ k = j + (t : Int) by omega) with h | rfl
                          · exact h4 k q1 h
                          · first | exact Or.inl hl | exact Or.inr hd)
                        rw [show aW (tb B (F 3)) j sm (t + 1) = 1 from aW_1N (by omega) hl g19, show wW (tb B (F 3)) j (t + 1) = _ from (if_neg (by omega)), show nW (tb B (F 3)) j (t + 1) = _ from (if_neg (by omega)), show j + (((t + 1 : Nat)) : Int) = j + (t : Int) + 1 by omega, show (((t + 1 : Nat)) : Int) = (t : Int) + 1 by omega] at ih9
                        refine zg_lv _ ?_ ih9
                        intro q hq
                        simp only [List.mem_cons, List.not_mem_nil, or_false] at hq ⊢
                        rcases hq with rfl | rfl | rfl | rfl <;> simp
                      · simp only [x_ncd] at g24
                        refine zg_blk pok2 X 6 [0] (S' := (265, [(3, zI 1), (0, zR (m 0)), (1, zI (tb B (F 3) j)), (2, zI sm)], [zR (m 0), zI (10 * (nW (tb B (F 3)) j t)), zR (m 0)], (rW m (zup (zup (zup (zup (zup F 4 (j + (t : Int))) 12 j) 13 (t : Int)) 14 (nW (tb B (F 3)) j t)) 17 (wW (tb B (F 3)) j t)) B SS HH NR RV))) rfl ⟨rfl, trivial⟩ ?_
                        refine zg_callV pok2 EWX_ok X 0 (vas := []) (vr := [zI (10 * (nW (tb B (F 3)) j t)), zR (m 0)]) (Y1 := (rW m (zup (zup (zup (zup (zup F 4 (j + (t : Int))) 12 j) 13 (t : Int)) 14 (nW (tb B (F 3)) j t)) 17 (wW (tb B (F 3)) j t)) B SS HH NR RV)) (Y2 := []) rfl rfl (Or.inl rfl) zj_X12_peek rfl rfl rfl rfl (Nat.le_of_ble_eq_true rfl) rfl (zr_peek (F := (zup (zup (zup (zup (zup F 4 (j + (t : Int))) 12 j) 13 (t : Int)) 14 (nW (tb B (F 3)) j t)) 17 (wW (tb B (F 3)) j t))) hB hn (show 0 ≤ j + (t : Int) ∧ j + (t : Int) ≤ 1000 by omega)) ⟨by decide, by decide, by decide, by decide⟩ (fun z9 Y9 hz => ?_)
                        obtain ⟨rfl, rfl⟩ := hz
                        refine zg_blk pok2 X 17 [0, 0, 0, 0, 0] (S' := (181, [(3, zI 1), (0, zR (m 0)), (1, zI (tb B (F 3) j)), (2, zI sm)], [], (rW m (zup (zup (zup (zup (zup F 4 ((j + (t : Int)) + 1)) 12 j) 13 ((t : Int) + 1)) 14 (((10 * (nW (tb B (F 3)) j t)) + (tb B (F 3) (j + (t : Int)))) - 48)) 17 (wW (tb B (F 3)) j t)) B SS HH NR RV))) rfl ⟨rfl, rfl, rfl, rfl, rfl, rfl, rfl, rfl, rfl, rfl, rfl, trivial⟩ ?_
                        have ih9 := ih (t + 1) sm j hsm hj1 hj2 hsk hnl hLD (by have h9 := tb_in (B := B) (n := F 3) (i := j + (t : Int)) (by first | exact h72 hl | exact h73 hd); omega) (by omega) (fun k q1 q2 => by
                          rcases (show k < j + (t : Int) ∨ k = j + (t : Int) by omega) with h | rfl
                          · exact h4 k q1 h
                          · first | exact Or.inl hl | exact Or.inr hd)
                        rw [show aW (tb B (F 3)) j sm (t + 1) = 1 from aW_1N (by omega) hl g19, show wW (tb B (F 3)) j (t + 1) = _ from (if_neg (by omega)), show nW (tb B (F 3)) j (t + 1) = _ from (if_pos (by omega)), show j + (((t + 1 : Nat)) : Int) = j + (t : Int) + 1 by omega, show (((t + 1 : Nat)) : Int) = (t : Int) + 1 by omega] at ih9
                        refine zg_lv _ ?_ ih9
                        intro q hq
                        simp only [List.mem_cons, List.not_mem_nil, or_false] at hq ⊢
                        rcases hq with rfl | rfl | rfl | rfl <;> simp
                    · simp only [x_ncd] at g23
                      refine zg_blk pok2 X 6 [0] (S' := (240, [(3, zI 1), (0, zR (m 0)), (1, zI (tb B (F 3) j)), (2, zI sm)], [zR (m 0), zL (zlshl (wW (tb B (F 3)) j t) 8), zR (m 0)], (rW m (zup (zup (zup (zup (zup F 4 (j + (t : Int))) 12 j) 13 (t : Int)) 14 (nW (tb B (F 3)) j t)) 17 (wW (tb B (F 3)) j t)) B SS HH NR RV))) rfl ⟨rfl, trivial⟩ ?_
                      refine zg_callV pok2 EWX_ok X 0 (vas := []) (vr := [zL (zlshl (wW (tb B (F 3)) j t) 8), zR (m 0)]) (Y1 := (rW m (zup (zup (zup (zup (zup F 4 (j + (t : Int))) 12 j) 13 (t : Int)) 14 (nW (tb B (F 3)) j t)) 17 (wW (tb B (F 3)) j t)) B SS HH NR RV)) (Y2 := []) rfl rfl (Or.inl rfl) zj_X12_peek rfl rfl rfl rfl (Nat.le_of_ble_eq_true rfl) rfl (zr_peek (F := (zup (zup (zup (zup (zup F 4 (j + (t : Int))) 12 j) 13 (t : Int)) 14 (nW (tb B (F 3)) j t)) 17 (wW (tb B (F 3)) j t))) hB hn (show 0 ≤ j + (t : Int) ∧ j + (t : Int) ≤ 1000 by omega)) ⟨by decide, by decide, by decide, by decide⟩ (fun z9 Y9 hz => ?_)
                      obtain ⟨rfl, rfl⟩ := hz
                      refine zg_blk pok2 X 6 [0, 0] (S' := (253, [(3, zI 1), (0, zR (m 0)), (1, zI (tb B (F 3) j)), (2, zI sm)], [zI 3, zI (t : Int)], (rW m (zup (zup (zup (zup (zup F 4 (j + (t : Int))) 12 j) 13 (t : Int)) 14 (nW (tb B (F 3)) j t)) 17 (zlor (zlshl (wW (tb B (F 3)) j t) 8) (tb B (F 3) (j + (t : Int))))) B SS HH NR RV))) rfl ⟨(show zin (tb B (F 3) (j + (t : Int))) from by have h9 := tb_rng (B := B) (F 3) j; have h8 := tb_rng (B := B) (F 3) (j + (t : Int)); have h7 := aW_01 (tb B (F 3)) j sm t; unfold zin; omega), rfl, rfl, rfl, rfl, trivial⟩ ?_
                      refine zg_icmp X 275 rfl rfl (by have h9 := tb_rng (B := B) (F 3) j; have h8 := tb_rng (B := B) (F 3) (j + (t : Int)); have h7 := aW_01 (tb B (F 3)) j sm t; unfold zin; omega) (by have h9 := tb_rng (B := B) (F 3) j; have h8 := tb_rng (B := B) (F 3) (j + (t : Int)); have h7 := aW_01 (tb B (F 3)) j sm t; unfold zin; omega) (fun g25 => ?_) (fun g25 => ?_)
                      · simp only [x_cnd] at g25
                        refine zg_blk pok2 X 13 [0, 0, 0, 0] (S' := (181, [(3, zI 1), (0, zR (m 0)), (1, zI (tb B (F 3) j)), (2, zI sm)], [], (rW m (zup (zup (zup (zup (zup F 4 ((j + (t : Int)) + 1)) 12 j) 13 ((t : Int) + 1)) 14 (nW (tb B (F 3)) j t)) 17 (zlor (zlshl (wW (tb B (F 3)) j t) 8) (tb B (F 3) (j + (t : Int))))) B SS HH NR RV))) rfl ⟨rfl, rfl, rfl, rfl, rfl, rfl, rfl, rfl, trivial⟩ ?_
                        have ih9 := ih (t + 1) sm j hsm hj1 hj2 hsk hnl hLD (by have h9 := tb_in (B := B) (n := F 3) (i := j + (t : Int)) (by first | exact h72 hl | exact h73 hd); omega) (by omega) (fun k q1 q2 => by
                          rcases (show k < j + (t : Int) ∨ k = j + (t : Int) by omega) with h | rfl
                          · exact h4 k q1 h
                          · first | exact Or.inl hl | exact Or.inr hd)
                        rw [show aW (tb B (F 3)) j sm (t + 1) = 1 from aW_1N (by omega) hl g19, show wW (tb B (F 3)) j (t + 1) = _ from (if_pos (by omega)), show nW (tb B (F 3)) j (t + 1) = _ from (if_neg (by omega)), show j + (((t + 1 : Nat)) : Int) = j + (t : Int) + 1 by omega, show (((t + 1 : Nat)) : Int) = (t : Int) + 1 by omega] at ih9
                        refine zg_lv _ ?_ ih9
                        intro q hq
                        simp only [List.mem_cons, List.not_mem_nil, or_false] at hq ⊢
                        rcases hq with rfl | rfl | rfl | rfl <;> simp
                      · simp only [x_ncd] at g25
                        refine zg_blk pok2 X 6 [0] (S' := (265, [(3, zI 1), (0, zR (m 0)), (1, zI (tb B (F 3) j)), (2, zI sm)], [zR (m 0), zI (10 * (nW (tb B (F 3)) j t)), zR (m 0)], (rW m (zup (zup (zup (zup (zup F 4 (j + (t : Int))) 12 j) 13 (t : Int)) 14 (nW (tb B (F 3)) j t)) 17 (zlor (zlshl (wW (tb B (F 3)) j t) 8) (tb B (F 3) (j + (t : Int))))) B SS HH NR RV))) rfl ⟨rfl, trivial⟩ ?_
                        refine zg_callV pok2 EWX_ok X 0 (vas := []) (vr := [zI (10 * (nW (tb B (F 3)) j t)), zR (m 0)]) (Y1 := (rW m (zup (zup (zup (zup (zup F 4 (j + (t : Int))) 12 j) 13 (t : Int)) 14 (nW (tb B (F 3)) j t)) 17 (zlor (zlshl (wW (tb B (F 3)) j t) 8) (tb B (F 3) (j + (t : Int))))) B SS HH NR RV)) (Y2 := []) rfl rfl (Or.inl rfl) zj_X12_peek rfl rfl rfl rfl (Nat.le_of_ble_eq_true rfl) rfl (zr_peek (F := (zup (zup (zup (zup (zup F 4 (j + (t : Int))) 12 j) 13 (t : Int)) 14 (nW (tb B (F 3)) j t)) 17 (zlor (zlshl (wW (tb B (F 3)) j t) 8) (tb B (F 3) (j + (t : Int)))))) hB hn (show 0 ≤ j + (t : Int) ∧ j + (t : Int) ≤ 1000 by omega)) ⟨by decide, by decide, by decide, by decide⟩ (fun z9 Y9 hz => ?_)
                        obtain ⟨rfl, rfl⟩ := hz
                        refine zg_blk pok2 X 17 [0, 0, 0, 0, 0] (S' := (181, [(3, zI 1), (0, zR (m 0)), (1, zI (tb B (F 3) j)), (2, zI sm)], [], (rW m (zup (zup (zup (zup (zup F 4 ((j + (t : Int)) + 1)) 12 j) 13 ((t : Int) + 1)) 14 (((10 * (nW (tb B (F 3)) j t)) + (tb B (F 3) (j + (t : Int)))) - 48)) 17 (zlor (zlshl (wW (tb B (F 3)) j t) 8) (tb B (F 3) (j + (t : Int))))) B SS HH NR RV))) rfl ⟨rfl, rfl, rfl, rfl, rfl, rfl, rfl, rfl, rfl, rfl, rfl, trivial⟩ ?_
                        have ih9 := ih (t + 1) sm j hsm hj1 hj2 hsk hnl hLD (by have h9 := tb_in (B := B) (n := F 3) (i := j + (t : Int)) (by first | exact h72 hl | exact h73 hd); omega) (by omega) (fun k q1 q2 => by
                          rcases (show k < j + (t : Int) ∨ k = j + (t : Int) by omega) with h | rfl
                          · exact h4 k q1 h
                          · first | exact Or.inl hl | exact Or.inr hd)
                        rw [show aW (tb B (F 3)) j sm (t + 1) = 1 from aW_1N (by omega) hl g19, show wW (tb B (F 3)) j (t + 1) = _ from (if_pos (by omega)), show nW (tb B (F 3)) j (t + 1) = _ from (if_pos (by omega)), show j + (((t + 1 : Nat)) : Int) = j + (t : Int) + 1 by omega, show (((t + 1 : Nat)) : Int) = (t : Int) + 1 by omega] at ih9
                        refine zg_lv _ ?_ ih9
                        intro q hq
                        simp only [List.mem_cons, List.not_mem_nil, or_false] at hq ⊢
                        rcases hq with rfl | rfl | rfl | rfl <;> simp
          · refine zg_if X 298 rfl rfl (by have h9 := tb_rng (B := B) (F 3) j; have h8 := tb_rng (B := B) (F 3) (j + (t : Int)); have h7 := aW_01 (tb B (F 3)) j sm t; unfold zin; omega) (fun g26 => ?_) (fun g26 => ?_)
            · simp only [x_cnd] at g26
              exact fin9 t sm j hsm hj1 hj2 hsk hnl hLD (by omega) h4 (fun h => h.elim hl hd)
            · exact absurd (show ¬ (0 : Int) = (0 : Int) from g26) (by decide)
  have mid9 : ∀ (j : Int), 0 ≤ j → j ≤ 940 → Sk (tb B (F 3)) (F 4) j → ZG D cy r mt2_X12_next p0 l e0 (rmR (1, 0, 0, 20)) s0 m0 ar0 be0 me0 c0 A0 Q0 0 0 (31, [(0, zR (m 0))], [], (rW m (zup F 4 j) B SS HH NR RV)) := by
    intro j hj1 hj2 hsk
    have hjr := tb_rng (B := B) (F 3) j
    refine zg_blk pok2 X 11 [0, 0, 0, 0, 0] (S' := (52, [(0, zR (m 0))], [zI (F 5), zI (F 3)], (rW m (zup (zup (zup F 4 j) 12 j) 13 0) B SS HH NR RV))) rfl ⟨rfl, rfl, rfl, rfl, rfl, rfl, rfl, rfl, rfl, trivial⟩ ?_
    refine zg_icmp X 80 rfl rfl (by have h9 := tb_rng (B := B) (F 3) j; unfold zin; omega) (by have h9 := tb_rng (B := B) (F 3) j; unfold zin; omega) (fun g1 => ?_) (fun g1 => ?_)
    · simp only [x_cnd] at g1
      refine zg_blk pok2 X 1 [] (S' := (81, [(0, zR (m 0))], [zR (m 0)], (rW m (zup (zup (zup F 4 j) 12 j) 13 0) B SS HH NR RV))) rfl trivial ?_
      refine zg_callV pok2 EWX_ok X 0 (vas := []) (vr := []) (Y1 := (rW m (zup (zup (zup F 4 j) 12 j) 13 0) B SS HH NR RV)) (Y2 := []) rfl rfl (Or.inl rfl) zj_X12_peek rfl rfl rfl rfl (Nat.le_of_ble_eq_true rfl) rfl (zr_peek (F := (zup (zup (zup F 4 j) 12 j) 13 0)) hB hn (show 0 ≤ j ∧ j ≤ 1000 by omega)) ⟨by decide, by decide, by decide, by decide⟩ (fun z9 Y9 hz => ?_)
      obtain ⟨rfl, rfl⟩ := hz
      refine zg_blk pok2 X 2 [] (S' := (86, [(1, zI (tb B (F 3) j)), (0, zR (m 0))], [zI (tb B (F 3) j)], (rW m (zup (zup (zup F 4 j) 12 j) 13 0) B SS HH NR RV))) rfl trivial ?_
      refine zg_if X 95 rfl rfl (by have h9 := tb_rng (B := B) (F 3) j; unfold zin; omega) (fun g2 => ?_) (fun g2 => ?_)
      · simp only [x_cnd] at g2
        refine zg_blk pok2 X 1 [] (S' := (96, [(1, zI (tb B (F 3) j)), (0, zR (m 0))], [zI (tb B (F 3) j)], (rW m (zup (zup (zup F 4 j) 12 j) 13 0) B SS HH NR RV))) rfl trivial ?_
        refine zg_callS pok2 EWX_ok X (vas := [zI (tb B (F 3) j)]) (vr := []) (Y1 := (rW m (zup (zup (zup F 4 j) 12 j) 13 0) B SS HH NR RV)) (Y2 := []) rfl rfl (Or.inl rfl) zj_X12_isSmall rfl rfl rfl (Nat.le_of_ble_eq_true rfl) rfl (zr_isSmall (by have h9 := tb_rng (B := B) (F 3) j; omega)) ⟨by decide, by decide, by decide, by decide⟩ (fun z9 Y9 hz => ?_)
        rcases hz with ⟨hl, rfl, rfl⟩ | ⟨hl, rfl, rfl⟩
        · refine zg_if X 164 rfl rfl (by have h9 := tb_rng (B := B) (F 3) j; unfold zin; omega) (fun g3 => ?_) (fun g3 => ?_)
          · simp only [x_cnd] at g3
            refine zg_blk pok2 X 1 [] (S' := (165, [(1, zI (tb B (F 3) j)), (0, zR (m 0))], [zI (tb B (F 3) j)], (rW m (zup (zup (zup F 4 j) 12 j) 13 0) B SS HH NR RV))) rfl trivial ?_
            refine zg_callS pok2 EWX_ok X (vas := [zI (tb B (F 3) j)]) (vr := []) (Y1 := (rW m (zup (zup (zup F 4 j) 12 j) 13 0) B SS HH NR RV)) (Y2 := []) rfl rfl (Or.inl rfl) zj_X12_isSmall rfl rfl rfl (Nat.le_of_ble_eq_true rfl) rfl (zr_isSmall (by have h9 := tb_rng (B := B) (F 3) j; omega)) ⟨by decide, by decide, by decide, by decide⟩ (fun z9 Y9 hz => ?_)
            rcases hz with ⟨hl2, rfl, rfl⟩ | ⟨hl2, rfl, rfl⟩
            · refine zg_blk pok2 X 9 [0, 0] (S' := (181, [(3, zI 1), (2, zI 1), (1, zI (tb B (F 3) j)), (0, zR (m 0))], [], (rW m (zup (zup (zup (zup (zup F 4 j) 12 j) 13 0) 14 0) 17 0) B SS HH NR RV))) rfl ⟨rfl, rfl, rfl, rfl, rfl, rfl, trivial⟩ ?_
              have l9 := loop 2000 0 1 j (by first | exact Or.inl ⟨hl, rfl⟩ | exact Or.inr ⟨hl, rfl⟩) (by omega) (tb_in (B := B) (n := F 3) (i := j) (by omega)).2 hsk (by omega) (by first | exact Or.inl hl | exact Or.inr hd) (by have h8 := (tb_in (B := B) (n := F 3) (i := j) (by omega)).2; omega) (by omega) (fun k q1 q2 => by omega)
              rw [show j + (((0 : Nat)) : Int) = j by omega] at l9
              refine zg_lv _ ?_ (zg_cv rfl l9)
              intro q hq
              simp only [List.mem_cons, List.not_mem_nil, or_false] at hq ⊢
              rcases hq with rfl | rfl | rfl | rfl <;> simp [aW]
            · exact absurd hl hl2
          · exact absurd (show (1 : Int) = (0 : Int) from g3) (by decide)
        · refine zg_if X 164 rfl rfl (by have h9 := tb_rng (B := B) (F 3) j; unfold zin; omega) (fun g4 => ?_) (fun g4 => ?_)
          · exact absurd (show ¬ (0 : Int) = (0 : Int) from g4) (by decide)
          · simp only [x_ncd] at g4
            refine zg_blk pok2 X 1 [] (S' := (103, [(1, zI (tb B (F 3) j)), (0, zR (m 0))], [zI (tb B (F 3) j)], (rW m (zup (zup (zup F 4 j) 12 j) 13 0) B SS HH NR RV))) rfl trivial ?_
            refine zg_callS pok2 EWX_ok X (vas := [zI (tb B (F 3) j)]) (vr := []) (Y1 := (rW m (zup (zup (zup F 4 j) 12 j) 13 0) B SS HH NR RV)) (Y2 := []) rfl rfl (Or.inl rfl) zj_X12_isDigit rfl rfl rfl (Nat.le_of_ble_eq_true rfl) rfl (zr_isDigit (by have h9 := tb_rng (B := B) (F 3) j; omega)) ⟨by decide, by decide, by decide, by decide⟩ (fun z9 Y9 hz => ?_)
            rcases hz with ⟨hd, rfl, rfl⟩ | ⟨hd, rfl, rfl⟩
            · refine zg_if X 164 rfl rfl (by have h9 := tb_rng (B := B) (F 3) j; unfold zin; omega) (fun g5 => ?_) (fun g5 => ?_)
              · simp only [x_cnd] at g5
                refine zg_blk pok2 X 1 [] (S' := (165, [(1, zI (tb B (F 3) j)), (0, zR (m 0))], [zI (tb B (F 3) j)], (rW m (zup (zup (zup F 4 j) 12 j) 13 0) B SS HH NR RV))) rfl trivial ?_
                refine zg_callS pok2 EWX_ok X (vas := [zI (tb B (F 3) j)]) (vr := []) (Y1 := (rW m (zup (zup (zup F 4 j) 12 j) 13 0) B SS HH NR RV)) (Y2 := []) rfl rfl (Or.inl rfl) zj_X12_isSmall rfl rfl rfl (Nat.le_of_ble_eq_true rfl) rfl (zr_isSmall (by have h9 := tb_rng (B := B) (F 3) j; omega)) ⟨by decide, by decide, by decide, by decide⟩ (fun z9 Y9 hz => ?_)
                rcases hz with ⟨hl2, rfl, rfl⟩ | ⟨hl2, rfl, rfl⟩
                · exact absurd hl2 hl
                · refine zg_blk pok2 X 9 [0, 0] (S' := (181, [(3, zI 1), (2, zI 0), (1, zI (tb B (F 3) j)), (0, zR (m 0))], [], (rW m (zup (zup (zup (zup (zup F 4 j) 12 j) 13 0) 14 0) 17 0) B SS HH NR RV))) rfl ⟨rfl, rfl, rfl, rfl, rfl, rfl, trivial⟩ ?_
                  have l9 := loop 2000 0 0 j (by first | exact Or.inl ⟨hl, rfl⟩ | exact Or.inr ⟨hl, rfl⟩) (by omega) (tb_in (B := B) (n := F 3) (i := j) (by omega)).2 hsk (by omega) (by first | exact Or.inl hl | exact Or.inr hd) (by have h8 := (tb_in (B := B) (n := F 3) (i := j) (by omega)).2; omega) (by omega) (fun k q1 q2 => by omega)
                  rw [show j + (((0 : Nat)) : Int) = j by omega] at l9
                  refine zg_lv _ ?_ (zg_cv rfl l9)
                  intro q hq
                  simp only [List.mem_cons, List.not_mem_nil, or_false] at hq ⊢
                  rcases hq with rfl | rfl | rfl | rfl <;> simp [aW]
              · exact absurd (show (1 : Int) = (0 : Int) from g5) (by decide)
            · refine zg_if X 164 rfl rfl (by have h9 := tb_rng (B := B) (F 3) j; unfold zin; omega) (fun g6 => ?_) (fun g6 => ?_)
              · exact absurd (show ¬ (0 : Int) = (0 : Int) from g6) (by decide)
              · simp only [x_ncd] at g6
                refine zg_blk pok2 X 3 [] (S' := (113, [(1, zI (tb B (F 3) j)), (0, zR (m 0))], [zI 59, zI (tb B (F 3) j), zR (m 0)], (rW m (zup (zup (zup F 4 j) 12 j) 13 0) B SS HH NR RV))) rfl trivial ?_
                refine zg_icmp X 140 rfl rfl (by have h9 := tb_rng (B := B) (F 3) j; unfold zin; omega) (by have h9 := tb_rng (B := B) (F 3) j; unfold zin; omega) (fun g7 => ?_) (fun g7 => ?_)
                · simp only [x_cnd] at g7
                  refine zg_blk pok2 X 12 [0, 0, 0, 0] (S' := (163, [(1, zI (tb B (F 3) j)), (0, zR (m 0))], [], (rW m (zup (zup (zup (zup (zup F 4 (j + 1)) 11 3) 12 j) 13 0) 14 (tb B (F 3) j)) B SS HH NR RV))) rfl ⟨rfl, rfl, rfl, rfl, rfl, rfl, rfl, rfl, rfl, rfl, trivial⟩ ?_
                  refine zg_retv X hR rfl rfl (by decide) (by decide) ?_
                  refine ⟨rfl, _, rfl, ?_, fun k h1 h2 h3 h4 h5 h6 => by simp only [zup_ne h1, zup_ne h2, zup_ne h3, zup_ne h4, zup_ne h5, zup_ne h6]⟩
                  exact ⟨j, hsk, Or.inr (Or.inr ⟨by omega, by have h8 := tb_in (B := B) (n := F 3) (i := j) (by omega); omega, rfl, Or.inl ⟨fun h => h.elim hl hd, rfl, rfl, Or.inl ⟨by unfold isS; omega, rfl⟩⟩⟩)⟩
                · simp only [x_ncd] at g7
                  refine zg_blk pok2 X 2 [] (S' := (119, [(1, zI (tb B (F 3) j)), (0, zR (m 0))], [zI 40, zI (tb B (F 3) j), zR (m 0)], (rW m (zup (zup (zup F 4 j) 12 j) 13 0) B SS HH NR RV))) rfl trivial ?_
                  refine zg_icmp X 140 rfl rfl (by have h9 := tb_rng (B := B) (F 3) j; unfold zin; omega) (by have h9 := tb_rng (B := B) (F 3) j; unfold zin; omega) (fun g8 => ?_) (fun g8 => ?_)
                  · simp only [x_cnd] at g8
                    refine zg_blk pok2 X 12 [0, 0, 0, 0] (S' := (163, [(1, zI (tb B (F 3) j)), (0, zR (m 0))], [], (rW m (zup (zup (zup (zup (zup F 4 (j + 1)) 11 3) 12 j) 13 0) 14 (tb B (F 3) j)) B SS HH NR RV))) rfl ⟨rfl, rfl, rfl, rfl, rfl, rfl, rfl, rfl, rfl, rfl, trivial⟩ ?_
                    refine zg_retv X hR rfl rfl (by decide) (by decide) ?_
                    refine ⟨rfl, _, rfl, ?_, fun k h1 h2 h3 h4 h5 h6 => by simp only [zup_ne h1, zup_ne h2, zup_ne h3, zup_ne h4, zup_ne h5, zup_ne h6]⟩
                    exact ⟨j, hsk, Or.inr (Or.inr ⟨by omega, by have h8 := tb_in (B := B) (n := F 3) (i := j) (by omega); omega, rfl, Or.inl ⟨fun h => h.elim hl hd, rfl, rfl, Or.inl ⟨by unfold isS; omega, rfl⟩⟩⟩)⟩
                  · simp only [x_ncd] at g8
                    refine zg_blk pok2 X 2 [] (S' := (125, [(1, zI (tb B (F 3) j)), (0, zR (m 0))], [zI 41, zI (tb B (F 3) j), zR (m 0)], (rW m (zup (zup (zup F 4 j) 12 j) 13 0) B SS HH NR RV))) rfl trivial ?_
                    refine zg_icmp X 140 rfl rfl (by have h9 := tb_rng (B := B) (F 3) j; unfold zin; omega) (by have h9 := tb_rng (B := B) (F 3) j; unfold zin; omega) (fun g9 => ?_) (fun g9 => ?_)
                    · simp only [x_cnd] at g9
                      refine zg_blk pok2 X 12 [0, 0, 0, 0] (S' := (163, [(1, zI (tb B (F 3) j)), (0, zR (m 0))], [], (rW m (zup (zup (zup (zup (zup F 4 (j + 1)) 11 3) 12 j) 13 0) 14 (tb B (F 3) j)) B SS HH NR RV))) rfl ⟨rfl, rfl, rfl, rfl, rfl, rfl, rfl, rfl, rfl, rfl, trivial⟩ ?_
                      refine zg_retv X hR rfl rfl (by decide) (by decide) ?_
                      refine ⟨rfl, _, rfl, ?_, fun k h1 h2 h3 h4 h5 h6 => by simp only [zup_ne h1, zup_ne h2, zup_ne h3, zup_ne h4, zup_ne h5, zup_ne h6]⟩
                      exact ⟨j, hsk, Or.inr (Or.inr ⟨by omega, by have h8 := tb_in (B := B) (n := F 3) (i := j) (by omega); omega, rfl, Or.inl ⟨fun h => h.elim hl hd, rfl, rfl, Or.inl ⟨by unfold isS; omega, rfl⟩⟩⟩)⟩
                    · simp only [x_ncd] at g9
                      refine zg_blk pok2 X 2 [] (S' := (131, [(1, zI (tb B (F 3) j)), (0, zR (m 0))], [zI 60, zI (tb B (F 3) j), zR (m 0)], (rW m (zup (zup (zup F 4 j) 12 j) 13 0) B SS HH NR RV))) rfl trivial ?_
                      refine zg_icmp X 144 rfl rfl (by have h9 := tb_rng (B := B) (F 3) j; unfold zin; omega) (by have h9 := tb_rng (B := B) (F 3) j; unfold zin; omega) (fun g10 => ?_) (fun g10 => ?_)
                      · simp only [x_cnd] at g10
                        refine zg_blk pok2 X 11 [0, 0, 0, 0] (S' := (163, [(1, zI (tb B (F 3) j)), (0, zR (m 0))], [], (rW m (zup (zup (zup (zup (zup F 4 (j + 1)) 11 4) 12 j) 13 0) 14 (tb B (F 3) j)) B SS HH NR RV))) rfl ⟨rfl, rfl, rfl, rfl, rfl, rfl, rfl, rfl, rfl, rfl, trivial⟩ ?_
                        refine zg_retv X hR rfl rfl (by decide) (by decide) ?_
                        refine ⟨rfl, _, rfl, ?_, fun k h1 h2 h3 h4 h5 h6 => by simp only [zup_ne h1, zup_ne h2, zup_ne h3, zup_ne h4, zup_ne h5, zup_ne h6]⟩
                        exact ⟨j, hsk, Or.inr (Or.inr ⟨by omega, by have h8 := tb_in (B := B) (n := F 3) (i := j) (by omega); omega, rfl, Or.inl ⟨fun h => h.elim hl hd, rfl, rfl, Or.inr ⟨by unfold isS; omega, rfl⟩⟩⟩)⟩
                      · simp only [x_ncd] at g10
                        refine zg_blk pok2 X 2 [] (S' := (137, [(1, zI (tb B (F 3) j)), (0, zR (m 0))], [zI 62, zI (tb B (F 3) j), zR (m 0)], (rW m (zup (zup (zup F 4 j) 12 j) 13 0) B SS HH NR RV))) rfl trivial ?_
                        refine zg_icmp X 144 rfl rfl (by have h9 := tb_rng (B := B) (F 3) j; unfold zin; omega) (by have h9 := tb_rng (B := B) (F 3) j; unfold zin; omega) (fun g11 => ?_) (fun g11 => ?_)
                        · simp only [x_cnd] at g11
                          refine zg_blk pok2 X 11 [0, 0, 0, 0] (S' := (163, [(1, zI (tb B (F 3) j)), (0, zR (m 0))], [], (rW m (zup (zup (zup (zup (zup F 4 (j + 1)) 11 4) 12 j) 13 0) 14 (tb B (F 3) j)) B SS HH NR RV))) rfl ⟨rfl, rfl, rfl, rfl, rfl, rfl, rfl, rfl, rfl, rfl, trivial⟩ ?_
                          refine zg_retv X hR rfl rfl (by decide) (by decide) ?_
                          refine ⟨rfl, _, rfl, ?_, fun k h1 h2 h3 h4 h5 h6 => by simp only [zup_ne h1, zup_ne h2, zup_ne h3, zup_ne h4, zup_ne h5, zup_ne h6]⟩
                          exact ⟨j, hsk, Or.inr (Or.inr ⟨by omega, by have h8 := tb_in (B := B) (n := F 3) (i := j) (by omega); omega, rfl, Or.inl ⟨fun h => h.elim hl hd, rfl, rfl, Or.inr ⟨by unfold isS; omega, rfl⟩⟩⟩)⟩
                        · simp only [x_ncd] at g11
                          refine zg_blk pok2 X 12 [0, 0, 0, 0] (S' := (163, [(1, zI (tb B (F 3) j)), (0, zR (m 0))], [], (rW m (zup (zup (zup (zup (zup F 4 (j + 1)) 11 3) 12 j) 13 0) 14 (tb B (F 3) j)) B SS HH NR RV))) rfl ⟨rfl, rfl, rfl, rfl, rfl, rfl, rfl, rfl, rfl, rfl, trivial⟩ ?_
                          refine zg_retv X hR rfl rfl (by decide) (by decide) ?_
                          refine ⟨rfl, _, rfl, ?_, fun k h1 h2 h3 h4 h5 h6 => by simp only [zup_ne h1, zup_ne h2, zup_ne h3, zup_ne h4, zup_ne h5, zup_ne h6]⟩
                          exact ⟨j, hsk, Or.inr (Or.inr ⟨by omega, by have h8 := tb_in (B := B) (n := F 3) (i := j) (by omega); omega, rfl, Or.inl ⟨fun h => h.elim hl hd, rfl, rfl, Or.inl ⟨by unfold isS; omega, rfl⟩⟩⟩)⟩
      · simp only [x_ncd] at g2
        refine zg_blk pok2 X 3 [0] (S' := (94, [(1, zI (tb B (F 3) j)), (0, zR (m 0))], [], (rW m (zup (zup (zup (zup F 4 j) 11 0) 12 j) 13 0) B SS HH NR RV))) rfl ⟨rfl, rfl, rfl, trivial⟩ ?_
        refine zg_retv X hR rfl rfl (by decide) (by decide) ?_
        refine ⟨rfl, _, rfl, ?_, fun k h1 h2 h3 h4 h5 h6 => by simp only [zup_ne h1, zup_ne h2, zup_ne h3, zup_ne h4, zup_ne h5, zup_ne h6]⟩
        exact ⟨j, hsk, Or.inr (Or.inl ⟨by omega, by
          rcases (show j < F 3 ∨ F 3 ≤ j by omega) with h9 | h9
          · have h8 := tb_val (B := B) (n := F 3) (i := j) ⟨by omega, h9⟩
            omega
          · exact h9, rfl, rfl⟩)⟩
    · simp only [x_ncd] at g1
      refine zg_blk pok2 X 4 [0, 0] (S' := (63, [(0, zR (m 0))], [zI (F 5), zI j], (rW m (zup (zup (zup F 4 j) 12 j) 13 0) B SS HH NR RV))) rfl ⟨rfl, rfl, trivial⟩ ?_
      refine zg_icmp X 80 rfl rfl (by have h9 := tb_rng (B := B) (F 3) j; unfold zin; omega) (by have h9 := tb_rng (B := B) (F 3) j; unfold zin; omega) (fun g12 => ?_) (fun g12 => ?_)
      · simp only [x_cnd] at g12
        refine zg_blk pok2 X 1 [] (S' := (81, [(0, zR (m 0))], [zR (m 0)], (rW m (zup (zup (zup F 4 j) 12 j) 13 0) B SS HH NR RV))) rfl trivial ?_
        refine zg_callV pok2 EWX_ok X 0 (vas := []) (vr := []) (Y1 := (rW m (zup (zup (zup F 4 j) 12 j) 13 0) B SS HH NR RV)) (Y2 := []) rfl rfl (Or.inl rfl) zj_X12_peek rfl rfl rfl rfl (Nat.le_of_ble_eq_true rfl) rfl (zr_peek (F := (zup (zup (zup F 4 j) 12 j) 13 0)) hB hn (show 0 ≤ j ∧ j ≤ 1000 by omega)) ⟨by decide, by decide, by decide, by decide⟩ (fun z9 Y9 hz => ?_)
        obtain ⟨rfl, rfl⟩ := hz
        refine zg_blk pok2 X 2 [] (S' := (86, [(1, zI (tb B (F 3) j)), (0, zR (m 0))], [zI (tb B (F 3) j)], (rW m (zup (zup (zup F 4 j) 12 j) 13 0) B SS HH NR RV))) rfl trivial ?_
        refine zg_if X 95 rfl rfl (by have h9 := tb_rng (B := B) (F 3) j; unfold zin; omega) (fun g13 => ?_) (fun g13 => ?_)
        · simp only [x_cnd] at g13
          refine zg_blk pok2 X 1 [] (S' := (96, [(1, zI (tb B (F 3) j)), (0, zR (m 0))], [zI (tb B (F 3) j)], (rW m (zup (zup (zup F 4 j) 12 j) 13 0) B SS HH NR RV))) rfl trivial ?_
          refine zg_callS pok2 EWX_ok X (vas := [zI (tb B (F 3) j)]) (vr := []) (Y1 := (rW m (zup (zup (zup F 4 j) 12 j) 13 0) B SS HH NR RV)) (Y2 := []) rfl rfl (Or.inl rfl) zj_X12_isSmall rfl rfl rfl (Nat.le_of_ble_eq_true rfl) rfl (zr_isSmall (by have h9 := tb_rng (B := B) (F 3) j; omega)) ⟨by decide, by decide, by decide, by decide⟩ (fun z9 Y9 hz => ?_)
          rcases hz with ⟨hl, rfl, rfl⟩ | ⟨hl, rfl, rfl⟩
          · refine zg_if X 164 rfl rfl (by have h9 := tb_rng (B := B) (F 3) j; unfold zin; omega) (fun g14 => ?_) (fun g14 => ?_)
            · simp only [x_cnd] at g14
              refine zg_blk pok2 X 1 [] (S' := (165, [(1, zI (tb B (F 3) j)), (0, zR (m 0))], [zI (tb B (F 3) j)], (rW m (zup (zup (zup F 4 j) 12 j) 13 0) B SS HH NR RV))) rfl trivial ?_
              refine zg_callS pok2 EWX_ok X (vas := [zI (tb B (F 3) j)]) (vr := []) (Y1 := (rW m (zup (zup (zup F 4 j) 12 j) 13 0) B SS HH NR RV)) (Y2 := []) rfl rfl (Or.inl rfl) zj_X12_isSmall rfl rfl rfl (Nat.le_of_ble_eq_true rfl) rfl (zr_isSmall (by have h9 := tb_rng (B := B) (F 3) j; omega)) ⟨by decide, by decide, by decide, by decide⟩ (fun z9 Y9 hz => ?_)
              rcases hz with ⟨hl2, rfl, rfl⟩ | ⟨hl2, rfl, rfl⟩
              · refine zg_blk pok2 X 9 [0, 0] (S' := (181, [(3, zI 1), (2, zI 1), (1, zI (tb B (F 3) j)), (0, zR (m 0))], [], (rW m (zup (zup (zup (zup (zup F 4 j) 12 j) 13 0) 14 0) 17 0) B SS HH NR RV))) rfl ⟨rfl, rfl, rfl, rfl, rfl, rfl, trivial⟩ ?_
                have l9 := loop 2000 0 1 j (by first | exact Or.inl ⟨hl, rfl⟩ | exact Or.inr ⟨hl, rfl⟩) (by omega) (tb_in (B := B) (n := F 3) (i := j) (by omega)).2 hsk (by omega) (by first | exact Or.inl hl | exact Or.inr hd) (by have h8 := (tb_in (B := B) (n := F 3) (i := j) (by omega)).2; omega) (by omega) (fun k q1 q2 => by omega)
                rw [show j + (((0 : Nat)) : Int) = j by omega] at l9
                refine zg_lv _ ?_ (zg_cv rfl l9)
                intro q hq
                simp only [List.mem_cons, List.not_mem_nil, or_false] at hq ⊢
                rcases hq with rfl | rfl | rfl | rfl <;> simp [aW]
              · exact absurd hl hl2
            · exact absurd (show (1 : Int) = (0 : Int) from g14) (by decide)
          · refine zg_if X 164 rfl rfl (by have h9 := tb_rng (B := B) (F 3) j; unfold zin; omega) (fun g15 => ?_) (fun g15 => ?_)
            · exact absurd (show ¬ (0 : Int) = (0 : Int) from g15) (by decide)
            · simp only [x_ncd] at g15
              refine zg_blk pok2 X 1 [] (S' := (103, [(1, zI (tb B (F 3) j)), (0, zR (m 0))], [zI (tb B (F 3) j)], (rW m (zup (zup (zup F 4 j) 12 j) 13 0) B SS HH NR RV))) rfl trivial ?_
              refine zg_callS pok2 EWX_ok X (vas := [zI (tb B (F 3) j)]) (vr := []) (Y1 := (rW m (zup (zup (zup F 4 j) 12 j) 13 0) B SS HH NR RV)) (Y2 := []) rfl rfl (Or.inl rfl) zj_X12_isDigit rfl rfl rfl (Nat.le_of_ble_eq_true rfl) rfl (zr_isDigit (by have h9 := tb_rng (B := B) (F 3) j; omega)) ⟨by decide, by decide, by decide, by decide⟩ (fun z9 Y9 hz => ?_)
              rcases hz with ⟨hd, rfl, rfl⟩ | ⟨hd, rfl, rfl⟩
              · refine zg_if X 164 rfl rfl (by have h9 := tb_rng (B := B) (F 3) j; unfold zin; omega) (fun g16 => ?_) (fun g16 => ?_)
                · simp only [x_cnd] at g16
                  refine zg_blk pok2 X 1 [] (S' := (165, [(1, zI (tb B (F 3) j)), (0, zR (m 0))], [zI (tb B (F 3) j)], (rW m (zup (zup (zup F 4 j) 12 j) 13 0) B SS HH NR RV))) rfl trivial ?_
                  refine zg_callS pok2 EWX_ok X (vas := [zI (tb B (F 3) j)]) (vr := []) (Y1 := (rW m (zup (zup (zup F 4 j) 12 j) 13 0) B SS HH NR RV)) (Y2 := []) rfl rfl (Or.inl rfl) zj_X12_isSmall rfl rfl rfl (Nat.le_of_ble_eq_true rfl) rfl (zr_isSmall (by have h9 := tb_rng (B := B) (F 3) j; omega)) ⟨by decide, by decide, by decide, by decide⟩ (fun z9 Y9 hz => ?_)
                  rcases hz with ⟨hl2, rfl, rfl⟩ | ⟨hl2, rfl, rfl⟩
                  · exact absurd hl2 hl
                  · refine zg_blk pok2 X 9 [0, 0] (S' := (181, [(3, zI 1), (2, zI 0), (1, zI (tb B (F 3) j)), (0, zR (m 0))], [], (rW m (zup (zup (zup (zup (zup F 4 j) 12 j) 13 0) 14 0) 17 0) B SS HH NR RV))) rfl ⟨rfl, rfl, rfl, rfl, rfl, rfl, trivial⟩ ?_
                    have l9 := loop 2000 0 0 j (by first | exact Or.inl ⟨hl, rfl⟩ | exact Or.inr ⟨hl, rfl⟩) (by omega) (tb_in (B := B) (n := F 3) (i := j) (by omega)).2 hsk (by omega) (by first | exact Or.inl hl | exact Or.inr hd) (by have h8 := (tb_in (B := B) (n := F 3) (i := j) (by omega)).2; omega) (by omega) (fun k q1 q2 => by omega)
                    rw [show j + (((0 : Nat)) : Int) = j by omega] at l9
                    refine zg_lv _ ?_ (zg_cv rfl l9)
                    intro q hq
                    simp only [List.mem_cons, List.not_mem_nil, or_false] at hq ⊢
                    rcases hq with rfl | rfl | rfl | rfl <;> simp [aW]
                · exact absurd (show (1 : Int) = (0 : Int) from g16) (by decide)
              · refine zg_if X 164 rfl rfl (by have h9 := tb_rng (B := B) (F 3) j; unfold zin; omega) (fun g17 => ?_) (fun g17 => ?_)
                · exact absurd (show ¬ (0 : Int) = (0 : Int) from g17) (by decide)
                · simp only [x_ncd] at g17
                  refine zg_blk pok2 X 3 [] (S' := (113, [(1, zI (tb B (F 3) j)), (0, zR (m 0))], [zI 59, zI (tb B (F 3) j), zR (m 0)], (rW m (zup (zup (zup F 4 j) 12 j) 13 0) B SS HH NR RV))) rfl trivial ?_
                  refine zg_icmp X 140 rfl rfl (by have h9 := tb_rng (B := B) (F 3) j; unfold zin; omega) (by have h9 := tb_rng (B := B) (F 3) j; unfold zin; omega) (fun g18 => ?_) (fun g18 => ?_)
                  · simp only [x_cnd] at g18
                    refine zg_blk pok2 X 12 [0, 0, 0, 0] (S' := (163, [(1, zI (tb B (F 3) j)), (0, zR (m 0))], [], (rW m (zup (zup (zup (zup (zup F 4 (j + 1)) 11 3) 12 j) 13 0) 14 (tb B (F 3) j)) B SS HH NR RV))) rfl ⟨rfl, rfl, rfl, rfl, rfl, rfl, rfl, rfl, rfl, rfl, trivial⟩ ?_
                    refine zg_retv X hR rfl rfl (by decide) (by decide) ?_
                    refine ⟨rfl, _, rfl, ?_, fun k h1 h2 h3 h4 h5 h6 => by simp only [zup_ne h1, zup_ne h2, zup_ne h3, zup_ne h4, zup_ne h5, zup_ne h6]⟩
                    exact ⟨j, hsk, Or.inr (Or.inr ⟨by omega, by have h8 := tb_in (B := B) (n := F 3) (i := j) (by omega); omega, rfl, Or.inl ⟨fun h => h.elim hl hd, rfl, rfl, Or.inl ⟨by unfold isS; omega, rfl⟩⟩⟩)⟩
                  · simp only [x_ncd] at g18
                    refine zg_blk pok2 X 2 [] (S' := (119, [(1, zI (tb B (F 3) j)), (0, zR (m 0))], [zI 40, zI (tb B (F 3) j), zR (m 0)], (rW m (zup (zup (zup F 4 j) 12 j) 13 0) B SS HH NR RV))) rfl trivial ?_
                    refine zg_icmp X 140 rfl rfl (by have h9 := tb_rng (B := B) (F 3) j; unfold zin; omega) (by have h9 := tb_rng (B := B) (F 3) j; unfold zin; omega) (fun g19 => ?_) (fun g19 => ?_)
                    · simp only [x_cnd] at g19
                      refine zg_blk pok2 X 12 [0, 0, 0, 0] (S' := (163, [(1, zI (tb B (F 3) j)), (0, zR (m 0))], [], (rW m (zup (zup (zup (zup (zup F 4 (j + 1)) 11 3) 12 j) 13 0) 14 (tb B (F 3) j)) B SS HH NR RV))) rfl ⟨rfl, rfl, rfl, rfl, rfl, rfl, rfl, rfl, rfl, rfl, trivial⟩ ?_
                      refine zg_retv X hR rfl rfl (by decide) (by decide) ?_
                      refine ⟨rfl, _, rfl, ?_, fun k h1 h2 h3 h4 h5 h6 => by simp only [zup_ne h1, zup_ne h2, zup_ne h3, zup_ne h4, zup_ne h5, zup_ne h6]⟩
                      exact ⟨j, hsk, Or.inr (Or.inr ⟨by omega, by have h8 := tb_in (B := B) (n := F 3) (i := j) (by omega); omega, rfl, Or.inl ⟨fun h => h.elim hl hd, rfl, rfl, Or.inl ⟨by unfold isS; omega, rfl⟩⟩⟩)⟩
                    · simp only [x_ncd] at g19
                      refine zg_blk pok2 X 2 [] (S' := (125, [(1, zI (tb B (F 3) j)), (0, zR (m 0))], [zI 41, zI (tb B (F 3) j), zR (m 0)], (rW m (zup (zup (zup F 4 j) 12 j) 13 0) B SS HH NR RV))) rfl trivial ?_
                      refine zg_icmp X 140 rfl rfl (by have h9 := tb_rng (B := B) (F 3) j; unfold zin; omega) (by have h9 := tb_rng (B := B) (F 3) j; unfold zin; omega) (fun g20 => ?_) (fun g20 => ?_)
                      · simp only [x_cnd] at g20
                        refine zg_blk pok2 X 12 [0, 0, 0, 0] (S' := (163, [(1, zI (tb B (F 3) j)), (0, zR (m 0))], [], (rW m (zup (zup (zup (zup (zup F 4 (j + 1)) 11 3) 12 j) 13 0) 14 (tb B (F 3) j)) B SS HH NR RV))) rfl ⟨rfl, rfl, rfl, rfl, rfl, rfl, rfl, rfl, rfl, rfl, trivial⟩ ?_
                        refine zg_retv X hR rfl rfl (by decide) (by decide) ?_
                        refine ⟨rfl, _, rfl, ?_, fun k h1 h2 h3 h4 h5 h6 => by simp only [zup_ne h1, zup_ne h2, zup_ne h3, zup_ne h4, zup_ne h5, zup_ne h6]⟩
                        exact ⟨j, hsk, Or.inr (Or.inr ⟨by omega, by have h8 := tb_in (B := B) (n := F 3) (i := j) (by omega); omega, rfl, Or.inl ⟨fun h => h.elim hl hd, rfl, rfl, Or.inl ⟨by unfold isS; omega, rfl⟩⟩⟩)⟩
                      · simp only [x_ncd] at g20
                        refine zg_blk pok2 X 2 [] (S' := (131, [(1, zI (tb B (F 3) j)), (0, zR (m 0))], [zI 60, zI (tb B (F 3) j), zR (m 0)], (rW m (zup (zup (zup F 4 j) 12 j) 13 0) B SS HH NR RV))) rfl trivial ?_
                        refine zg_icmp X 144 rfl rfl (by have h9 := tb_rng (B := B) (F 3) j; unfold zin; omega) (by have h9 := tb_rng (B := B) (F 3) j; unfold zin; omega) (fun g21 => ?_) (fun g21 => ?_)
                        · simp only [x_cnd] at g21
                          refine zg_blk pok2 X 11 [0, 0, 0, 0] (S' := (163, [(1, zI (tb B (F 3) j)), (0, zR (m 0))], [], (rW m (zup (zup (zup (zup (zup F 4 (j + 1)) 11 4) 12 j) 13 0) 14 (tb B (F 3) j)) B SS HH NR RV))) rfl ⟨rfl, rfl, rfl, rfl, rfl, rfl, rfl, rfl, rfl, rfl, trivial⟩ ?_
                          refine zg_retv X hR rfl rfl (by decide) (by decide) ?_
                          refine ⟨rfl, _, rfl, ?_, fun k h1 h2 h3 h4 h5 h6 => by simp only [zup_ne h1, zup_ne h2, zup_ne h3, zup_ne h4, zup_ne h5, zup_ne h6]⟩
                          exact ⟨j, hsk, Or.inr (Or.inr ⟨by omega, by have h8 := tb_in (B := B) (n := F 3) (i := j) (by omega); omega, rfl, Or.inl ⟨fun h => h.elim hl hd, rfl, rfl, Or.inr ⟨by unfold isS; omega, rfl⟩⟩⟩)⟩
                        · simp only [x_ncd] at g21
                          refine zg_blk pok2 X 2 [] (S' := (137, [(1, zI (tb B (F 3) j)), (0, zR (m 0))], [zI 62, zI (tb B (F 3) j), zR (m 0)], (rW m (zup (zup (zup F 4 j) 12 j) 13 0) B SS HH NR RV))) rfl trivial ?_
                          refine zg_icmp X 144 rfl rfl (by have h9 := tb_rng (B := B) (F 3) j; unfold zin; omega) (by have h9 := tb_rng (B := B) (F 3) j; unfold zin; omega) (fun g22 => ?_) (fun g22 => ?_)
                          · simp only [x_cnd] at g22
                            refine zg_blk pok2 X 11 [0, 0, 0, 0] (S' := (163, [(1, zI (tb B (F 3) j)), (0, zR (m 0))], [], (rW m (zup (zup (zup (zup (zup F 4 (j + 1)) 11 4) 12 j) 13 0) 14 (tb B (F 3) j)) B SS HH NR RV))) rfl ⟨rfl, rfl, rfl, rfl, rfl, rfl, rfl, rfl, rfl, rfl, trivial⟩ ?_
                            refine zg_retv X hR rfl rfl (by decide) (by decide) ?_
                            refine ⟨rfl, _, rfl, ?_, fun k h1 h2 h3 h4 h5 h6 => by simp only [zup_ne h1, zup_ne h2, zup_ne h3, zup_ne h4, zup_ne h5, zup_ne h6]⟩
                            exact ⟨j, hsk, Or.inr (Or.inr ⟨by omega, by have h8 := tb_in (B := B) (n := F 3) (i := j) (by omega); omega, rfl, Or.inl ⟨fun h => h.elim hl hd, rfl, rfl, Or.inr ⟨by unfold isS; omega, rfl⟩⟩⟩)⟩
                          · simp only [x_ncd] at g22
                            refine zg_blk pok2 X 12 [0, 0, 0, 0] (S' := (163, [(1, zI (tb B (F 3) j)), (0, zR (m 0))], [], (rW m (zup (zup (zup (zup (zup F 4 (j + 1)) 11 3) 12 j) 13 0) 14 (tb B (F 3) j)) B SS HH NR RV))) rfl ⟨rfl, rfl, rfl, rfl, rfl, rfl, rfl, rfl, rfl, rfl, trivial⟩ ?_
                            refine zg_retv X hR rfl rfl (by decide) (by decide) ?_
                            refine ⟨rfl, _, rfl, ?_, fun k h1 h2 h3 h4 h5 h6 => by simp only [zup_ne h1, zup_ne h2, zup_ne h3, zup_ne h4, zup_ne h5, zup_ne h6]⟩
                            exact ⟨j, hsk, Or.inr (Or.inr ⟨by omega, by have h8 := tb_in (B := B) (n := F 3) (i := j) (by omega); omega, rfl, Or.inl ⟨fun h => h.elim hl hd, rfl, rfl, Or.inl ⟨by unfold isS; omega, rfl⟩⟩⟩)⟩
        · simp only [x_ncd] at g13
          refine zg_blk pok2 X 3 [0] (S' := (94, [(1, zI (tb B (F 3) j)), (0, zR (m 0))], [], (rW m (zup (zup (zup (zup F 4 j) 11 0) 12 j) 13 0) B SS HH NR RV))) rfl ⟨rfl, rfl, rfl, trivial⟩ ?_
          refine zg_retv X hR rfl rfl (by decide) (by decide) ?_
          refine ⟨rfl, _, rfl, ?_, fun k h1 h2 h3 h4 h5 h6 => by simp only [zup_ne h1, zup_ne h2, zup_ne h3, zup_ne h4, zup_ne h5, zup_ne h6]⟩
          exact ⟨j, hsk, Or.inr (Or.inl ⟨by omega, by
            rcases (show j < F 3 ∨ F 3 ≤ j by omega) with h9 | h9
            · have h8 := tb_val (B := B) (n := F 3) (i := j) ⟨by omega, h9⟩
              omega
            · exact h9, rfl, rfl⟩)⟩
      · simp only [x_ncd] at g12
        refine zg_blk pok2 X 7 [0, 0, 0] (S' := (79, [(0, zR (m 0))], [], (rW m (zup (zup (zup (zup F 4 j) 11 4) 12 (F 5)) 13 0) B SS HH NR RV))) rfl ⟨rfl, rfl, rfl, rfl, rfl, rfl, rfl, trivial⟩ ?_
        refine zg_retv X hR rfl rfl (by decide) (by decide) ?_
        refine ⟨rfl, _, rfl, ?_, fun k h1 h2 h3 h4 h5 h6 => by simp only [zup_ne h1, zup_ne h2, zup_ne h3, zup_ne h4, zup_ne h5, zup_ne h6]⟩
        exact ⟨j, hsk, Or.inl ⟨by omega, by omega, rfl, rfl⟩⟩
  have skip : ∀ (n : Nat) (i : Int), F 4 ≤ i → i ≤ 940 → 940 - i < n → (∀ k, F 4 ≤ k → k < i → isB (tb B (F 3) k)) → ZG D cy r mt2_X12_next p0 l e0 (rmR (1, 0, 0, 20)) s0 m0 ar0 be0 me0 c0 A0 Q0 0 0 (0, [(0, zR (m 0))], [], (rW m (zup F 4 i) B SS HH NR RV)) := by
    intro n
    induction n with
    | zero => intro i h1 h2 h3; omega
    | succ n ih =>
      intro i h1 h2 h3 h4
      have hir := tb_rng (B := B) (F 3) i
      refine zg_blk pok2 X 1 [] (S' := (1, [(0, zR (m 0))], [zR (m 0)], (rW m (zup F 4 i) B SS HH NR RV))) rfl trivial ?_
      refine zg_callV pok2 EWX_ok X 0 (vas := []) (vr := []) (Y1 := (rW m (zup F 4 i) B SS HH NR RV)) (Y2 := []) rfl rfl (Or.inl rfl) zj_X12_peek rfl rfl rfl rfl (Nat.le_of_ble_eq_true rfl) rfl (zr_peek (F := (zup F 4 i)) hB hn (show 0 ≤ i ∧ i ≤ 1000 by omega)) ⟨by decide, by decide, by decide, by decide⟩ (fun z9 Y9 hz => ?_)
      obtain ⟨rfl, rfl⟩ := hz
      refine zg_blk pok2 X 1 [] (S' := (6, [(0, zR (m 0))], [zI 32, zI (tb B (F 3) i)], (rW m (zup F 4 i) B SS HH NR RV))) rfl trivial ?_
      refine zg_icmp X 18 rfl rfl (by have h9 := tb_rng (B := B) (F 3) i; unfold zin; omega) (by have h9 := tb_rng (B := B) (F 3) i; unfold zin; omega) (fun g1 => ?_) (fun g1 => ?_)
      · simp only [x_cnd] at g1
        refine zg_blk pok2 X 7 [0, 0] (S' := (0, [(0, zR (m 0))], [], (rW m (zup F 4 (i + 1)) B SS HH NR RV))) rfl ⟨rfl, rfl, rfl, rfl, trivial⟩ ?_
        exact ih (i + 1) (by omega) (by
          have h9 := tb_in (B := B) (n := F 3) (i := i) (by omega)
          omega) (by omega) (fun k q1 q2 => by
          rcases (show k < i ∨ k = i by omega) with h | rfl
          · exact h4 k q1 h
          · unfold isB; omega)
      · simp only [x_ncd] at g1
        refine zg_blk pok2 X 1 [] (S' := (10, [(0, zR (m 0))], [zR (m 0)], (rW m (zup F 4 i) B SS HH NR RV))) rfl trivial ?_
        refine zg_callV pok2 EWX_ok X 0 (vas := []) (vr := []) (Y1 := (rW m (zup F 4 i) B SS HH NR RV)) (Y2 := []) rfl rfl (Or.inl rfl) zj_X12_peek rfl rfl rfl rfl (Nat.le_of_ble_eq_true rfl) rfl (zr_peek (F := (zup F 4 i)) hB hn (show 0 ≤ i ∧ i ≤ 1000 by omega)) ⟨by decide, by decide, by decide, by decide⟩ (fun z9 Y9 hz => ?_)
        obtain ⟨rfl, rfl⟩ := hz
        refine zg_blk pok2 X 1 [] (S' := (15, [(0, zR (m 0))], [zI 10, zI (tb B (F 3) i)], (rW m (zup F 4 i) B SS HH NR RV))) rfl trivial ?_
        refine zg_icmp X 31 rfl rfl (by have h9 := tb_rng (B := B) (F 3) i; unfold zin; omega) (by have h9 := tb_rng (B := B) (F 3) i; unfold zin; omega) (fun g2 => ?_) (fun g2 => ?_)
        · simp only [x_cnd] at g2
          exact mid9 i (by omega) (by omega) ⟨by omega, h4, by unfold isB; omega⟩
        · simp only [x_ncd] at g2
          refine zg_blk pok2 X 7 [0, 0] (S' := (0, [(0, zR (m 0))], [], (rW m (zup F 4 (i + 1)) B SS HH NR RV))) rfl ⟨rfl, rfl, rfl, rfl, trivial⟩ ?_
          exact ih (i + 1) (by omega) (by
            have h9 := tb_in (B := B) (n := F 3) (i := i) (by omega)
            omega) (by omega) (fun k q1 q2 => by
            rcases (show k < i ∨ k = i by omega) with h | rfl
            · exact h4 k q1 h
            · unfold isB; omega)
  exact zg_cv rfl (skip 2000 (F 4) (by omega) (by omega) (by omega) (fun k q1 q2 => by omega))
end ZR
