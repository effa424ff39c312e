/-! the class's tape and text: worlds, small methods (written by wip/p4/g1.py) -/
def tW (a : Nat → Nat) (F B K S V : Nat → Int) : ZW := [(a 0, .inl (8, [zR (a 1), zI (F 0)])), (a 1, .inr (.inl (1, 940, B))), (a 2, .inl (9, [zR (a 0), zR (a 3), zR (a 4), zR (a 5), zI (F 1), zI (F 2), zI (F 3), zI (F 4), zL (F 5), zI (F 6), zI (F 7)])), (a 3, .inr (.inl (0, 941, K))), (a 4, .inr (.inl (0, 941, S))), (a 5, .inr (.inr (941, V)))]
def stepF (K S V F : Nat → Int) : Nat → Int := if F 6 = 0 ∧ F 2 + 1 < F 1 then zup (zup (zup (zup F 2 (F 2 + 1)) 3 (K (F 2 + 1).toNat)) 4 (S (F 2 + 1).toNat)) 5 (V (F 2 + 1).toNat) else F
def failF (m : Int) (F : Nat → Int) : Nat → Int := if F 6 = 0 then zup (zup (zup F 3 0) 6 m) 7 (F 4) else zup F 3 0
def tnR (lo hi : Int) (F : Nat → Int) : Int := if F 3 = 3 ∧ lo ≤ F 5 ∧ F 5 ≤ hi then F 5 else -1
def tnF (K S V : Nat → Int) (lo hi : Int) (F : Nat → Int) : Nat → Int := if F 3 = 3 then (if lo ≤ F 5 ∧ F 5 ≤ hi then stepF K S V F else failF 2 F) else failF 1 F
def tsF (K S V : Nat → Int) (c : Int) (F : Nat → Int) : Nat → Int := if F 3 = c then stepF K S V F else failF 1 F
theorem z_255 {z : Int} (h1 : -128 ≤ z) (h2 : z ≤ 127) : zand z 255 = z % 256 := by
  have key : ∀ k : Nat, k < 256 → zand (-128 + k) 255 = (-128 + (k : Int)) % 256 := by decide +kernel
  have e : z = -128 + (((z + 128).toNat : Nat) : Int) := by omega
  rw [e]
  exact key _ (by omega)
theorem z_o64 {n : Int} (h : zin64 n) : (Int64.ofInt n).toInt = n := by
  obtain ⟨h1, h2⟩ := h
  rw [Int64.toInt_ofInt]
  exact fb_bmodL (by omega) (by omega)
theorem zlcmp_in (a b : Int) : -1 ≤ zlcmp a b ∧ zlcmp a b ≤ 1 := by
  unfold zlcmp lg_cmp
  split
  · exact ⟨by decide, by decide⟩
  · split <;> exact ⟨by decide, by decide⟩
theorem zlcmp_eq {a b : Int} (ha : zin64 a) (hb : zin64 b) : zlcmp a b = 0 ↔ a = b := by
  have ea := z_o64 ha
  have eb := z_o64 hb
  unfold zlcmp lg_cmp
  constructor
  · intro h
    split at h
    · exact absurd h (by decide)
    · split at h
      · rename_i h2
        have h3 : (Int64.ofInt a).toInt = (Int64.ofInt b).toInt := by rw [h2]
        omega
      · exact absurd h (by decide)
  · rintro rfl
    simp
section ZT
variable {xs : Nat → Int32} {D : va_G} {cy : Nat → ClassId} {l : Launch} {ex : Nat → Nat} {a : Nat → Nat} {F B K S V : Nat → Int} {Y0 : ZW}
set_option maxRecDepth 4000 in
theorem zj_X10_isLetter : PR2[20]? = some mt2_X10_isLetter := rfl
theorem zm_isLetter {z1 : Int} (hz1 : -2147483648 ≤ z1 ∧ z1 < 2147483648) : ZMet (EWX xs) D cy l ex mt2_X10_isLetter (0, 0, 0, 0) Y0 [zI z1] (fun z Y => (isL z1 ∧ z = some (zI 1) ∧ Y = Y0) ∨ (¬ isL z1 ∧ z = some (zI 0) ∧ Y = Y0)) := by
  obtain ⟨mok, tok, ow⟩ := pok2.1 _ _ zj_X10_isLetter
  refine met_ofz EWX_ok mok tok ow (Nat.le_of_ble_eq_true rfl) (fun r p e s m args below meth c0 A Q X hR => ?_)
  refine zg_blk pok2 X 2 [] (S' := (3, [(0, zI z1)], [zI 97, zI z1], Y0)) rfl trivial ?_
  refine zg_icmp X 16 rfl rfl (by unfold zin; omega) (by unfold zin; omega) (fun g1 => ?_) (fun g1 => ?_)
  · simp only [x_cnd] at g1
    refine zg_blk pok2 X 1 [] (S' := (17, [(0, zI z1)], [zI 0], Y0)) rfl trivial ?_
    refine zg_retb X hR rfl rfl (by decide) (by decide) (by first | exact Or.inl rfl | exact Or.inr rfl) ?_
    first | exact Or.inl ⟨by unfold isL; omega, rfl, rfl⟩ | exact Or.inr ⟨by unfold isL; omega, rfl, rfl⟩
  · simp only [x_ncd] at g1
    refine zg_blk pok2 X 2 [] (S' := (9, [(0, zI z1)], [zI 122, zI z1], Y0)) rfl trivial ?_
    refine zg_icmp X 16 rfl rfl (by unfold zin; omega) (by unfold zin; omega) (fun g2 => ?_) (fun g2 => ?_)
    · simp only [x_cnd] at g2
      refine zg_blk pok2 X 1 [] (S' := (17, [(0, zI z1)], [zI 0], Y0)) rfl trivial ?_
      refine zg_retb X hR rfl rfl (by decide) (by decide) (by first | exact Or.inl rfl | exact Or.inr rfl) ?_
      first | exact Or.inl ⟨by unfold isL; omega, rfl, rfl⟩ | exact Or.inr ⟨by unfold isL; omega, rfl, rfl⟩
    · simp only [x_ncd] at g2
      refine zg_blk pok2 X 2 [] (S' := (17, [(0, zI z1)], [zI 1], Y0)) rfl trivial ?_
      refine zg_retb X hR rfl rfl (by decide) (by decide) (by first | exact Or.inl rfl | exact Or.inr rfl) ?_
      first | exact Or.inl ⟨by unfold isL; omega, rfl, rfl⟩ | exact Or.inr ⟨by unfold isL; omega, rfl, rfl⟩
set_option maxRecDepth 4000 in
theorem zj_X10_isDigit : PR2[19]? = some mt2_X10_isDigit := rfl
theorem zm_isDigit {z1 : Int} (hz1 : -2147483648 ≤ z1 ∧ z1 < 2147483648) : ZMet (EWX xs) D cy l ex mt2_X10_isDigit (0, 0, 0, 0) Y0 [zI z1] (fun z Y => (isD z1 ∧ z = some (zI 1) ∧ Y = Y0) ∨ (¬ isD z1 ∧ z = some (zI 0) ∧ Y = Y0)) := by
  obtain ⟨mok, tok, ow⟩ := pok2.1 _ _ zj_X10_isDigit
  refine met_ofz EWX_ok mok tok ow (Nat.le_of_ble_eq_true rfl) (fun r p e s m args below meth c0 A Q X hR => ?_)
  refine zg_blk pok2 X 2 [] (S' := (3, [(0, zI z1)], [zI 48, zI z1], Y0)) rfl trivial ?_
  refine zg_icmp X 16 rfl rfl (by unfold zin; omega) (by unfold zin; omega) (fun g1 => ?_) (fun g1 => ?_)
  · simp only [x_cnd] at g1
    refine zg_blk pok2 X 1 [] (S' := (17, [(0, zI z1)], [zI 0], Y0)) rfl trivial ?_
    refine zg_retb X hR rfl rfl (by decide) (by decide) (by first | exact Or.inl rfl | exact Or.inr rfl) ?_
    first | exact Or.inl ⟨by unfold isD; omega, rfl, rfl⟩ | exact Or.inr ⟨by unfold isD; omega, rfl, rfl⟩
  · simp only [x_ncd] at g1
    refine zg_blk pok2 X 2 [] (S' := (9, [(0, zI z1)], [zI 57, zI z1], Y0)) rfl trivial ?_
    refine zg_icmp X 16 rfl rfl (by unfold zin; omega) (by unfold zin; omega) (fun g2 => ?_) (fun g2 => ?_)
    · simp only [x_cnd] at g2
      refine zg_blk pok2 X 1 [] (S' := (17, [(0, zI z1)], [zI 0], Y0)) rfl trivial ?_
      refine zg_retb X hR rfl rfl (by decide) (by decide) (by first | exact Or.inl rfl | exact Or.inr rfl) ?_
      first | exact Or.inl ⟨by unfold isD; omega, rfl, rfl⟩ | exact Or.inr ⟨by unfold isD; omega, rfl, rfl⟩
    · simp only [x_ncd] at g2
      refine zg_blk pok2 X 2 [] (S' := (17, [(0, zI z1)], [zI 1], Y0)) rfl trivial ?_
      refine zg_retb X hR rfl rfl (by decide) (by decide) (by first | exact Or.inl rfl | exact Or.inr rfl) ?_
      first | exact Or.inl ⟨by unfold isD; omega, rfl, rfl⟩ | exact Or.inr ⟨by unfold isD; omega, rfl, rfl⟩
set_option maxRecDepth 4000 in
theorem zj_J9_min_7cf53 : PR2[6]? = some mt2_J9_min_7cf53 := rfl
theorem zm_min {z1 z2 : Int} (hz1 : -2147483648 ≤ z1 ∧ z1 < 2147483648) (hz2 : -2147483648 ≤ z2 ∧ z2 < 2147483648) : ZMet (EWX xs) D cy l ex mt2_J9_min_7cf53 (0, 0, 0, 0) Y0 [zI z1, zI z2] (fun z Y => z = some (zI (if z1 ≤ z2 then z1 else z2)) ∧ Y = Y0) := by
  obtain ⟨mok, tok, ow⟩ := pok2.1 _ _ zj_J9_min_7cf53
  refine met_ofz EWX_ok mok tok ow (Nat.le_of_ble_eq_true rfl) (fun r p e s m args below meth c0 A Q X hR => ?_)
  refine zg_blk pok2 X 2 [] (S' := (2, [(0, zI z1), (1, zI z2)], [zI z2, zI z1], Y0)) rfl trivial ?_
  refine zg_icmp X 9 rfl rfl (by unfold zin; omega) (by unfold zin; omega) (fun g1 => ?_) (fun g1 => ?_)
  · simp only [x_cnd] at g1
    refine zg_blk pok2 X 1 [] (S' := (10, [(0, zI z1), (1, zI z2)], [zI z2], Y0)) rfl trivial ?_
    refine zg_reti X hR rfl rfl (by decide) (by decide) ?_
    exact ⟨by first | rw [if_pos (by omega)] | rw [if_neg (by omega)], rfl⟩
  · simp only [x_ncd] at g1
    refine zg_blk pok2 X 2 [] (S' := (10, [(0, zI z1), (1, zI z2)], [zI z1], Y0)) rfl trivial ?_
    refine zg_reti X hR rfl rfl (by decide) (by decide) ?_
    exact ⟨by first | rw [if_pos (by omega)] | rw [if_neg (by omega)], rfl⟩
set_option maxRecDepth 4000 in
theorem zj_X9_at : PR2[287]? = some mt2_X9_at := rfl
theorem zm_at {z1 : Int} (hB : ∀ k, -128 ≤ B k ∧ B k ≤ 127) (hn : 0 ≤ F 0 ∧ F 0 ≤ 940) (hz1 : -2147483648 ≤ z1 ∧ z1 < 2147483648) : ZMet (EWX xs) D cy l ex mt2_X9_at (0, 0, 0, 0) (tW a F B K S V) [zR (a 0), zI z1] (fun z Y => z = some (zI (tb B (F 0) z1)) ∧ Y = (tW a F B K S V)) := by
  obtain ⟨mok, tok, ow⟩ := pok2.1 _ _ zj_X9_at
  refine met_ofz EWX_ok mok tok ow (Nat.le_of_ble_eq_true rfl) (fun r p e s m args below meth c0 A Q X hR => ?_)
  refine zg_blk pok2 X 1 [] (S' := (1, [(0, zR (a 0)), (1, zI z1)], [zI z1], (tW a F B K S V))) rfl trivial ?_
  refine zg_if X 32 rfl rfl (by unfold zin; omega) (fun g1 => ?_) (fun g1 => ?_)
  · simp only [x_cnd] at g1
    refine zg_blk pok2 X 1 [] (S' := (33, [(0, zR (a 0)), (1, zI z1)], [zI (-1)], (tW a F B K S V))) rfl trivial ?_
    refine zg_reti X hR rfl rfl (by decide) (by decide) ?_
    refine ⟨?_, rfl⟩
    have hb9 := hB z1.toNat
    unfold tb
    first | rw [if_neg (by omega)] | rw [if_pos (by omega), z_255 hb9.1 hb9.2]
  · simp only [x_ncd] at g1
    refine zg_blk pok2 X 3 [0] (S' := (9, [(0, zR (a 0)), (1, zI z1)], [zI (F 0), zI z1], (tW a F B K S V))) rfl ⟨rfl, trivial⟩ ?_
    refine zg_icmp X 32 rfl rfl (by unfold zin; omega) (by unfold zin; omega) (fun g2 => ?_) (fun g2 => ?_)
    · simp only [x_cnd] at g2
      refine zg_blk pok2 X 1 [] (S' := (33, [(0, zR (a 0)), (1, zI z1)], [zI (-1)], (tW a F B K S V))) rfl trivial ?_
      refine zg_reti X hR rfl rfl (by decide) (by decide) ?_
      refine ⟨?_, rfl⟩
      have hb9 := hB z1.toNat
      unfold tb
      first | rw [if_neg (by omega)] | rw [if_pos (by omega), z_255 hb9.1 hb9.2]
    · simp only [x_ncd] at g2
      refine zg_blk pok2 X 2 [] (S' := (16, [(0, zR (a 0)), (1, zI z1)], [zI 940, zI z1], (tW a F B K S V))) rfl trivial ?_
      refine zg_icmp X 32 rfl rfl (by unfold zin; omega) (by unfold zin; omega) (fun g3 => ?_) (fun g3 => ?_)
      · simp only [x_cnd] at g3
        refine zg_blk pok2 X 1 [] (S' := (33, [(0, zR (a 0)), (1, zI z1)], [zI (-1)], (tW a F B K S V))) rfl trivial ?_
        refine zg_reti X hR rfl rfl (by decide) (by decide) ?_
        refine ⟨?_, rfl⟩
        have hb9 := hB z1.toNat
        unfold tb
        first | rw [if_neg (by omega)] | rw [if_pos (by omega), z_255 hb9.1 hb9.2]
      · simp only [x_ncd] at g3
        refine zg_blk pok2 X 7 [0, 1] (S' := (33, [(0, zR (a 0)), (1, zI z1)], [zI (zand (B z1.toNat) 255)], (tW a F B K S V))) rfl ⟨rfl, rfl, rfl, (show zidx z1 940 from by unfold zidx; omega), trivial⟩ ?_
        refine zg_reti X hR rfl rfl (by decide) (by decide) ?_
        refine ⟨?_, rfl⟩
        have hb9 := hB z1.toNat
        unfold tb
        first | rw [if_neg (by omega)] | rw [if_pos (by omega), z_255 hb9.1 hb9.2]
set_option maxRecDepth 4000 in
theorem zj_X10_step : PR2[27]? = some mt2_X10_step := rfl
theorem zm_step (hF1 : F 1 ≤ 941) (hF2 : -1 ≤ F 2 ∧ F 2 < 941) (hF6 : -2147483648 ≤ F 6 ∧ F 6 < 2147483648) (hF1b : 0 ≤ F 1) : ZMet (EWX xs) D cy l ex mt2_X10_step (0, 0, 0, 0) (tW a F B K S V) [zR (a 2)] (fun z Y => z = none ∧ Y = tW a (stepF K S V F) B K S V) := by
  obtain ⟨mok, tok, ow⟩ := pok2.1 _ _ zj_X10_step
  refine met_ofz EWX_ok mok tok ow (Nat.le_of_ble_eq_true rfl) (fun r p e s m args below meth c0 A Q X hR => ?_)
  refine zg_blk pok2 X 2 [2] (S' := (4, [(0, zR (a 2))], [zI (F 6)], (tW a F B K S V))) rfl ⟨rfl, trivial⟩ ?_
  refine zg_if X 20 rfl rfl (by unfold zin; omega) (fun g1 => ?_) (fun g1 => ?_)
  · simp only [x_cnd] at g1
    refine zg_retv X hR rfl rfl (by decide) (by decide) ?_
    refine ⟨rfl, ?_⟩
    unfold stepF
    first | rw [if_neg (by omega)] | rw [if_pos (by omega)]
  · simp only [x_ncd] at g1
    refine zg_blk pok2 X 6 [2, 2] (S' := (17, [(0, zR (a 2))], [zI (F 1), zI ((F 2) + 1)], (tW a F B K S V))) rfl ⟨rfl, rfl, trivial⟩ ?_
    refine zg_icmp X 21 rfl rfl (by unfold zin; omega) (by unfold zin; omega) (fun g2 => ?_) (fun g2 => ?_)
    · simp only [x_cnd] at g2
      refine zg_blk pok2 X 27 [2, 2, 2, 2, 3, 2, 2, 2, 4, 2, 2, 2, 5, 2] (S' := (70, [(0, zR (a 2))], [], (tW a (zup (zup (zup (zup F 2 ((F 2) + 1)) 3 (K (((F 2) + 1).toNat))) 4 (S (((F 2) + 1).toNat))) 5 (V (((F 2) + 1).toNat))) B K S V))) rfl ⟨rfl, rfl, rfl, rfl, rfl, rfl, rfl, rfl, (show zidx ((F 2) + 1) 941 from by unfold zidx; omega), rfl, rfl, rfl, rfl, rfl, rfl, rfl, (show zidx ((F 2) + 1) 941 from by unfold zidx; omega), rfl, rfl, rfl, rfl, rfl, rfl, (show zidx ((F 2) + 1) 941 from by unfold zidx; omega), rfl, rfl, rfl, trivial⟩ ?_
      refine zg_retv X hR rfl rfl (by decide) (by decide) ?_
      refine ⟨rfl, ?_⟩
      unfold stepF
      first | rw [if_neg (by omega)] | rw [if_pos (by omega)]
    · simp only [x_ncd] at g2
      refine zg_retv X hR rfl rfl (by decide) (by decide) ?_
      refine ⟨rfl, ?_⟩
      unfold stepF
      first | rw [if_neg (by omega)] | rw [if_pos (by omega)]
set_option maxRecDepth 4000 in
theorem zj_X10_fail : PR2[18]? = some mt2_X10_fail := rfl
theorem zm_fail {z1 : Int} (hF6 : -2147483648 ≤ F 6 ∧ F 6 < 2147483648) : ZMet (EWX xs) D cy l ex mt2_X10_fail (0, 0, 0, 0) (tW a F B K S V) [zR (a 2), zI z1] (fun z Y => z = none ∧ Y = tW a (failF z1 F) B K S V) := by
  obtain ⟨mok, tok, ow⟩ := pok2.1 _ _ zj_X10_fail
  refine met_ofz EWX_ok mok tok ow (Nat.le_of_ble_eq_true rfl) (fun r p e s m args below meth c0 A Q X hR => ?_)
  refine zg_blk pok2 X 2 [2] (S' := (4, [(0, zR (a 2)), (1, zI z1)], [zI (F 6)], (tW a F B K S V))) rfl ⟨rfl, trivial⟩ ?_
  refine zg_if X 20 rfl rfl (by unfold zin; omega) (fun g1 => ?_) (fun g1 => ?_)
  · simp only [x_cnd] at g1
    refine zg_blk pok2 X 3 [2] (S' := (25, [(0, zR (a 2)), (1, zI z1)], [], (tW a (zup F 3 0) B K S V))) rfl ⟨rfl, rfl, rfl, trivial⟩ ?_
    refine zg_retv X hR rfl rfl (by decide) (by decide) ?_
    refine ⟨rfl, ?_⟩
    unfold failF
    first | rw [if_neg (by omega)] | rw [if_pos (by omega)]
  · simp only [x_ncd] at g1
    refine zg_blk pok2 X 10 [2, 2, 2, 2] (S' := (25, [(0, zR (a 2)), (1, zI z1)], [], (tW a (zup (zup (zup F 3 0) 6 z1) 7 (F 4)) B K S V))) rfl ⟨rfl, rfl, rfl, rfl, rfl, rfl, rfl, rfl, rfl, rfl, trivial⟩ ?_
    refine zg_retv X hR rfl rfl (by decide) (by decide) ?_
    refine ⟨rfl, ?_⟩
    unfold failF
    first | rw [if_neg (by omega)] | rw [if_pos (by omega)]
set_option maxRecDepth 4000 in
theorem zj_X10_plainWord : PR2[24]? = some mt2_X10_plainWord := rfl
theorem zm_plainWord (hF3 : -2147483648 ≤ F 3 ∧ F 3 < 2147483648) : ZMet (EWX xs) D cy l ex mt2_X10_plainWord (0, 0, 0, 0) (tW a F B K S V) [zR (a 2)] (fun z Y => z = some (zI (if F 3 = 2 then F 5 else -1)) ∧ Y = (tW a F B K S V)) := by
  obtain ⟨mok, tok, ow⟩ := pok2.1 _ _ zj_X10_plainWord
  refine met_ofz EWX_ok mok tok ow (Nat.le_of_ble_eq_true rfl) (fun r p e s m args below meth c0 A Q X hR => ?_)
  refine zg_blk pok2 X 3 [2] (S' := (5, [(0, zR (a 2))], [zI 2, zI (F 3)], (tW a F B K S V))) rfl ⟨rfl, trivial⟩ ?_
  refine zg_icmp X 16 rfl rfl (by unfold zin; omega) (by unfold zin; omega) (fun g1 => ?_) (fun g1 => ?_)
  · simp only [x_cnd] at g1
    refine zg_blk pok2 X 1 [] (S' := (17, [(0, zR (a 2))], [zI (-1)], (tW a F B K S V))) rfl trivial ?_
    refine zg_reti X hR rfl rfl (by decide) (by decide) ?_
    refine ⟨?_, rfl⟩
    first | rw [if_neg (by omega)] | rw [if_pos (by omega)]
  · simp only [x_ncd] at g1
    refine zg_blk pok2 X 4 [2] (S' := (17, [(0, zR (a 2))], [zI (F 5)], (tW a F B K S V))) rfl ⟨rfl, trivial⟩ ?_
    refine zg_reti X hR rfl rfl (by decide) (by decide) ?_
    refine ⟨?_, rfl⟩
    first | rw [if_neg (by omega)] | rw [if_pos (by omega)]
set_option maxRecDepth 4000 in
theorem zj_X10_isWord : PR2[22]? = some mt2_X10_isWord := rfl
theorem zm_isWord {z1 : Int} (hF3 : -2147483648 ≤ F 3 ∧ F 3 < 2147483648) (hz1 : -2147483648 ≤ z1 ∧ z1 < 2147483648) (hF5 : zin64 (F 5)) : ZMet (EWX xs) D cy l ex mt2_X10_isWord (0, 0, 0, 0) (tW a F B K S V) [zR (a 2), zI z1] (fun z Y => ((F 3 = 2 ∧ F 5 = z1) ∧ z = some (zI 1) ∧ Y = (tW a F B K S V)) ∨ (¬ (F 3 = 2 ∧ F 5 = z1) ∧ z = some (zI 0) ∧ Y = (tW a F B K S V))) := by
  obtain ⟨mok, tok, ow⟩ := pok2.1 _ _ zj_X10_isWord
  refine met_ofz EWX_ok mok tok ow (Nat.le_of_ble_eq_true rfl) (fun r p e s m args below meth c0 A Q X hR => ?_)
  have hlc := zlcmp_in (F 5) z1
  have hle := zlcmp_eq hF5 (b := z1) ⟨by omega, by omega⟩
  refine zg_blk pok2 X 3 [2] (S' := (5, [(0, zR (a 2)), (1, zI z1)], [zI 2, zI (F 3)], (tW a F B K S V))) rfl ⟨rfl, trivial⟩ ?_
  refine zg_icmp X 22 rfl rfl (by unfold zin; omega) (by unfold zin; omega) (fun g1 => ?_) (fun g1 => ?_)
  · simp only [x_cnd] at g1
    refine zg_blk pok2 X 1 [] (S' := (23, [(0, zR (a 2)), (1, zI z1)], [zI 0], (tW a F B K S V))) rfl trivial ?_
    refine zg_retb X hR rfl rfl (by decide) (by decide) (by first | exact Or.inl rfl | exact Or.inr rfl) ?_
    first | exact Or.inl ⟨by omega, rfl, rfl⟩ | exact Or.inr ⟨by omega, rfl, rfl⟩
  · simp only [x_ncd] at g1
    refine zg_blk pok2 X 5 [2] (S' := (15, [(0, zR (a 2)), (1, zI z1)], [zI (zlcmp (F 5) z1)], (tW a F B K S V))) rfl ⟨rfl, (show zin z1 from by unfold zin; omega), trivial⟩ ?_
    refine zg_if X 22 rfl rfl (by unfold zin; omega) (fun g2 => ?_) (fun g2 => ?_)
    · simp only [x_cnd] at g2
      refine zg_blk pok2 X 1 [] (S' := (23, [(0, zR (a 2)), (1, zI z1)], [zI 0], (tW a F B K S V))) rfl trivial ?_
      refine zg_retb X hR rfl rfl (by decide) (by decide) (by first | exact Or.inl rfl | exact Or.inr rfl) ?_
      first | exact Or.inl ⟨by omega, rfl, rfl⟩ | exact Or.inr ⟨by omega, rfl, rfl⟩
    · simp only [x_ncd] at g2
      refine zg_blk pok2 X 2 [] (S' := (23, [(0, zR (a 2)), (1, zI z1)], [zI 1], (tW a F B K S V))) rfl trivial ?_
      refine zg_retb X hR rfl rfl (by decide) (by decide) (by first | exact Or.inl rfl | exact Or.inr rfl) ?_
      first | exact Or.inl ⟨by omega, rfl, rfl⟩ | exact Or.inr ⟨by omega, rfl, rfl⟩
set_option maxRecDepth 4000 in
theorem zj_X10_takeSign : PR2[30]? = some mt2_X10_takeSign := rfl
theorem zm_takeSign {z1 : Int} (hz1 : -2147483648 ≤ z1 ∧ z1 < 2147483648) (hF1 : F 1 ≤ 941) (hF2 : -1 ≤ F 2 ∧ F 2 < 941) (hF6 : -2147483648 ≤ F 6 ∧ F 6 < 2147483648) (hF1b : 0 ≤ F 1) (hF3 : -2147483648 ≤ F 3 ∧ F 3 < 2147483648) : ZMet (EWX xs) D cy l ex mt2_X10_takeSign (1, 0, 0, 21) (tW a F B K S V) [zR (a 2), zI z1] (fun z Y => z = none ∧ Y = tW a (tsF K S V z1 F) B K S V) := by
  obtain ⟨mok, tok, ow⟩ := pok2.1 _ _ zj_X10_takeSign
  refine met_ofz EWX_ok mok tok ow (Nat.le_of_ble_eq_true rfl) (fun r p e s m args below meth c0 A Q X hR => ?_)
  refine zg_blk pok2 X 3 [2] (S' := (5, [(0, zR (a 2)), (1, zI z1)], [zI z1, zI (F 3)], (tW a F B K S V))) rfl ⟨rfl, trivial⟩ ?_
  refine zg_icmp X 15 rfl rfl (by unfold zin; omega) (by unfold zin; omega) (fun g1 => ?_) (fun g1 => ?_)
  · simp only [x_cnd] at g1
    refine zg_blk pok2 X 2 [] (S' := (17, [(0, zR (a 2)), (1, zI z1)], [zI 1, zR (a 2)], (tW a F B K S V))) rfl trivial ?_
    refine zg_callV pok2 EWX_ok X 2 (vas := [zI 1]) (vr := []) (Y1 := (tW a F B K S V)) (Y2 := []) rfl rfl (Or.inl rfl) zj_X10_fail rfl rfl rfl rfl (by decide) rfl (zm_fail (by omega)) ⟨by decide, by decide, by decide, by decide⟩ (fun z9 Y9 hz => ?_)
    obtain ⟨rfl, rfl⟩ := hz
    refine zg_retv X hR rfl rfl (by decide) (by decide) ?_
    refine ⟨rfl, ?_⟩
    unfold tsF
    first | (rw [if_neg (by omega)] <;> rfl) | (rw [if_pos (by omega)] <;> rfl)
  · simp only [x_ncd] at g1
    refine zg_blk pok2 X 1 [] (S' := (9, [(0, zR (a 2)), (1, zI z1)], [zR (a 2)], (tW a F B K S V))) rfl trivial ?_
    refine zg_callV pok2 EWX_ok X 2 (vas := []) (vr := []) (Y1 := (tW a F B K S V)) (Y2 := []) rfl rfl (Or.inl rfl) zj_X10_step rfl rfl rfl rfl (by decide) rfl (zm_step (by omega) (by omega) (by omega) (by omega)) ⟨by decide, by decide, by decide, by decide⟩ (fun z9 Y9 hz => ?_)
    obtain ⟨rfl, rfl⟩ := hz
    refine zg_blk pok2 X 1 [] (S' := (20, [(0, zR (a 2)), (1, zI z1)], [], (tW a (stepF K S V F) B K S V))) rfl trivial ?_
    refine zg_retv X hR rfl rfl (by decide) (by decide) ?_
    refine ⟨rfl, ?_⟩
    unfold tsF
    first | (rw [if_neg (by omega)] <;> rfl) | (rw [if_pos (by omega)] <;> rfl)
set_option maxRecDepth 4000 in
theorem zj_X10_takeNumber : PR2[29]? = some mt2_X10_takeNumber := rfl
theorem zm_takeNumber {z1 z2 : Int} (hz1 : -2147483648 ≤ z1 ∧ z1 < 2147483648) (hz2 : -2147483648 ≤ z2 ∧ z2 < 2147483648) (hF5 : F 3 = 3 → -2147483648 ≤ F 5 ∧ F 5 < 2147483648) (hF1 : F 1 ≤ 941) (hF2 : -1 ≤ F 2 ∧ F 2 < 941) (hF6 : -2147483648 ≤ F 6 ∧ F 6 < 2147483648) (hF1b : 0 ≤ F 1) (hF3 : -2147483648 ≤ F 3 ∧ F 3 < 2147483648) : ZMet (EWX xs) D cy l ex mt2_X10_takeNumber (1, 0, 0, 21) (tW a F B K S V) [zR (a 2), zI z1, zI z2] (fun z Y => z = some (zI (tnR z1 z2 F)) ∧ Y = tW a (tnF K S V z1 z2 F) B K S V) := by
  obtain ⟨mok, tok, ow⟩ := pok2.1 _ _ zj_X10_takeNumber
  refine met_ofz EWX_ok mok tok ow (Nat.le_of_ble_eq_true rfl) (fun r p e s m args below meth c0 A Q X hR => ?_)
  refine zg_blk pok2 X 3 [2] (S' := (5, [(0, zR (a 2)), (1, zI z1), (2, zI z2)], [zI 3, zI (F 3)], (tW a F B K S V))) rfl ⟨rfl, trivial⟩ ?_
  refine zg_icmp X 15 rfl rfl (by unfold zin; omega) (by unfold zin; omega) (fun g1 => ?_) (fun g1 => ?_)
  · simp only [x_cnd] at g1
    refine zg_blk pok2 X 6 [2] (S' := (23, [(3, zI (F 5)), (0, zR (a 2)), (1, zI z1), (2, zI z2)], [zI z1, zI (F 5)], (tW a F B K S V))) rfl ⟨rfl, trivial⟩ ?_
    refine zg_icmp X 31 rfl rfl (by unfold zin; omega) (by unfold zin; omega) (fun g2 => ?_) (fun g2 => ?_)
    · simp only [x_cnd] at g2
      refine zg_blk pok2 X 2 [] (S' := (33, [(3, zI (F 5)), (0, zR (a 2)), (1, zI z1), (2, zI z2)], [zI 2, zR (a 2)], (tW a F B K S V))) rfl trivial ?_
      refine zg_callV pok2 EWX_ok X 2 (vas := [zI 2]) (vr := []) (Y1 := (tW a F B K S V)) (Y2 := []) rfl rfl (Or.inl rfl) zj_X10_fail rfl rfl rfl rfl (by decide) rfl (zm_fail (by omega)) ⟨by decide, by decide, by decide, by decide⟩ (fun z9 Y9 hz => ?_)
      obtain ⟨rfl, rfl⟩ := hz
      refine zg_blk pok2 X 1 [] (S' := (37, [(3, zI (F 5)), (0, zR (a 2)), (1, zI z1), (2, zI z2)], [zI (-1)], (tW a (failF 2 F) B K S V))) rfl trivial ?_
      refine zg_reti X hR rfl rfl (by decide) (by decide) ?_
      refine ⟨?_, ?_⟩
      · unfold tnR
        first | rw [if_neg (by omega)] | rw [if_pos (by omega)]
      · unfold tnF
        first | (rw [if_neg (by omega)] <;> rfl) | (rw [if_pos (by omega), if_pos (by omega)] <;> rfl) | (rw [if_pos (by omega), if_neg (by omega)] <;> rfl)
    · simp only [x_ncd] at g2
      refine zg_blk pok2 X 2 [] (S' := (28, [(3, zI (F 5)), (0, zR (a 2)), (1, zI z1), (2, zI z2)], [zI z2, zI (F 5)], (tW a F B K S V))) rfl trivial ?_
      refine zg_icmp X 38 rfl rfl (by unfold zin; omega) (by unfold zin; omega) (fun g3 => ?_) (fun g3 => ?_)
      · simp only [x_cnd] at g3
        refine zg_blk pok2 X 1 [] (S' := (39, [(3, zI (F 5)), (0, zR (a 2)), (1, zI z1), (2, zI z2)], [zR (a 2)], (tW a F B K S V))) rfl trivial ?_
        refine zg_callV pok2 EWX_ok X 2 (vas := []) (vr := []) (Y1 := (tW a F B K S V)) (Y2 := []) rfl rfl (Or.inl rfl) zj_X10_step rfl rfl rfl rfl (by decide) rfl (zm_step (by omega) (by omega) (by omega) (by omega)) ⟨by decide, by decide, by decide, by decide⟩ (fun z9 Y9 hz => ?_)
        obtain ⟨rfl, rfl⟩ := hz
        refine zg_blk pok2 X 1 [] (S' := (43, [(3, zI (F 5)), (0, zR (a 2)), (1, zI z1), (2, zI z2)], [zI (F 5)], (tW a (stepF K S V F) B K S V))) rfl trivial ?_
        refine zg_reti X hR rfl rfl (by decide) (by decide) ?_
        refine ⟨?_, ?_⟩
        · unfold tnR
          first | rw [if_neg (by omega)] | rw [if_pos (by omega)]
        · unfold tnF
          first | (rw [if_neg (by omega)] <;> rfl) | (rw [if_pos (by omega), if_pos (by omega)] <;> rfl) | (rw [if_pos (by omega), if_neg (by omega)] <;> rfl)
      · simp only [x_ncd] at g3
        refine zg_blk pok2 X 2 [] (S' := (33, [(3, zI (F 5)), (0, zR (a 2)), (1, zI z1), (2, zI z2)], [zI 2, zR (a 2)], (tW a F B K S V))) rfl trivial ?_
        refine zg_callV pok2 EWX_ok X 2 (vas := [zI 2]) (vr := []) (Y1 := (tW a F B K S V)) (Y2 := []) rfl rfl (Or.inl rfl) zj_X10_fail rfl rfl rfl rfl (by decide) rfl (zm_fail (by omega)) ⟨by decide, by decide, by decide, by decide⟩ (fun z9 Y9 hz => ?_)
        obtain ⟨rfl, rfl⟩ := hz
        refine zg_blk pok2 X 1 [] (S' := (37, [(3, zI (F 5)), (0, zR (a 2)), (1, zI z1), (2, zI z2)], [zI (-1)], (tW a (failF 2 F) B K S V))) rfl trivial ?_
        refine zg_reti X hR rfl rfl (by decide) (by decide) ?_
        refine ⟨?_, ?_⟩
        · unfold tnR
          first | rw [if_neg (by omega)] | rw [if_pos (by omega)]
        · unfold tnF
          first | (rw [if_neg (by omega)] <;> rfl) | (rw [if_pos (by omega), if_pos (by omega)] <;> rfl) | (rw [if_pos (by omega), if_neg (by omega)] <;> rfl)
  · simp only [x_ncd] at g1
    refine zg_blk pok2 X 2 [] (S' := (10, [(0, zR (a 2)), (1, zI z1), (2, zI z2)], [zI 1, zR (a 2)], (tW a F B K S V))) rfl trivial ?_
    refine zg_callV pok2 EWX_ok X 2 (vas := [zI 1]) (vr := []) (Y1 := (tW a F B K S V)) (Y2 := []) rfl rfl (Or.inl rfl) zj_X10_fail rfl rfl rfl rfl (by decide) rfl (zm_fail (by omega)) ⟨by decide, by decide, by decide, by decide⟩ (fun z9 Y9 hz => ?_)
    obtain ⟨rfl, rfl⟩ := hz
    refine zg_blk pok2 X 1 [] (S' := (14, [(0, zR (a 2)), (1, zI z1), (2, zI z2)], [zI (-1)], (tW a (failF 1 F) B K S V))) rfl trivial ?_
    refine zg_reti X hR rfl rfl (by decide) (by decide) ?_
    refine ⟨?_, ?_⟩
    · unfold tnR
      first | rw [if_neg (by omega)] | rw [if_pos (by omega)]
    · unfold tnF
      first | (rw [if_neg (by omega)] <;> rfl) | (rw [if_pos (by omega), if_pos (by omega)] <;> rfl) | (rw [if_pos (by omega), if_neg (by omega)] <;> rfl)
set_option maxRecDepth 4000 in
theorem zj_X10_behindBlanks : PR2[17]? = some mt2_X10_behindBlanks := rfl
theorem zm_behindBlanks {z1 : Int} (hB : ∀ k, -128 ≤ B k ∧ B k ≤ 127) (hn : 0 ≤ F 0 ∧ F 0 ≤ 940) (hz1 : 0 ≤ z1 ∧ z1 ≤ 940) : ZMet (EWX xs) D cy l ex mt2_X10_behindBlanks (1, 0, 0, 21) (tW a F B K S V) [zR (a 2), zI z1] (fun z Y => ∃ j, z = some (zI j) ∧ Y = (tW a F B K S V) ∧ Sk (tb B (F 0)) z1 j) := by
  obtain ⟨mok, tok, ow⟩ := pok2.1 _ _ zj_X10_behindBlanks
  refine met_ofz EWX_ok mok tok ow (Nat.le_of_ble_eq_true rfl) (fun r p e s m args below meth c0 A Q X hR => ?_)
  have htr : ∀ i, -1 ≤ tb B (F 0) i ∧ tb B (F 0) i ≤ 255 := fun i => by
    unfold tb
    split
    · omega
    · omega
  have loop : ∀ (n : Nat) (i : Int), z1 ≤ i → i ≤ 940 → 940 - i < n → (∀ k, z1 ≤ k → k < i → isB (tb B (F 0) k)) → ZG D cy r mt2_X10_behindBlanks p l e (rmR (1, 0, 0, 21)) s m args below meth c0 A Q 0 0 (2, [(0, zR (a 2)), (1, zI z1), (2, zI i)], [], (tW a F B K S V)) := by
    intro n
    induction n with
    | zero => intro i h1 h2 h3; omega
    | succ n ih =>
      intro i h1 h2 h3 h4
      refine zg_blk pok2 X 4 [2, 0] (S' := (10, [(0, zR (a 2)), (1, zI z1), (2, zI i)], [zI (F 0), zI i], (tW a F B K S V))) rfl ⟨rfl, rfl, trivial⟩ ?_
      refine zg_icmp X 45 rfl rfl (by unfold zin; omega) (by unfold zin; omega) (fun g1 => ?_) (fun g1 => ?_)
      · simp only [x_cnd] at g1
        have htb := htr i
        refine zg_blk pok2 X 1 [] (S' := (46, [(0, zR (a 2)), (1, zI z1), (2, zI i)], [zI i], (tW a F B K S V))) rfl trivial ?_
        refine zg_reti X hR rfl rfl (by decide) (by decide) ?_
        refine ⟨i, rfl, rfl, by omega, h4, ?_⟩
        unfold isB
        first | omega | (unfold tb; rw [if_neg (by omega)]; omega)
      · simp only [x_ncd] at g1
        have htb := htr i
        refine zg_blk pok2 X 3 [2] (S' := (18, [(0, zR (a 2)), (1, zI z1), (2, zI i)], [zI i, zR (a 0)], (tW a F B K S V))) rfl ⟨rfl, trivial⟩ ?_
        refine zg_callV pok2 EWX_ok X 0 (vas := [zI i]) (vr := []) (Y1 := (tW a F B K S V)) (Y2 := []) rfl rfl (Or.inl rfl) zj_X9_at rfl rfl rfl rfl (by decide) rfl (zm_at hB hn (by omega)) ⟨by decide, by decide, by decide, by decide⟩ (fun z9 Y9 hz => ?_)
        obtain ⟨rfl, rfl⟩ := hz
        refine zg_blk pok2 X 1 [] (S' := (23, [(0, zR (a 2)), (1, zI z1), (2, zI i)], [zI 32, zI (tb B (F 0) i)], (tW a F B K S V))) rfl trivial ?_
        refine zg_icmp X 39 rfl rfl (by unfold zin; omega) (by unfold zin; omega) (fun g2 => ?_) (fun g2 => ?_)
        · simp only [x_cnd] at g2
          have htb := htr i
          refine zg_blk pok2 X 2 [] (S' := (2, [(2, zI (i + 1)), (0, zR (a 2)), (1, zI z1)], [], (tW a F B K S V))) rfl trivial ?_
          refine zg_lv [(0, zR (a 2)), (1, zI z1), (2, zI (i + 1))] (by intro q hq; simp only [List.mem_cons, List.not_mem_nil, or_false] at hq ⊢; rcases hq with rfl | rfl | rfl <;> simp) ?_
          exact ih (i + 1) (by omega) (by omega) (by omega) (fun k h1 h2 => by
            rcases (show k < i ∨ k = i by omega) with h | rfl
            · exact h4 k h1 h
            · unfold isB; omega)
        · simp only [x_ncd] at g2
          have htb := htr i
          refine zg_blk pok2 X 3 [2] (S' := (31, [(0, zR (a 2)), (1, zI z1), (2, zI i)], [zI i, zR (a 0)], (tW a F B K S V))) rfl ⟨rfl, trivial⟩ ?_
          refine zg_callV pok2 EWX_ok X 0 (vas := [zI i]) (vr := []) (Y1 := (tW a F B K S V)) (Y2 := []) rfl rfl (Or.inl rfl) zj_X9_at rfl rfl rfl rfl (by decide) rfl (zm_at hB hn (by omega)) ⟨by decide, by decide, by decide, by decide⟩ (fun z9 Y9 hz => ?_)
          obtain ⟨rfl, rfl⟩ := hz
          refine zg_blk pok2 X 1 [] (S' := (36, [(0, zR (a 2)), (1, zI z1), (2, zI i)], [zI 10, zI (tb B (F 0) i)], (tW a F B K S V))) rfl trivial ?_
          refine zg_icmp X 45 rfl rfl (by unfold zin; omega) (by unfold zin; omega) (fun g3 => ?_) (fun g3 => ?_)
          · simp only [x_cnd] at g3
            have htb := htr i
            refine zg_blk pok2 X 1 [] (S' := (46, [(0, zR (a 2)), (1, zI z1), (2, zI i)], [zI i], (tW a F B K S V))) rfl trivial ?_
            refine zg_reti X hR rfl rfl (by decide) (by decide) ?_
            refine ⟨i, rfl, rfl, by omega, h4, ?_⟩
            unfold isB
            first | omega | (unfold tb; rw [if_neg (by omega)]; omega)
          · simp only [x_ncd] at g3
            have htb := htr i
            refine zg_blk pok2 X 2 [] (S' := (2, [(2, zI (i + 1)), (0, zR (a 2)), (1, zI z1)], [], (tW a F B K S V))) rfl trivial ?_
            refine zg_lv [(0, zR (a 2)), (1, zI z1), (2, zI (i + 1))] (by intro q hq; simp only [List.mem_cons, List.not_mem_nil, or_false] at hq ⊢; rcases hq with rfl | rfl | rfl <;> simp) ?_
            exact ih (i + 1) (by omega) (by omega) (by omega) (fun k h1 h2 => by
              rcases (show k < i ∨ k = i by omega) with h | rfl
              · exact h4 k h1 h
              · unfold isB; omega)
  refine zg_blk pok2 X 2 [] (S' := (2, [(2, zI z1), (0, zR (a 2)), (1, zI z1)], [], (tW a F B K S V))) rfl trivial ?_
  refine zg_lv [(0, zR (a 2)), (1, zI z1), (2, zI z1)] (by intro q hq; simp only [List.mem_cons, List.not_mem_nil, or_false] at hq ⊢; rcases hq with rfl | rfl | rfl <;> simp) ?_
  exact loop 2000 z1 (by omega) (by omega) (by omega) (fun k h1 h2 => by omega)
end ZT
