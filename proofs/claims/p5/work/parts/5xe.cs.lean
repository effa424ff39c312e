/-! the class's sentence: small methods, the descent (written by wip/p39/c1.py) -/
def eW (e : Nat → Nat) (E E1 E2 E3 E4 : Nat → Int) : ZW := [(e 0, .inl (7, [zR (e 1), zR (e 2), zR (e 3), zR (e 4), zI (E 4), zI (E 5)])), (e 1, .inr (.inl (0, 40, E1))), (e 2, .inr (.inl (0, 40, E2))), (e 3, .inr (.inl (0, 40, E3))), (e 4, .inr (.inl (0, 40, E4)))]
/-- what stands behind a word that says something -/
def pLeaf (K V CN NM : Nat → Int) (w : Int) (i : Nat) : Int × Nat :=
  if w = 21 ∨ w = 22 then (0, i)
  else if w = 23 then (if tdF K V CN NM 1 i = 0 then (0, i + 1) else (tdF K V CN NM 1 i, i))
  else if w = 24 then (if tdF K V CN NM 0 i = 0 then (0, i + 1) else (tdF K V CN NM 0 i, i))
  else if w = 25 then (if tdF K V CN NM 3 i = 0 then (0, i + 1) else (tdF K V CN NM 3 i, i))
  else if K i = 60 ∨ K i = 61 ∨ K i = 62 then (if nmF K V 0 999 (i + 1) = 0 then (0, i + 2) else (nmF K V 0 999 (i + 1), i + 1)) else (1, i)
theorem sLeaf_p {K V CN NM : Nat → Int} {i : Nat} : sLeaf K V CN NM i = pLeaf K V CN NM (V i) (i + 1) := rfl
/-- how a reading ends -/
def eM (K S V F : Nat → Int) (o : Nat) (R : SR) (F9 E9 : Nat → Int) : Prop := (R.1 = 0 ∧ F9 = FA K S V F R.2.1 ∧ (R.2.1 : Int) < F 1 ∧ E9 5 = (R.2.2 : Int) ∧ o < R.2.2 ∧ R.2.2 ≤ 20) ∨ (¬ R.1 = 0 ∧ fd F9 R.1 (S R.2.1))
/-- a method of the descent -/
def RXP (xs : Nat → Int32) (D : va_G) (cy : Nat → ClassId) (l : Launch) (ex : Nat → Nat) (a c e : Nat → Nat) (F B K S V G CN NM MK TP PP CO KN : Nat → Int) (M : MT) (md d f lo : Nat) : Prop :=
  ∀ (idx o : Nat) (E E1 E2 E3 E4 : Nat → Int), (idx : Int) < F 1 → E 5 = (o : Int) → o ≤ 20 → 0 ≤ E 4 ∧ E 4 ≤ 40 → ZMet (EWX xs) D cy l ex M (f, 0, 0, lo) (tW a (FA K S V F idx) B K S V ++ cW c G CN NM MK TP PP CO KN ++ eW e E E1 E2 E3 E4) [zR (e 0), zR (a 2), zR (c 0), zI (d : Int)]
    (fun z Y => z = none ∧ ∃ (R : SR) (t0 : Nat) (F9 E9 E1 E2 E3 E4 : Nat → Int), (∀ T, sP K V CN NM (T + t0) md d idx o = R) ∧ ¬ R.1 = 99 ∧ eM K S V F o R F9 E9 ∧ (0 ≤ E9 5 ∧ E9 5 ≤ 20) ∧ (0 ≤ E9 4 ∧ E9 4 ≤ 40) ∧ Y = tW a F9 B K S V ++ cW c G CN NM MK TP PP CO KN ++ eW e E9 E1 E2 E3 E4)
section CS9
variable {xs : Nat → Int32} {D : va_G} {cy : Nat → ClassId} {l : Launch} {ex : Nat → Nat} {a c e : Nat → Nat} {F B K S V G CN NM MK TP PP CO KN E E1 E2 E3 E4 : Nat → Int} {idx d o f lo f2 lo2 : Nat} {x : Int}
set_option maxRecDepth 4000 in
theorem zj_X8_add : PR2[276]? = some mt2_X8_add := rfl
set_option maxRecDepth 4000 in
theorem zm_add {z1 z2 z3 : Int} (hE4 : 0 ≤ E 4 ∧ E 4 ≤ 40) : ZMet (EWX xs) D cy l ex mt2_X8_add (0, 0, 0, 0) (tW a F B K S V ++ cW c G CN NM MK TP PP CO KN ++ eW e E E1 E2 E3 E4) [zR (e 0), zI z1, zI z2, zI z3] (fun z Y => z = none ∧ ∃ E9 E1 E2 E3, Y = (tW a F B K S V ++ cW c G CN NM MK TP PP CO KN ++ eW e E9 E1 E2 E3 E4) ∧ E9 5 = E 5 ∧ 0 ≤ E9 4 ∧ E9 4 ≤ 40) := by
  obtain ⟨mok, tok, ow⟩ := pok2.1 _ _ zj_X8_add
  refine met_ofz EWX_ok mok tok ow (Nat.le_of_ble_eq_true rfl) (fun r p0 e0 s0 m0 ar0 be0 me0 c0 A0 Q0 X hR => ?_)
  refine zg_blk pok2 X 2 [14] (S' := (4, [(0, zR (e 0)), (1, zI z1), (2, zI z2), (3, zI z3)], [zI (E 4)], ((tW a F B K S V) ++ (cW c G CN NM MK TP PP CO KN) ++ (eW e E E1 E2 E3 E4)))) rfl ⟨rfl, trivial⟩ ?_
  refine zg_if X 59 rfl rfl (by unfold zin; omega) (fun g1 => ?_) (fun g1 => ?_)
  · simp only [x_cnd] at g1
    refine zg_retv X hR rfl rfl (by decide) (by decide) ?_
    exact ⟨rfl, _, _, _, _, rfl, rfl, by show 0 ≤ E 4; omega, by show E 4 ≤ 40; omega⟩
  · simp only [x_ncd] at g1
    refine zg_blk pok2 X 5 [14, 14, 15] (S' := (16, [(0, zR (e 0)), (1, zI z1), (2, zI z2), (3, zI z3)], [zI 40, zI (E 4)], ((tW a F B K S V) ++ (cW c G CN NM MK TP PP CO KN) ++ (eW e E E1 E2 E3 E4)))) rfl ⟨rfl, rfl, rfl, (by decide), trivial⟩ ?_
    refine zg_icmp X 59 rfl rfl (by unfold zin; omega) (by unfold zin; omega) (fun g2 => ?_) (fun g2 => ?_)
    · simp only [x_cnd] at g2
      refine zg_retv X hR rfl rfl (by decide) (by decide) ?_
      exact ⟨rfl, _, _, _, _, rfl, rfl, by show 0 ≤ E 4; omega, by show E 4 ≤ 40; omega⟩
    · simp only [x_ncd] at g2
      refine zg_blk pok2 X 24 [14, 14, 15, 14, 14, 16, 14, 14, 17, 14, 14] (S' := (59, [(0, zR (e 0)), (1, zI z1), (2, zI z2), (3, zI z3)], [], ((tW a F B K S V) ++ (cW c G CN NM MK TP PP CO KN) ++ (eW e (zup E 4 ((E 4) + 1)) (zup E1 ((E 4).toNat) z1) (zup E2 ((E 4).toNat) z2) (zup E3 ((E 4).toNat) z3) E4)))) rfl ⟨rfl, rfl, rfl, rfl, (show zidx (E 4) 40 from by unfold zidx; omega), rfl, rfl, rfl, rfl, (show zidx (E 4) 40 from by unfold zidx; omega), rfl, rfl, rfl, rfl, (show zidx (E 4) 40 from by unfold zidx; omega), rfl, rfl, rfl, rfl, trivial⟩ ?_
      refine zg_retv X hR rfl rfl (by decide) (by decide) ?_
      exact ⟨rfl, _, _, _, _, rfl, rfl, by show 0 ≤ (E 4) + 1; omega, by show (E 4) + 1 ≤ 40; omega⟩
set_option maxRecDepth 4000 in
theorem zj_X8_sortBehind : PR2[283]? = some mt2_X8_sortBehind := rfl
set_option maxRecDepth 4000 in
theorem zm_sortBehindS {z1 : Int} {Y0 : ZW} (hz1 : -2147483648 ≤ z1 ∧ z1 < 2147483648) : ZMet (EWX xs) D cy l ex mt2_X8_sortBehind (0, 0, 0, 0) Y0 [zI z1] (fun z Y => (z1 = 23 ∧ z = some (zI 1) ∧ Y = Y0) ∨ (z1 = 24 ∧ z = some (zI 0) ∧ Y = Y0) ∨ ((¬ z1 = 23 ∧ ¬ z1 = 24) ∧ z = some (zI 3) ∧ Y = Y0)) := by
  obtain ⟨mok, tok, ow⟩ := pok2.1 _ _ zj_X8_sortBehind
  refine met_ofz EWX_ok mok tok ow (Nat.le_of_ble_eq_true rfl) (fun r p0 e0 s0 m0 ar0 be0 me0 c0 A0 Q0 X hR => ?_)
  refine zg_blk pok2 X 2 [] (S' := (3, [(0, zI z1)], [zI 23, zI z1], Y0)) rfl trivial ?_
  refine zg_icmp X 8 rfl rfl (by unfold zin; omega) (by unfold zin; omega) (fun g1 => ?_) (fun g1 => ?_)
  · simp only [x_cnd] at g1
    refine zg_blk pok2 X 2 [] (S' := (11, [(0, zI z1)], [zI 24, zI z1], Y0)) rfl trivial ?_
    refine zg_icmp X 18 rfl rfl (by unfold zin; omega) (by unfold zin; omega) (fun g2 => ?_) (fun g2 => ?_)
    · simp only [x_cnd] at g2
      refine zg_blk pok2 X 1 [] (S' := (19, [(0, zI z1)], [zI 3], Y0)) rfl trivial ?_
      refine zg_reti X hR rfl rfl (by decide) (by decide) ?_
      first | exact Or.inl ⟨by omega, rfl, rfl⟩ | exact Or.inr (Or.inl ⟨by omega, rfl, rfl⟩) | exact Or.inr (Or.inr ⟨by omega, rfl, rfl⟩)
    · simp only [x_ncd] at g2
      refine zg_blk pok2 X 2 [] (S' := (19, [(0, zI z1)], [zI 0], Y0)) rfl trivial ?_
      refine zg_reti X hR rfl rfl (by decide) (by decide) ?_
      first | exact Or.inl ⟨by omega, rfl, rfl⟩ | exact Or.inr (Or.inl ⟨by omega, rfl, rfl⟩) | exact Or.inr (Or.inr ⟨by omega, rfl, rfl⟩)
  · simp only [x_ncd] at g1
    refine zg_blk pok2 X 1 [] (S' := (7, [(0, zI z1)], [zI 1], Y0)) rfl trivial ?_
    refine zg_reti X hR rfl rfl (by decide) (by decide) ?_
    first | exact Or.inl ⟨by omega, rfl, rfl⟩ | exact Or.inr (Or.inl ⟨by omega, rfl, rfl⟩) | exact Or.inr (Or.inr ⟨by omega, rfl, rfl⟩)
set_option maxRecDepth 4000 in
theorem zj_X10_takeEnd : PR2[28]? = some mt2_X10_takeEnd := rfl
set_option maxRecDepth 4000 in
theorem zm_takeEndA (hT : TT F K S V) (hi : (idx : Int) < F 1) : ZMet (EWX xs) D cy l ex mt2_X10_takeEnd (1, 0, 0, 21) (tW a (FA K S V F idx) B K S V) [zR (a 2)] (fun z Y => z = none ∧ ((K idx = 0 ∧ Y = (tW a (FA K S V F idx) B K S V)) ∨ (¬ K idx = 0 ∧ ∃ F9, fd F9 1 (S idx) ∧ Y = (tW a F9 B K S V)))) := by
  obtain ⟨mok, tok, ow⟩ := pok2.1 _ _ zj_X10_takeEnd
  refine met_ofz EWX_ok mok tok ow (Nat.le_of_ble_eq_true rfl) (fun r p0 e0 s0 m0 ar0 be0 me0 c0 A0 Q0 X hR => ?_)
  obtain ⟨hF6, hF1a, hF1b, hTs, hTk⟩ := hT
  have t0 := hTk idx hi
  refine zg_blk pok2 X 2 [2] (S' := (4, [(0, zR (a 2))], [zI (K idx)], (tW a (FA K S V F idx) B K S V))) rfl ⟨rfl, trivial⟩ ?_
  refine zg_if X 12 rfl rfl (by first | (unfold zin; omega) | (have h9 := hfd.2.2.2.1; unfold zin; omega)) (fun g1 => ?_) (fun g1 => ?_)
  · simp only [x_cnd] at g1
    refine zg_retv X hR rfl rfl (by decide) (by decide) ?_
    exact ⟨rfl, Or.inl ⟨by omega, rfl⟩⟩
  · simp only [x_ncd] at g1
    refine zg_blk pok2 X 2 [] (S' := (9, [(0, zR (a 2))], [zI 1, zR (a 2)], (tW a (FA K S V F idx) B K S V))) rfl trivial ?_
    refine zg_callV pok2 EWX_ok X 2 (vas := [zI 1]) (vr := []) (Y1 := (tW a (FA K S V F idx) B K S V)) (Y2 := []) rfl rfl (Or.inl rfl) zj_X10_fail rfl rfl rfl rfl (Nat.le_of_ble_eq_true rfl) rfl (zm_fail (F := (FA K S V F idx)) (show -2147483648 ≤ F 6 ∧ F 6 < 2147483648 by omega)) ⟨by decide, by decide, by decide, by decide⟩ (fun z9 Y9 hz => ?_)
    obtain ⟨rfl, rfl⟩ := hz
    have hfd := FA_fail (K := K) (S := S) (V := V) (F := F) (idx := idx) (m := 1) hF6 (by decide) (by decide)
    refine zg_retv X hR rfl rfl (by decide) (by decide) ?_
    exact ⟨rfl, Or.inr ⟨by omega, _, hfd, rfl⟩⟩
set_option maxRecDepth 4000 in
theorem zm_takeEndX {F1 : Nat → Int} {kd pl : Int} (hfd : fd F1 kd pl) : ZMet (EWX xs) D cy l ex mt2_X10_takeEnd (1, 0, 0, 21) (tW a F1 B K S V) [zR (a 2)] (fun z Y => z = none ∧ Y = (tW a F1 B K S V)) := by
  obtain ⟨mok, tok, ow⟩ := pok2.1 _ _ zj_X10_takeEnd
  refine met_ofz EWX_ok mok tok ow (Nat.le_of_ble_eq_true rfl) (fun r p0 e0 s0 m0 ar0 be0 me0 c0 A0 Q0 X hR => ?_)
  refine zg_blk pok2 X 2 [2] (S' := (4, [(0, zR (a 2))], [zI (F1 3)], (tW a F1 B K S V))) rfl ⟨rfl, trivial⟩ ?_
  refine zg_if X 12 rfl rfl (by first | (unfold zin; omega) | (have h9 := hfd.2.2.2.1; unfold zin; omega)) (fun g1 => ?_) (fun g1 => ?_)
  · simp only [x_cnd] at g1
    refine zg_retv X hR rfl rfl (by decide) (by decide) ?_
    exact ⟨rfl, rfl⟩
  · simp only [x_ncd] at g1
    exfalso
    have h9 := hfd.2.2.2.1
    omega
set_option maxRecDepth 4000 in
theorem zj_X8_readPlain : PR2[282]? = some mt2_X8_readPlain := rfl
set_option maxRecDepth 4000 in
theorem zm_readPlain {w9 : Int} (hw : 21 ≤ w9 ∧ w9 ≤ 28) (hT : TT F K S V) (hi : (idx : Int) < F 1) (hI : INV CN NM x) (hE4 : 0 ≤ E 4 ∧ E 4 ≤ 40) : ZMet (EWX xs) D cy l ex mt2_X8_readPlain (2, 0, 0, 47) (tW a (FA K S V F idx) B K S V ++ cW c G CN NM MK TP PP CO KN ++ eW e E E1 E2 E3 E4) [zR (e 0), zR (a 2), zR (c 0), zI w9] (fun z Y => z = none ∧ ∃ F9 E9 E1 E2 E3 E4, Y = (tW a F9 B K S V ++ cW c G CN NM MK TP PP CO KN ++ eW e E9 E1 E2 E3 E4) ∧ E9 5 = E 5 ∧ (0 ≤ E9 4 ∧ E9 4 ≤ 40) ∧ (((pLeaf K V CN NM w9 idx).1 = 0 ∧ F9 = FA K S V F (pLeaf K V CN NM w9 idx).2 ∧ ((pLeaf K V CN NM w9 idx).2 : Int) < F 1) ∨ (¬ (pLeaf K V CN NM w9 idx).1 = 0 ∧ fd F9 (pLeaf K V CN NM w9 idx).1 (S (pLeaf K V CN NM w9 idx).2)))) := by
  obtain ⟨mok, tok, ow⟩ := pok2.1 _ _ zj_X8_readPlain
  refine met_ofz EWX_ok mok tok ow (Nat.le_of_ble_eq_true rfl) (fun r p0 e0 s0 m0 ar0 be0 me0 c0 A0 Q0 X hR => ?_)
  obtain ⟨hF6, hF1a, hF1b, hTs, hTk⟩ := hT
  have t0 := hTk idx hi
  have hCN := hI.cn
  obtain ⟨hc0, hc1, hc2, hc3, hNM, hU, hx0, hx1⟩ := hI
  refine zg_blk pok2 X 2 [] (S' := (3, [(0, zR (e 0)), (1, zR (a 2)), (2, zR (c 0)), (3, zI w9)], [zI 21, zI w9], ((tW a (FA K S V F idx) B K S V) ++ (cW c G CN NM MK TP PP CO KN) ++ (eW e E E1 E2 E3 E4)))) rfl trivial ?_
  refine zg_icmp X 12 rfl rfl (by unfold zin; omega) (by unfold zin; omega) (fun g1 => ?_) (fun g1 => ?_)
  · simp only [x_cnd] at g1
    refine zg_blk pok2 X 4 [] (S' := (16, [(0, zR (e 0)), (1, zR (a 2)), (2, zR (c 0)), (3, zI w9)], [zI 0, zI 0, zI w9, zR (e 0)], ((tW a (FA K S V F idx) B K S V) ++ (cW c G CN NM MK TP PP CO KN) ++ (eW e E E1 E2 E3 E4)))) rfl trivial ?_
    refine zg_callV pok2 EWX_ok X 14 (vas := [zI w9, zI 0, zI 0]) (vr := []) (Y1 := ((tW a (FA K S V F idx) B K S V) ++ (cW c G CN NM MK TP PP CO KN) ++ (eW e E E1 E2 E3 E4))) (Y2 := []) rfl rfl (Or.inl rfl) zj_X8_add rfl rfl rfl rfl (Nat.le_of_ble_eq_true rfl) rfl (zm_add (F := (FA K S V F idx)) (E := E) (by first | exact hE4 | (show 0 ≤ E 4 ∧ E 4 ≤ 40; omega))) ⟨by decide, by decide, by decide, by decide⟩ (fun z9 Y9 hz => ?_)
    obtain ⟨rfl, E8b, Ab, Pb, Qb, rfl, h5_E8b, h4a_E8b, h4b_E8b⟩ := hz
    have E8b5 : E8b 5 = E 5 := h5_E8b
    refine zg_retv X hR rfl rfl (by decide) (by decide) ?_
    refine ⟨rfl, _, _, _, _, _, _, rfl, by show E8b 5 = E 5; omega, ⟨h4a_E8b, h4b_E8b⟩, ?_⟩
    unfold pLeaf
    rw [if_pos (by omega)]
    exact Or.inl ⟨rfl, rfl, hi⟩
  · simp only [x_ncd] at g1
    refine zg_blk pok2 X 2 [] (S' := (9, [(0, zR (e 0)), (1, zR (a 2)), (2, zR (c 0)), (3, zI w9)], [zI 22, zI w9], ((tW a (FA K S V F idx) B K S V) ++ (cW c G CN NM MK TP PP CO KN) ++ (eW e E E1 E2 E3 E4)))) rfl trivial ?_
    refine zg_icmp X 20 rfl rfl (by unfold zin; omega) (by unfold zin; omega) (fun g2 => ?_) (fun g2 => ?_)
    · simp only [x_cnd] at g2
      refine zg_blk pok2 X 2 [] (S' := (23, [(0, zR (e 0)), (1, zR (a 2)), (2, zR (c 0)), (3, zI w9)], [zI 23, zI w9], ((tW a (FA K S V F idx) B K S V) ++ (cW c G CN NM MK TP PP CO KN) ++ (eW e E E1 E2 E3 E4)))) rfl trivial ?_
      refine zg_icmp X 38 rfl rfl (by unfold zin; omega) (by unfold zin; omega) (fun g3 => ?_) (fun g3 => ?_)
      · simp only [x_cnd] at g3
        refine zg_blk pok2 X 5 [] (S' := (43, [(0, zR (e 0)), (1, zR (a 2)), (2, zR (c 0)), (3, zI w9)], [zI w9, zR (a 2), zR (c 0), zI w9, zR (e 0)], ((tW a (FA K S V F idx) B K S V) ++ (cW c G CN NM MK TP PP CO KN) ++ (eW e E E1 E2 E3 E4)))) rfl trivial ?_
        refine zg_callS pok2 EWX_ok X (vas := [zI w9]) (vr := [zR (a 2), zR (c 0), zI w9, zR (e 0)]) (Y1 := ((tW a (FA K S V F idx) B K S V) ++ (cW c G CN NM MK TP PP CO KN) ++ (eW e E E1 E2 E3 E4))) (Y2 := []) rfl rfl (Or.inl rfl) zj_X8_sortBehind rfl rfl rfl (Nat.le_of_ble_eq_true rfl) rfl (zm_sortBehindS (z1 := w9) (by omega)) ⟨by decide, by decide, by decide, by decide⟩ (fun z9 Y9 hz => ?_)
        rcases hz with ⟨hsb, rfl, rfl⟩ | ⟨hsb, rfl, rfl⟩ | ⟨hsb, rfl, rfl⟩
        · refine zg_callV pok2 EWX_ok X 6 (vas := [zR (a 2), zI 1]) (vr := [zI w9, zR (e 0)]) (Y1 := ((tW a (FA K S V F idx) B K S V) ++ (cW c G CN NM MK TP PP CO KN))) (Y2 := (eW e E E1 E2 E3 E4)) rfl rfl (Or.inl rfl) zj_X1_toldHere rfl rfl rfl rfl (Nat.le_of_ble_eq_true rfl) rfl (zm_toldHereA (sN := 1) (idx := idx) (by omega) hCN hNM hU ⟨hF6, hF1a, hF1b, hTs, hTk⟩ hi) ⟨by decide, by decide, by decide, by decide⟩ (fun z9 Y9 hz => ?_)
          rcases hz with ⟨htd, rfl, rfl⟩ | ⟨htd, rfl, F8b, hfd, rfl⟩
          · have htk := (td_ne htd).1
            have hlr := lkS_rng (NM := NM) (key := V idx) (hCN 1 (by omega))
            refine zg_blk pok2 X 1 [] (S' := (50, [(0, zR (e 0)), (1, zR (a 2)), (2, zR (c 0)), (3, zI w9)], [zI 0, zI (lkS CN NM 1 (V idx)), zI w9, zR (e 0)], ((tW a (FA K S V F idx) B K S V) ++ (cW c G CN NM MK TP PP CO KN) ++ (eW e E E1 E2 E3 E4)))) rfl trivial ?_
            refine zg_callV pok2 EWX_ok X 14 (vas := [zI w9, zI (lkS CN NM 1 (V idx)), zI 0]) (vr := []) (Y1 := ((tW a (FA K S V F idx) B K S V) ++ (cW c G CN NM MK TP PP CO KN) ++ (eW e E E1 E2 E3 E4))) (Y2 := []) rfl rfl (Or.inl rfl) zj_X8_add rfl rfl rfl rfl (Nat.le_of_ble_eq_true rfl) rfl (zm_add (F := (FA K S V F idx)) (E := E) (by first | exact hE4 | (show 0 ≤ E 4 ∧ E 4 ≤ 40; omega))) ⟨by decide, by decide, by decide, by decide⟩ (fun z9 Y9 hz => ?_)
            obtain ⟨rfl, E8c, Ac, Pc, Qc, rfl, h5_E8c, h4a_E8c, h4b_E8c⟩ := hz
            have E8c5 : E8c 5 = E 5 := h5_E8c
            refine zg_blk pok2 X 1 [] (S' := (54, [(0, zR (e 0)), (1, zR (a 2)), (2, zR (c 0)), (3, zI w9)], [zR (a 2)], ((tW a (FA K S V F idx) B K S V) ++ (cW c G CN NM MK TP PP CO KN) ++ (eW e E8c Ac Pc Qc E4)))) rfl trivial ?_
            refine zg_callV pok2 EWX_ok X 2 (vas := []) (vr := []) (Y1 := (tW a (FA K S V F idx) B K S V)) (Y2 := ((cW c G CN NM MK TP PP CO KN) ++ (eW e E8c Ac Pc Qc E4))) rfl rfl (Or.inl rfl) zj_X10_step rfl rfl rfl rfl (Nat.le_of_ble_eq_true rfl) rfl (zm_step (F := (FA K S V F idx)) (show F 1 ≤ 941 by omega) (show -1 ≤ ((idx : Nat) : Int) ∧ ((idx : Nat) : Int) < 941 by omega) (show -2147483648 ≤ F 6 ∧ F 6 < 2147483648 by omega) (show 0 ≤ F 1 by omega)) ⟨by decide, by decide, by decide, by decide⟩ (fun z9 Y9 hz => ?_)
            obtain ⟨rfl, rfl⟩ := hz
            have ip3 : (((idx + 1) : Nat) : Int) < F 1 := by
              have h9 := hTs idx hi (by omega) (by omega)
              omega
            have tp3 := hTk (idx + 1) ip3
            rw [FA_step (idx := idx) hF6 (by omega)]
            refine zg_cv (S2 := (57, [(0, zR (e 0)), (1, zR (a 2)), (2, zR (c 0)), (3, zI w9)], [], ((tW a (FA K S V F (idx + 1)) B K S V) ++ (cW c G CN NM MK TP PP CO KN) ++ (eW e E8c Ac Pc Qc E4)))) rfl ?_
            refine zg_retv X hR rfl rfl (by decide) (by decide) ?_
            refine ⟨rfl, _, _, _, _, _, _, rfl, by show E8c 5 = E 5; omega, ⟨h4a_E8c, h4b_E8c⟩, ?_⟩
            unfold pLeaf
            rw [if_neg (by omega), if_pos (by omega), if_pos htd]
            exact Or.inl ⟨rfl, rfl, ip3⟩
          · refine zg_blk pok2 X 1 [] (S' := (50, [(0, zR (e 0)), (1, zR (a 2)), (2, zR (c 0)), (3, zI w9)], [zI 0, zI (-1), zI w9, zR (e 0)], ((tW a F8b B K S V) ++ (cW c G CN NM MK TP PP CO KN) ++ (eW e E E1 E2 E3 E4)))) rfl trivial ?_
            refine zg_callV pok2 EWX_ok X 14 (vas := [zI w9, zI (-1), zI 0]) (vr := []) (Y1 := ((tW a F8b B K S V) ++ (cW c G CN NM MK TP PP CO KN) ++ (eW e E E1 E2 E3 E4))) (Y2 := []) rfl rfl (Or.inl rfl) zj_X8_add rfl rfl rfl rfl (Nat.le_of_ble_eq_true rfl) rfl (zm_add (F := F8b) (E := E) (by first | exact hE4 | (show 0 ≤ E 4 ∧ E 4 ≤ 40; omega))) ⟨by decide, by decide, by decide, by decide⟩ (fun z9 Y9 hz => ?_)
            obtain ⟨rfl, E8c, Ac, Pc, Qc, rfl, h5_E8c, h4a_E8c, h4b_E8c⟩ := hz
            have E8c5 : E8c 5 = E 5 := h5_E8c
            refine zg_blk pok2 X 1 [] (S' := (54, [(0, zR (e 0)), (1, zR (a 2)), (2, zR (c 0)), (3, zI w9)], [zR (a 2)], ((tW a F8b B K S V) ++ (cW c G CN NM MK TP PP CO KN) ++ (eW e E8c Ac Pc Qc E4)))) rfl trivial ?_
            refine zg_callV pok2 EWX_ok X 2 (vas := []) (vr := []) (Y1 := (tW a F8b B K S V)) (Y2 := ((cW c G CN NM MK TP PP CO KN) ++ (eW e E8c Ac Pc Qc E4))) rfl rfl (Or.inl rfl) zj_X10_step rfl rfl rfl rfl (Nat.le_of_ble_eq_true rfl) rfl (zm_stepX hfd) ⟨by decide, by decide, by decide, by decide⟩ (fun z9 Y9 hz => ?_)
            obtain ⟨rfl, rfl⟩ := hz
            refine zg_retv X hR rfl rfl (by decide) (by decide) ?_
            refine ⟨rfl, _, _, _, _, _, _, rfl, by show E8c 5 = E 5; omega, ⟨h4a_E8c, h4b_E8c⟩, ?_⟩
            unfold pLeaf
            rw [if_neg (by omega), if_pos (by omega), if_neg htd]
            exact Or.inr ⟨htd, hfd⟩
        · exfalso
          omega
        · exfalso
          omega
      · simp only [x_ncd] at g3
        refine zg_blk pok2 X 2 [] (S' := (29, [(0, zR (e 0)), (1, zR (a 2)), (2, zR (c 0)), (3, zI w9)], [zI 24, zI w9], ((tW a (FA K S V F idx) B K S V) ++ (cW c G CN NM MK TP PP CO KN) ++ (eW e E E1 E2 E3 E4)))) rfl trivial ?_
        refine zg_icmp X 38 rfl rfl (by unfold zin; omega) (by unfold zin; omega) (fun g4 => ?_) (fun g4 => ?_)
        · simp only [x_cnd] at g4
          refine zg_blk pok2 X 5 [] (S' := (43, [(0, zR (e 0)), (1, zR (a 2)), (2, zR (c 0)), (3, zI w9)], [zI w9, zR (a 2), zR (c 0), zI w9, zR (e 0)], ((tW a (FA K S V F idx) B K S V) ++ (cW c G CN NM MK TP PP CO KN) ++ (eW e E E1 E2 E3 E4)))) rfl trivial ?_
          refine zg_callS pok2 EWX_ok X (vas := [zI w9]) (vr := [zR (a 2), zR (c 0), zI w9, zR (e 0)]) (Y1 := ((tW a (FA K S V F idx) B K S V) ++ (cW c G CN NM MK TP PP CO KN) ++ (eW e E E1 E2 E3 E4))) (Y2 := []) rfl rfl (Or.inl rfl) zj_X8_sortBehind rfl rfl rfl (Nat.le_of_ble_eq_true rfl) rfl (zm_sortBehindS (z1 := w9) (by omega)) ⟨by decide, by decide, by decide, by decide⟩ (fun z9 Y9 hz => ?_)
          rcases hz with ⟨hsb, rfl, rfl⟩ | ⟨hsb, rfl, rfl⟩ | ⟨hsb, rfl, rfl⟩
          · exfalso
            omega
          · refine zg_callV pok2 EWX_ok X 6 (vas := [zR (a 2), zI 0]) (vr := [zI w9, zR (e 0)]) (Y1 := ((tW a (FA K S V F idx) B K S V) ++ (cW c G CN NM MK TP PP CO KN))) (Y2 := (eW e E E1 E2 E3 E4)) rfl rfl (Or.inl rfl) zj_X1_toldHere rfl rfl rfl rfl (Nat.le_of_ble_eq_true rfl) rfl (zm_toldHereA (sN := 0) (idx := idx) (by omega) hCN hNM hU ⟨hF6, hF1a, hF1b, hTs, hTk⟩ hi) ⟨by decide, by decide, by decide, by decide⟩ (fun z9 Y9 hz => ?_)
            rcases hz with ⟨htd, rfl, rfl⟩ | ⟨htd, rfl, F8b, hfd, rfl⟩
            · have htk := (td_ne htd).1
              have hlr := lkS_rng (NM := NM) (key := V idx) (hCN 0 (by omega))
              refine zg_blk pok2 X 1 [] (S' := (50, [(0, zR (e 0)), (1, zR (a 2)), (2, zR (c 0)), (3, zI w9)], [zI 0, zI (lkS CN NM 0 (V idx)), zI w9, zR (e 0)], ((tW a (FA K S V F idx) B K S V) ++ (cW c G CN NM MK TP PP CO KN) ++ (eW e E E1 E2 E3 E4)))) rfl trivial ?_
              refine zg_callV pok2 EWX_ok X 14 (vas := [zI w9, zI (lkS CN NM 0 (V idx)), zI 0]) (vr := []) (Y1 := ((tW a (FA K S V F idx) B K S V) ++ (cW c G CN NM MK TP PP CO KN) ++ (eW e E E1 E2 E3 E4))) (Y2 := []) rfl rfl (Or.inl rfl) zj_X8_add rfl rfl rfl rfl (Nat.le_of_ble_eq_true rfl) rfl (zm_add (F := (FA K S V F idx)) (E := E) (by first | exact hE4 | (show 0 ≤ E 4 ∧ E 4 ≤ 40; omega))) ⟨by decide, by decide, by decide, by decide⟩ (fun z9 Y9 hz => ?_)
              obtain ⟨rfl, E8c, Ac, Pc, Qc, rfl, h5_E8c, h4a_E8c, h4b_E8c⟩ := hz
              have E8c5 : E8c 5 = E 5 := h5_E8c
              refine zg_blk pok2 X 1 [] (S' := (54, [(0, zR (e 0)), (1, zR (a 2)), (2, zR (c 0)), (3, zI w9)], [zR (a 2)], ((tW a (FA K S V F idx) B K S V) ++ (cW c G CN NM MK TP PP CO KN) ++ (eW e E8c Ac Pc Qc E4)))) rfl trivial ?_
              refine zg_callV pok2 EWX_ok X 2 (vas := []) (vr := []) (Y1 := (tW a (FA K S V F idx) B K S V)) (Y2 := ((cW c G CN NM MK TP PP CO KN) ++ (eW e E8c Ac Pc Qc E4))) rfl rfl (Or.inl rfl) zj_X10_step rfl rfl rfl rfl (Nat.le_of_ble_eq_true rfl) rfl (zm_step (F := (FA K S V F idx)) (show F 1 ≤ 941 by omega) (show -1 ≤ ((idx : Nat) : Int) ∧ ((idx : Nat) : Int) < 941 by omega) (show -2147483648 ≤ F 6 ∧ F 6 < 2147483648 by omega) (show 0 ≤ F 1 by omega)) ⟨by decide, by decide, by decide, by decide⟩ (fun z9 Y9 hz => ?_)
              obtain ⟨rfl, rfl⟩ := hz
              have ip3 : (((idx + 1) : Nat) : Int) < F 1 := by
                have h9 := hTs idx hi (by omega) (by omega)
                omega
              have tp3 := hTk (idx + 1) ip3
              rw [FA_step (idx := idx) hF6 (by omega)]
              refine zg_cv (S2 := (57, [(0, zR (e 0)), (1, zR (a 2)), (2, zR (c 0)), (3, zI w9)], [], ((tW a (FA K S V F (idx + 1)) B K S V) ++ (cW c G CN NM MK TP PP CO KN) ++ (eW e E8c Ac Pc Qc E4)))) rfl ?_
              refine zg_retv X hR rfl rfl (by decide) (by decide) ?_
              refine ⟨rfl, _, _, _, _, _, _, rfl, by show E8c 5 = E 5; omega, ⟨h4a_E8c, h4b_E8c⟩, ?_⟩
              unfold pLeaf
              rw [if_neg (by omega), if_neg (by omega), if_pos (by omega), if_pos htd]
              exact Or.inl ⟨rfl, rfl, ip3⟩
            · refine zg_blk pok2 X 1 [] (S' := (50, [(0, zR (e 0)), (1, zR (a 2)), (2, zR (c 0)), (3, zI w9)], [zI 0, zI (-1), zI w9, zR (e 0)], ((tW a F8b B K S V) ++ (cW c G CN NM MK TP PP CO KN) ++ (eW e E E1 E2 E3 E4)))) rfl trivial ?_
              refine zg_callV pok2 EWX_ok X 14 (vas := [zI w9, zI (-1), zI 0]) (vr := []) (Y1 := ((tW a F8b B K S V) ++ (cW c G CN NM MK TP PP CO KN) ++ (eW e E E1 E2 E3 E4))) (Y2 := []) rfl rfl (Or.inl rfl) zj_X8_add rfl rfl rfl rfl (Nat.le_of_ble_eq_true rfl) rfl (zm_add (F := F8b) (E := E) (by first | exact hE4 | (show 0 ≤ E 4 ∧ E 4 ≤ 40; omega))) ⟨by decide, by decide, by decide, by decide⟩ (fun z9 Y9 hz => ?_)
              obtain ⟨rfl, E8c, Ac, Pc, Qc, rfl, h5_E8c, h4a_E8c, h4b_E8c⟩ := hz
              have E8c5 : E8c 5 = E 5 := h5_E8c
              refine zg_blk pok2 X 1 [] (S' := (54, [(0, zR (e 0)), (1, zR (a 2)), (2, zR (c 0)), (3, zI w9)], [zR (a 2)], ((tW a F8b B K S V) ++ (cW c G CN NM MK TP PP CO KN) ++ (eW e E8c Ac Pc Qc E4)))) rfl trivial ?_
              refine zg_callV pok2 EWX_ok X 2 (vas := []) (vr := []) (Y1 := (tW a F8b B K S V)) (Y2 := ((cW c G CN NM MK TP PP CO KN) ++ (eW e E8c Ac Pc Qc E4))) rfl rfl (Or.inl rfl) zj_X10_step rfl rfl rfl rfl (Nat.le_of_ble_eq_true rfl) rfl (zm_stepX hfd) ⟨by decide, by decide, by decide, by decide⟩ (fun z9 Y9 hz => ?_)
              obtain ⟨rfl, rfl⟩ := hz
              refine zg_retv X hR rfl rfl (by decide) (by decide) ?_
              refine ⟨rfl, _, _, _, _, _, _, rfl, by show E8c 5 = E 5; omega, ⟨h4a_E8c, h4b_E8c⟩, ?_⟩
              unfold pLeaf
              rw [if_neg (by omega), if_neg (by omega), if_pos (by omega), if_neg htd]
              exact Or.inr ⟨htd, hfd⟩
          · exfalso
            omega
        · simp only [x_ncd] at g4
          refine zg_blk pok2 X 2 [] (S' := (35, [(0, zR (e 0)), (1, zR (a 2)), (2, zR (c 0)), (3, zI w9)], [zI 25, zI w9], ((tW a (FA K S V F idx) B K S V) ++ (cW c G CN NM MK TP PP CO KN) ++ (eW e E E1 E2 E3 E4)))) rfl trivial ?_
          refine zg_icmp X 58 rfl rfl (by unfold zin; omega) (by unfold zin; omega) (fun g5 => ?_) (fun g5 => ?_)
          · simp only [x_cnd] at g5
            refine zg_blk pok2 X 5 [2] (S' := (68, [(4, zI (K idx)), (0, zR (e 0)), (1, zR (a 2)), (2, zR (c 0)), (3, zI w9)], [zI 60, zI (K idx)], ((tW a (FA K S V F idx) B K S V) ++ (cW c G CN NM MK TP PP CO KN) ++ (eW e E E1 E2 E3 E4)))) rfl ⟨rfl, trivial⟩ ?_
            refine zg_icmp X 91 rfl rfl (by unfold zin; omega) (by unfold zin; omega) (fun g6 => ?_) (fun g6 => ?_)
            · simp only [x_cnd] at g6
              refine zg_blk pok2 X 1 [] (S' := (92, [(4, zI (K idx)), (0, zR (e 0)), (1, zR (a 2)), (2, zR (c 0)), (3, zI w9)], [zR (a 2)], ((tW a (FA K S V F idx) B K S V) ++ (cW c G CN NM MK TP PP CO KN) ++ (eW e E E1 E2 E3 E4)))) rfl trivial ?_
              refine zg_callV pok2 EWX_ok X 2 (vas := []) (vr := []) (Y1 := (tW a (FA K S V F idx) B K S V)) (Y2 := ((cW c G CN NM MK TP PP CO KN) ++ (eW e E E1 E2 E3 E4))) rfl rfl (Or.inl rfl) zj_X10_step rfl rfl rfl rfl (Nat.le_of_ble_eq_true rfl) rfl (zm_step (F := (FA K S V F idx)) (show F 1 ≤ 941 by omega) (show -1 ≤ ((idx : Nat) : Int) ∧ ((idx : Nat) : Int) < 941 by omega) (show -2147483648 ≤ F 6 ∧ F 6 < 2147483648 by omega) (show 0 ≤ F 1 by omega)) ⟨by decide, by decide, by decide, by decide⟩ (fun z9 Y9 hz => ?_)
              obtain ⟨rfl, rfl⟩ := hz
              have ip1 : (((idx + 1) : Nat) : Int) < F 1 := by
                have h9 := hTs idx hi (by omega) (by omega)
                omega
              have tp1 := hTk (idx + 1) ip1
              rw [FA_step (idx := idx) hF6 (by omega)]
              refine zg_cv (S2 := (95, [(4, zI (K idx)), (0, zR (e 0)), (1, zR (a 2)), (2, zR (c 0)), (3, zI w9)], [], ((tW a (FA K S V F (idx + 1)) B K S V) ++ (cW c G CN NM MK TP PP CO KN) ++ (eW e E E1 E2 E3 E4)))) rfl ?_
              refine zg_blk pok2 X 5 [] (S' := (102, [(4, zI (K idx)), (0, zR (e 0)), (1, zR (a 2)), (2, zR (c 0)), (3, zI w9)], [zI 999, zI 0, zR (a 2), zI w9, zR (e 0)], ((tW a (FA K S V F (idx + 1)) B K S V) ++ (cW c G CN NM MK TP PP CO KN) ++ (eW e E E1 E2 E3 E4)))) rfl trivial ?_
              refine zg_callV pok2 EWX_ok X 2 (vas := [zI 0, zI 999]) (vr := [zI w9, zR (e 0)]) (Y1 := (tW a (FA K S V F (idx + 1)) B K S V)) (Y2 := ((cW c G CN NM MK TP PP CO KN) ++ (eW e E E1 E2 E3 E4))) rfl rfl (Or.inl rfl) zj_X10_takeNumber rfl rfl rfl rfl (Nat.le_of_ble_eq_true rfl) rfl (zm_takeNumberA (z1 := 0) (z2 := 999) (idx := (idx + 1)) (by omega) (by omega) ⟨hF6, hF1a, hF1b, hTs, hTk⟩ ip1) ⟨by decide, by decide, by decide, by decide⟩ (fun z9 Y9 hz => ?_)
              rcases hz with ⟨hnu, rfl, rfl⟩ | ⟨hnu, rfl, F8c, hfd, rfl⟩
              · have ip3 : (((idx + 2) : Nat) : Int) < F 1 := by
                  have h9 := hTs (idx + 1) ip1 (by have h9 := nm_ok hnu; omega) (by have h9 := nm_ok hnu; omega)
                  omega
                have tp3 := hTk (idx + 2) ip3
                refine zg_blk pok2 X 1 [] (S' := (107, [(4, zI (K idx)), (0, zR (e 0)), (1, zR (a 2)), (2, zR (c 0)), (3, zI w9)], [zI (K idx), zI (V (idx + 1)), zI w9, zR (e 0)], ((tW a (FA K S V F (idx + 2)) B K S V) ++ (cW c G CN NM MK TP PP CO KN) ++ (eW e E E1 E2 E3 E4)))) rfl trivial ?_
                refine zg_callV pok2 EWX_ok X 14 (vas := [zI w9, zI (V (idx + 1)), zI (K idx)]) (vr := []) (Y1 := ((tW a (FA K S V F (idx + 2)) B K S V) ++ (cW c G CN NM MK TP PP CO KN) ++ (eW e E E1 E2 E3 E4))) (Y2 := []) rfl rfl (Or.inl rfl) zj_X8_add rfl rfl rfl rfl (Nat.le_of_ble_eq_true rfl) rfl (zm_add (F := (FA K S V F (idx + 2))) (E := E) (by first | exact hE4 | (show 0 ≤ E 4 ∧ E 4 ≤ 40; omega))) ⟨by decide, by decide, by decide, by decide⟩ (fun z9 Y9 hz => ?_)
                obtain ⟨rfl, E8e, Ae, Pe, Qe, rfl, h5_E8e, h4a_E8e, h4b_E8e⟩ := hz
                have E8e5 : E8e 5 = E 5 := h5_E8e
                refine zg_retv X hR rfl rfl (by decide) (by decide) ?_
                refine ⟨rfl, _, _, _, _, _, _, rfl, by show E8e 5 = E 5; omega, ⟨h4a_E8e, h4b_E8e⟩, ?_⟩
                unfold pLeaf
                rw [if_neg (by omega), if_neg (by omega), if_neg (by omega), if_neg (by omega), if_pos (by omega), if_pos hnu]
                exact Or.inl ⟨rfl, rfl, ip3⟩
              · refine zg_blk pok2 X 1 [] (S' := (107, [(4, zI (K idx)), (0, zR (e 0)), (1, zR (a 2)), (2, zR (c 0)), (3, zI w9)], [zI (K idx), zI (-1), zI w9, zR (e 0)], ((tW a F8c B K S V) ++ (cW c G CN NM MK TP PP CO KN) ++ (eW e E E1 E2 E3 E4)))) rfl trivial ?_
                refine zg_callV pok2 EWX_ok X 14 (vas := [zI w9, zI (-1), zI (K idx)]) (vr := []) (Y1 := ((tW a F8c B K S V) ++ (cW c G CN NM MK TP PP CO KN) ++ (eW e E E1 E2 E3 E4))) (Y2 := []) rfl rfl (Or.inl rfl) zj_X8_add rfl rfl rfl rfl (Nat.le_of_ble_eq_true rfl) rfl (zm_add (F := F8c) (E := E) (by first | exact hE4 | (show 0 ≤ E 4 ∧ E 4 ≤ 40; omega))) ⟨by decide, by decide, by decide, by decide⟩ (fun z9 Y9 hz => ?_)
                obtain ⟨rfl, E8d, Ad, Pd, Qd, rfl, h5_E8d, h4a_E8d, h4b_E8d⟩ := hz
                have E8d5 : E8d 5 = E 5 := h5_E8d
                refine zg_retv X hR rfl rfl (by decide) (by decide) ?_
                refine ⟨rfl, _, _, _, _, _, _, rfl, by show E8d 5 = E 5; omega, ⟨h4a_E8d, h4b_E8d⟩, ?_⟩
                unfold pLeaf
                rw [if_neg (by omega), if_neg (by omega), if_neg (by omega), if_neg (by omega), if_pos (by omega), if_neg hnu]
                exact Or.inr ⟨hnu, hfd⟩
            · simp only [x_ncd] at g6
              refine zg_blk pok2 X 2 [] (S' := (75, [(4, zI (K idx)), (0, zR (e 0)), (1, zR (a 2)), (2, zR (c 0)), (3, zI w9)], [zI 61, zI (K idx)], ((tW a (FA K S V F idx) B K S V) ++ (cW c G CN NM MK TP PP CO KN) ++ (eW e E E1 E2 E3 E4)))) rfl trivial ?_
              refine zg_icmp X 91 rfl rfl (by unfold zin; omega) (by unfold zin; omega) (fun g7 => ?_) (fun g7 => ?_)
              · simp only [x_cnd] at g7
                refine zg_blk pok2 X 1 [] (S' := (92, [(4, zI (K idx)), (0, zR (e 0)), (1, zR (a 2)), (2, zR (c 0)), (3, zI w9)], [zR (a 2)], ((tW a (FA K S V F idx) B K S V) ++ (cW c G CN NM MK TP PP CO KN) ++ (eW e E E1 E2 E3 E4)))) rfl trivial ?_
                refine zg_callV pok2 EWX_ok X 2 (vas := []) (vr := []) (Y1 := (tW a (FA K S V F idx) B K S V)) (Y2 := ((cW c G CN NM MK TP PP CO KN) ++ (eW e E E1 E2 E3 E4))) rfl rfl (Or.inl rfl) zj_X10_step rfl rfl rfl rfl (Nat.le_of_ble_eq_true rfl) rfl (zm_step (F := (FA K S V F idx)) (show F 1 ≤ 941 by omega) (show -1 ≤ ((idx : Nat) : Int) ∧ ((idx : Nat) : Int) < 941 by omega) (show -2147483648 ≤ F 6 ∧ F 6 < 2147483648 by omega) (show 0 ≤ F 1 by omega)) ⟨by decide, by decide, by decide, by decide⟩ (fun z9 Y9 hz => ?_)
                obtain ⟨rfl, rfl⟩ := hz
                have ip1 : (((idx + 1) : Nat) : Int) < F 1 := by
                  have h9 := hTs idx hi (by omega) (by omega)
                  omega
                have tp1 := hTk (idx + 1) ip1
                rw [FA_step (idx := idx) hF6 (by omega)]
                refine zg_cv (S2 := (95, [(4, zI (K idx)), (0, zR (e 0)), (1, zR (a 2)), (2, zR (c 0)), (3, zI w9)], [], ((tW a (FA K S V F (idx + 1)) B K S V) ++ (cW c G CN NM MK TP PP CO KN) ++ (eW e E E1 E2 E3 E4)))) rfl ?_
                refine zg_blk pok2 X 5 [] (S' := (102, [(4, zI (K idx)), (0, zR (e 0)), (1, zR (a 2)), (2, zR (c 0)), (3, zI w9)], [zI 999, zI 0, zR (a 2), zI w9, zR (e 0)], ((tW a (FA K S V F (idx + 1)) B K S V) ++ (cW c G CN NM MK TP PP CO KN) ++ (eW e E E1 E2 E3 E4)))) rfl trivial ?_
                refine zg_callV pok2 EWX_ok X 2 (vas := [zI 0, zI 999]) (vr := [zI w9, zR (e 0)]) (Y1 := (tW a (FA K S V F (idx + 1)) B K S V)) (Y2 := ((cW c G CN NM MK TP PP CO KN) ++ (eW e E E1 E2 E3 E4))) rfl rfl (Or.inl rfl) zj_X10_takeNumber rfl rfl rfl rfl (Nat.le_of_ble_eq_true rfl) rfl (zm_takeNumberA (z1 := 0) (z2 := 999) (idx := (idx + 1)) (by omega) (by omega) ⟨hF6, hF1a, hF1b, hTs, hTk⟩ ip1) ⟨by decide, by decide, by decide, by decide⟩ (fun z9 Y9 hz => ?_)
                rcases hz with ⟨hnu, rfl, rfl⟩ | ⟨hnu, rfl, F8c, hfd, rfl⟩
                · have ip3 : (((idx + 2) : Nat) : Int) < F 1 := by
                    have h9 := hTs (idx + 1) ip1 (by have h9 := nm_ok hnu; omega) (by have h9 := nm_ok hnu; omega)
                    omega
                  have tp3 := hTk (idx + 2) ip3
                  refine zg_blk pok2 X 1 [] (S' := (107, [(4, zI (K idx)), (0, zR (e 0)), (1, zR (a 2)), (2, zR (c 0)), (3, zI w9)], [zI (K idx), zI (V (idx + 1)), zI w9, zR (e 0)], ((tW a (FA K S V F (idx + 2)) B K S V) ++ (cW c G CN NM MK TP PP CO KN) ++ (eW e E E1 E2 E3 E4)))) rfl trivial ?_
                  refine zg_callV pok2 EWX_ok X 14 (vas := [zI w9, zI (V (idx + 1)), zI (K idx)]) (vr := []) (Y1 := ((tW a (FA K S V F (idx + 2)) B K S V) ++ (cW c G CN NM MK TP PP CO KN) ++ (eW e E E1 E2 E3 E4))) (Y2 := []) rfl rfl (Or.inl rfl) zj_X8_add rfl rfl rfl rfl (Nat.le_of_ble_eq_true rfl) rfl (zm_add (F := (FA K S V F (idx + 2))) (E := E) (by first | exact hE4 | (show 0 ≤ E 4 ∧ E 4 ≤ 40; omega))) ⟨by decide, by decide, by decide, by decide⟩ (fun z9 Y9 hz => ?_)
                  obtain ⟨rfl, E8e, Ae, Pe, Qe, rfl, h5_E8e, h4a_E8e, h4b_E8e⟩ := hz
                  have E8e5 : E8e 5 = E 5 := h5_E8e
                  refine zg_retv X hR rfl rfl (by decide) (by decide) ?_
                  refine ⟨rfl, _, _, _, _, _, _, rfl, by show E8e 5 = E 5; omega, ⟨h4a_E8e, h4b_E8e⟩, ?_⟩
                  unfold pLeaf
                  rw [if_neg (by omega), if_neg (by omega), if_neg (by omega), if_neg (by omega), if_pos (by omega), if_pos hnu]
                  exact Or.inl ⟨rfl, rfl, ip3⟩
                · refine zg_blk pok2 X 1 [] (S' := (107, [(4, zI (K idx)), (0, zR (e 0)), (1, zR (a 2)), (2, zR (c 0)), (3, zI w9)], [zI (K idx), zI (-1), zI w9, zR (e 0)], ((tW a F8c B K S V) ++ (cW c G CN NM MK TP PP CO KN) ++ (eW e E E1 E2 E3 E4)))) rfl trivial ?_
                  refine zg_callV pok2 EWX_ok X 14 (vas := [zI w9, zI (-1), zI (K idx)]) (vr := []) (Y1 := ((tW a F8c B K S V) ++ (cW c G CN NM MK TP PP CO KN) ++ (eW e E E1 E2 E3 E4))) (Y2 := []) rfl rfl (Or.inl rfl) zj_X8_add rfl rfl rfl rfl (Nat.le_of_ble_eq_true rfl) rfl (zm_add (F := F8c) (E := E) (by first | exact hE4 | (show 0 ≤ E 4 ∧ E 4 ≤ 40; omega))) ⟨by decide, by decide, by decide, by decide⟩ (fun z9 Y9 hz => ?_)
                  obtain ⟨rfl, E8d, Ad, Pd, Qd, rfl, h5_E8d, h4a_E8d, h4b_E8d⟩ := hz
                  have E8d5 : E8d 5 = E 5 := h5_E8d
                  refine zg_retv X hR rfl rfl (by decide) (by decide) ?_
                  refine ⟨rfl, _, _, _, _, _, _, rfl, by show E8d 5 = E 5; omega, ⟨h4a_E8d, h4b_E8d⟩, ?_⟩
                  unfold pLeaf
                  rw [if_neg (by omega), if_neg (by omega), if_neg (by omega), if_neg (by omega), if_pos (by omega), if_neg hnu]
                  exact Or.inr ⟨hnu, hfd⟩
              · simp only [x_ncd] at g7
                refine zg_blk pok2 X 2 [] (S' := (82, [(4, zI (K idx)), (0, zR (e 0)), (1, zR (a 2)), (2, zR (c 0)), (3, zI w9)], [zI 62, zI (K idx)], ((tW a (FA K S V F idx) B K S V) ++ (cW c G CN NM MK TP PP CO KN) ++ (eW e E E1 E2 E3 E4)))) rfl trivial ?_
                refine zg_icmp X 91 rfl rfl (by unfold zin; omega) (by unfold zin; omega) (fun g8 => ?_) (fun g8 => ?_)
                · simp only [x_cnd] at g8
                  refine zg_blk pok2 X 1 [] (S' := (92, [(4, zI (K idx)), (0, zR (e 0)), (1, zR (a 2)), (2, zR (c 0)), (3, zI w9)], [zR (a 2)], ((tW a (FA K S V F idx) B K S V) ++ (cW c G CN NM MK TP PP CO KN) ++ (eW e E E1 E2 E3 E4)))) rfl trivial ?_
                  refine zg_callV pok2 EWX_ok X 2 (vas := []) (vr := []) (Y1 := (tW a (FA K S V F idx) B K S V)) (Y2 := ((cW c G CN NM MK TP PP CO KN) ++ (eW e E E1 E2 E3 E4))) rfl rfl (Or.inl rfl) zj_X10_step rfl rfl rfl rfl (Nat.le_of_ble_eq_true rfl) rfl (zm_step (F := (FA K S V F idx)) (show F 1 ≤ 941 by omega) (show -1 ≤ ((idx : Nat) : Int) ∧ ((idx : Nat) : Int) < 941 by omega) (show -2147483648 ≤ F 6 ∧ F 6 < 2147483648 by omega) (show 0 ≤ F 1 by omega)) ⟨by decide, by decide, by decide, by decide⟩ (fun z9 Y9 hz => ?_)
                  obtain ⟨rfl, rfl⟩ := hz
                  have ip1 : (((idx + 1) : Nat) : Int) < F 1 := by
                    have h9 := hTs idx hi (by omega) (by omega)
                    omega
                  have tp1 := hTk (idx + 1) ip1
                  rw [FA_step (idx := idx) hF6 (by omega)]
                  refine zg_cv (S2 := (95, [(4, zI (K idx)), (0, zR (e 0)), (1, zR (a 2)), (2, zR (c 0)), (3, zI w9)], [], ((tW a (FA K S V F (idx + 1)) B K S V) ++ (cW c G CN NM MK TP PP CO KN) ++ (eW e E E1 E2 E3 E4)))) rfl ?_
                  refine zg_blk pok2 X 5 [] (S' := (102, [(4, zI (K idx)), (0, zR (e 0)), (1, zR (a 2)), (2, zR (c 0)), (3, zI w9)], [zI 999, zI 0, zR (a 2), zI w9, zR (e 0)], ((tW a (FA K S V F (idx + 1)) B K S V) ++ (cW c G CN NM MK TP PP CO KN) ++ (eW e E E1 E2 E3 E4)))) rfl trivial ?_
                  refine zg_callV pok2 EWX_ok X 2 (vas := [zI 0, zI 999]) (vr := [zI w9, zR (e 0)]) (Y1 := (tW a (FA K S V F (idx + 1)) B K S V)) (Y2 := ((cW c G CN NM MK TP PP CO KN) ++ (eW e E E1 E2 E3 E4))) rfl rfl (Or.inl rfl) zj_X10_takeNumber rfl rfl rfl rfl (Nat.le_of_ble_eq_true rfl) rfl (zm_takeNumberA (z1 := 0) (z2 := 999) (idx := (idx + 1)) (by omega) (by omega) ⟨hF6, hF1a, hF1b, hTs, hTk⟩ ip1) ⟨by decide, by decide, by decide, by decide⟩ (fun z9 Y9 hz => ?_)
                  rcases hz with ⟨hnu, rfl, rfl⟩ | ⟨hnu, rfl, F8c, hfd, rfl⟩
                  · have ip3 : (((idx + 2) : Nat) : Int) < F 1 := by
                      have h9 := hTs (idx + 1) ip1 (by have h9 := nm_ok hnu; omega) (by have h9 := nm_ok hnu; omega)
                      omega
                    have tp3 := hTk (idx + 2) ip3
                    refine zg_blk pok2 X 1 [] (S' := (107, [(4, zI (K idx)), (0, zR (e 0)), (1, zR (a 2)), (2, zR (c 0)), (3, zI w9)], [zI (K idx), zI (V (idx + 1)), zI w9, zR (e 0)], ((tW a (FA K S V F (idx + 2)) B K S V) ++ (cW c G CN NM MK TP PP CO KN) ++ (eW e E E1 E2 E3 E4)))) rfl trivial ?_
                    refine zg_callV pok2 EWX_ok X 14 (vas := [zI w9, zI (V (idx + 1)), zI (K idx)]) (vr := []) (Y1 := ((tW a (FA K S V F (idx + 2)) B K S V) ++ (cW c G CN NM MK TP PP CO KN) ++ (eW e E E1 E2 E3 E4))) (Y2 := []) rfl rfl (Or.inl rfl) zj_X8_add rfl rfl rfl rfl (Nat.le_of_ble_eq_true rfl) rfl (zm_add (F := (FA K S V F (idx + 2))) (E := E) (by first | exact hE4 | (show 0 ≤ E 4 ∧ E 4 ≤ 40; omega))) ⟨by decide, by decide, by decide, by decide⟩ (fun z9 Y9 hz => ?_)
                    obtain ⟨rfl, E8e, Ae, Pe, Qe, rfl, h5_E8e, h4a_E8e, h4b_E8e⟩ := hz
                    have E8e5 : E8e 5 = E 5 := h5_E8e
                    refine zg_retv X hR rfl rfl (by decide) (by decide) ?_
                    refine ⟨rfl, _, _, _, _, _, _, rfl, by show E8e 5 = E 5; omega, ⟨h4a_E8e, h4b_E8e⟩, ?_⟩
                    unfold pLeaf
                    rw [if_neg (by omega), if_neg (by omega), if_neg (by omega), if_neg (by omega), if_pos (by omega), if_pos hnu]
                    exact Or.inl ⟨rfl, rfl, ip3⟩
                  · refine zg_blk pok2 X 1 [] (S' := (107, [(4, zI (K idx)), (0, zR (e 0)), (1, zR (a 2)), (2, zR (c 0)), (3, zI w9)], [zI (K idx), zI (-1), zI w9, zR (e 0)], ((tW a F8c B K S V) ++ (cW c G CN NM MK TP PP CO KN) ++ (eW e E E1 E2 E3 E4)))) rfl trivial ?_
                    refine zg_callV pok2 EWX_ok X 14 (vas := [zI w9, zI (-1), zI (K idx)]) (vr := []) (Y1 := ((tW a F8c B K S V) ++ (cW c G CN NM MK TP PP CO KN) ++ (eW e E E1 E2 E3 E4))) (Y2 := []) rfl rfl (Or.inl rfl) zj_X8_add rfl rfl rfl rfl (Nat.le_of_ble_eq_true rfl) rfl (zm_add (F := F8c) (E := E) (by first | exact hE4 | (show 0 ≤ E 4 ∧ E 4 ≤ 40; omega))) ⟨by decide, by decide, by decide, by decide⟩ (fun z9 Y9 hz => ?_)
                    obtain ⟨rfl, E8d, Ad, Pd, Qd, rfl, h5_E8d, h4a_E8d, h4b_E8d⟩ := hz
                    have E8d5 : E8d 5 = E 5 := h5_E8d
                    refine zg_retv X hR rfl rfl (by decide) (by decide) ?_
                    refine ⟨rfl, _, _, _, _, _, _, rfl, by show E8d 5 = E 5; omega, ⟨h4a_E8d, h4b_E8d⟩, ?_⟩
                    unfold pLeaf
                    rw [if_neg (by omega), if_neg (by omega), if_neg (by omega), if_neg (by omega), if_pos (by omega), if_neg hnu]
                    exact Or.inr ⟨hnu, hfd⟩
                · simp only [x_ncd] at g8
                  refine zg_blk pok2 X 2 [] (S' := (87, [(4, zI (K idx)), (0, zR (e 0)), (1, zR (a 2)), (2, zR (c 0)), (3, zI w9)], [zI 1, zR (a 2)], ((tW a (FA K S V F idx) B K S V) ++ (cW c G CN NM MK TP PP CO KN) ++ (eW e E E1 E2 E3 E4)))) rfl trivial ?_
                  refine zg_callV pok2 EWX_ok X 2 (vas := [zI 1]) (vr := []) (Y1 := (tW a (FA K S V F idx) B K S V)) (Y2 := ((cW c G CN NM MK TP PP CO KN) ++ (eW e E E1 E2 E3 E4))) rfl rfl (Or.inl rfl) zj_X10_fail rfl rfl rfl rfl (Nat.le_of_ble_eq_true rfl) rfl (zm_fail (F := (FA K S V F idx)) (show -2147483648 ≤ F 6 ∧ F 6 < 2147483648 by omega)) ⟨by decide, by decide, by decide, by decide⟩ (fun z9 Y9 hz => ?_)
                  obtain ⟨rfl, rfl⟩ := hz
                  have hfd := FA_fail (K := K) (S := S) (V := V) (F := F) (idx := idx) (m := 1) hF6 (by decide) (by decide)
                  refine zg_retv X hR rfl rfl (by decide) (by decide) ?_
                  refine ⟨rfl, _, _, _, _, _, _, rfl, rfl, hE4, ?_⟩
                  unfold pLeaf
                  rw [if_neg (by omega), if_neg (by omega), if_neg (by omega), if_neg (by omega), if_neg (by omega)]
                  exact Or.inr ⟨show ¬ (1 : Int) = 0 by decide, hfd⟩
          · simp only [x_ncd] at g5
            refine zg_blk pok2 X 5 [] (S' := (43, [(0, zR (e 0)), (1, zR (a 2)), (2, zR (c 0)), (3, zI w9)], [zI w9, zR (a 2), zR (c 0), zI w9, zR (e 0)], ((tW a (FA K S V F idx) B K S V) ++ (cW c G CN NM MK TP PP CO KN) ++ (eW e E E1 E2 E3 E4)))) rfl trivial ?_
            refine zg_callS pok2 EWX_ok X (vas := [zI w9]) (vr := [zR (a 2), zR (c 0), zI w9, zR (e 0)]) (Y1 := ((tW a (FA K S V F idx) B K S V) ++ (cW c G CN NM MK TP PP CO KN) ++ (eW e E E1 E2 E3 E4))) (Y2 := []) rfl rfl (Or.inl rfl) zj_X8_sortBehind rfl rfl rfl (Nat.le_of_ble_eq_true rfl) rfl (zm_sortBehindS (z1 := w9) (by omega)) ⟨by decide, by decide, by decide, by decide⟩ (fun z9 Y9 hz => ?_)
            rcases hz with ⟨hsb, rfl, rfl⟩ | ⟨hsb, rfl, rfl⟩ | ⟨hsb, rfl, rfl⟩
            · exfalso
              omega
            · exfalso
              omega
            · refine zg_callV pok2 EWX_ok X 6 (vas := [zR (a 2), zI 3]) (vr := [zI w9, zR (e 0)]) (Y1 := ((tW a (FA K S V F idx) B K S V) ++ (cW c G CN NM MK TP PP CO KN))) (Y2 := (eW e E E1 E2 E3 E4)) rfl rfl (Or.inl rfl) zj_X1_toldHere rfl rfl rfl rfl (Nat.le_of_ble_eq_true rfl) rfl (zm_toldHereA (sN := 3) (idx := idx) (by omega) hCN hNM hU ⟨hF6, hF1a, hF1b, hTs, hTk⟩ hi) ⟨by decide, by decide, by decide, by decide⟩ (fun z9 Y9 hz => ?_)
              rcases hz with ⟨htd, rfl, rfl⟩ | ⟨htd, rfl, F8b, hfd, rfl⟩
              · have htk := (td_ne htd).1
                have hlr := lkS_rng (NM := NM) (key := V idx) (hCN 3 (by omega))
                refine zg_blk pok2 X 1 [] (S' := (50, [(0, zR (e 0)), (1, zR (a 2)), (2, zR (c 0)), (3, zI w9)], [zI 0, zI (lkS CN NM 3 (V idx)), zI w9, zR (e 0)], ((tW a (FA K S V F idx) B K S V) ++ (cW c G CN NM MK TP PP CO KN) ++ (eW e E E1 E2 E3 E4)))) rfl trivial ?_
                refine zg_callV pok2 EWX_ok X 14 (vas := [zI w9, zI (lkS CN NM 3 (V idx)), zI 0]) (vr := []) (Y1 := ((tW a (FA K S V F idx) B K S V) ++ (cW c G CN NM MK TP PP CO KN) ++ (eW e E E1 E2 E3 E4))) (Y2 := []) rfl rfl (Or.inl rfl) zj_X8_add rfl rfl rfl rfl (Nat.le_of_ble_eq_true rfl) rfl (zm_add (F := (FA K S V F idx)) (E := E) (by first | exact hE4 | (show 0 ≤ E 4 ∧ E 4 ≤ 40; omega))) ⟨by decide, by decide, by decide, by decide⟩ (fun z9 Y9 hz => ?_)
                obtain ⟨rfl, E8c, Ac, Pc, Qc, rfl, h5_E8c, h4a_E8c, h4b_E8c⟩ := hz
                have E8c5 : E8c 5 = E 5 := h5_E8c
                refine zg_blk pok2 X 1 [] (S' := (54, [(0, zR (e 0)), (1, zR (a 2)), (2, zR (c 0)), (3, zI w9)], [zR (a 2)], ((tW a (FA K S V F idx) B K S V) ++ (cW c G CN NM MK TP PP CO KN) ++ (eW e E8c Ac Pc Qc E4)))) rfl trivial ?_
                refine zg_callV pok2 EWX_ok X 2 (vas := []) (vr := []) (Y1 := (tW a (FA K S V F idx) B K S V)) (Y2 := ((cW c G CN NM MK TP PP CO KN) ++ (eW e E8c Ac Pc Qc E4))) rfl rfl (Or.inl rfl) zj_X10_step rfl rfl rfl rfl (Nat.le_of_ble_eq_true rfl) rfl (zm_step (F := (FA K S V F idx)) (show F 1 ≤ 941 by omega) (show -1 ≤ ((idx : Nat) : Int) ∧ ((idx : Nat) : Int) < 941 by omega) (show -2147483648 ≤ F 6 ∧ F 6 < 2147483648 by omega) (show 0 ≤ F 1 by omega)) ⟨by decide, by decide, by decide, by decide⟩ (fun z9 Y9 hz => ?_)
                obtain ⟨rfl, rfl⟩ := hz
                have ip3 : (((idx + 1) : Nat) : Int) < F 1 := by
                  have h9 := hTs idx hi (by omega) (by omega)
                  omega
                have tp3 := hTk (idx + 1) ip3
                rw [FA_step (idx := idx) hF6 (by omega)]
                refine zg_cv (S2 := (57, [(0, zR (e 0)), (1, zR (a 2)), (2, zR (c 0)), (3, zI w9)], [], ((tW a (FA K S V F (idx + 1)) B K S V) ++ (cW c G CN NM MK TP PP CO KN) ++ (eW e E8c Ac Pc Qc E4)))) rfl ?_
                refine zg_retv X hR rfl rfl (by decide) (by decide) ?_
                refine ⟨rfl, _, _, _, _, _, _, rfl, by show E8c 5 = E 5; omega, ⟨h4a_E8c, h4b_E8c⟩, ?_⟩
                unfold pLeaf
                rw [if_neg (by omega), if_neg (by omega), if_neg (by omega), if_pos (by omega), if_pos htd]
                exact Or.inl ⟨rfl, rfl, ip3⟩
              · refine zg_blk pok2 X 1 [] (S' := (50, [(0, zR (e 0)), (1, zR (a 2)), (2, zR (c 0)), (3, zI w9)], [zI 0, zI (-1), zI w9, zR (e 0)], ((tW a F8b B K S V) ++ (cW c G CN NM MK TP PP CO KN) ++ (eW e E E1 E2 E3 E4)))) rfl trivial ?_
                refine zg_callV pok2 EWX_ok X 14 (vas := [zI w9, zI (-1), zI 0]) (vr := []) (Y1 := ((tW a F8b B K S V) ++ (cW c G CN NM MK TP PP CO KN) ++ (eW e E E1 E2 E3 E4))) (Y2 := []) rfl rfl (Or.inl rfl) zj_X8_add rfl rfl rfl rfl (Nat.le_of_ble_eq_true rfl) rfl (zm_add (F := F8b) (E := E) (by first | exact hE4 | (show 0 ≤ E 4 ∧ E 4 ≤ 40; omega))) ⟨by decide, by decide, by decide, by decide⟩ (fun z9 Y9 hz => ?_)
                obtain ⟨rfl, E8c, Ac, Pc, Qc, rfl, h5_E8c, h4a_E8c, h4b_E8c⟩ := hz
                have E8c5 : E8c 5 = E 5 := h5_E8c
                refine zg_blk pok2 X 1 [] (S' := (54, [(0, zR (e 0)), (1, zR (a 2)), (2, zR (c 0)), (3, zI w9)], [zR (a 2)], ((tW a F8b B K S V) ++ (cW c G CN NM MK TP PP CO KN) ++ (eW e E8c Ac Pc Qc E4)))) rfl trivial ?_
                refine zg_callV pok2 EWX_ok X 2 (vas := []) (vr := []) (Y1 := (tW a F8b B K S V)) (Y2 := ((cW c G CN NM MK TP PP CO KN) ++ (eW e E8c Ac Pc Qc E4))) rfl rfl (Or.inl rfl) zj_X10_step rfl rfl rfl rfl (Nat.le_of_ble_eq_true rfl) rfl (zm_stepX hfd) ⟨by decide, by decide, by decide, by decide⟩ (fun z9 Y9 hz => ?_)
                obtain ⟨rfl, rfl⟩ := hz
                refine zg_retv X hR rfl rfl (by decide) (by decide) ?_
                refine ⟨rfl, _, _, _, _, _, _, rfl, by show E8c 5 = E 5; omega, ⟨h4a_E8c, h4b_E8c⟩, ?_⟩
                unfold pLeaf
                rw [if_neg (by omega), if_neg (by omega), if_neg (by omega), if_pos (by omega), if_neg htd]
                exact Or.inr ⟨htd, hfd⟩
    · simp only [x_ncd] at g2
      refine zg_blk pok2 X 4 [] (S' := (16, [(0, zR (e 0)), (1, zR (a 2)), (2, zR (c 0)), (3, zI w9)], [zI 0, zI 0, zI w9, zR (e 0)], ((tW a (FA K S V F idx) B K S V) ++ (cW c G CN NM MK TP PP CO KN) ++ (eW e E E1 E2 E3 E4)))) rfl trivial ?_
      refine zg_callV pok2 EWX_ok X 14 (vas := [zI w9, zI 0, zI 0]) (vr := []) (Y1 := ((tW a (FA K S V F idx) B K S V) ++ (cW c G CN NM MK TP PP CO KN) ++ (eW e E E1 E2 E3 E4))) (Y2 := []) rfl rfl (Or.inl rfl) zj_X8_add rfl rfl rfl rfl (Nat.le_of_ble_eq_true rfl) rfl (zm_add (F := (FA K S V F idx)) (E := E) (by first | exact hE4 | (show 0 ≤ E 4 ∧ E 4 ≤ 40; omega))) ⟨by decide, by decide, by decide, by decide⟩ (fun z9 Y9 hz => ?_)
      obtain ⟨rfl, E8b, Ab, Pb, Qb, rfl, h5_E8b, h4a_E8b, h4b_E8b⟩ := hz
      have E8b5 : E8b 5 = E 5 := h5_E8b
      refine zg_retv X hR rfl rfl (by decide) (by decide) ?_
      refine ⟨rfl, _, _, _, _, _, _, rfl, by show E8b 5 = E 5; omega, ⟨h4a_E8b, h4b_E8b⟩, ?_⟩
      unfold pLeaf
      rw [if_pos (by omega)]
      exact Or.inl ⟨rfl, rfl, hi⟩
end CS9
