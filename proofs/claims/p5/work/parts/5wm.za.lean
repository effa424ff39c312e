/-! the class: a whole city (written by wip/p4/g16.py) -/
def oW (a b : Nat → Nat) (U : Nat → Int) (jd sc : ZV) (A1 A2 A3 A4 A5 A6 : Nat → Int) : ZW := [(b 0, .inl (10, [zR (a 0), zR (a 2), zR (b 1), zR (b 23), zR (b 8), zR (b 25), zR (b 26), zR (b 27), zR (b 28), zR (b 29), zR (b 30), zR (b 31), zI (U 12), jd, zI (U 14), zI (U 15), zI (U 16), zI (U 17)])), (b 1, .inl (6, [sc, zR (b 2), zR (b 3), zR (b 4), zR (b 5), zR (b 6), zR (b 7), zI (U 27), zI (U 28), zI (U 29)])), (b 2, .inr (.inl (0, 8, A1))), (b 3, .inr (.inl (0, 8, A2))), (b 4, .inr (.inl (0, 8, A3))), (b 5, .inr (.inl (0, 6, A4))), (b 6, .inr (.inl (0, 6, A5))), (b 7, .inr (.inl (0, 6, A6))), (b 8, .inl (4, [zR (b 9), zI (U 31), zI (U 32)]))]
section ZA8
variable {xs : Nat → Int32} {D : va_G} {cy : Nat → ClassId} {l : Launch} {ex : Nat → Nat} {a b c : Nat → Nat} {F B K S V G CN NM MK TP PP CO KN U A1 A2 A3 A4 A5 A6 : Nat → Int} {jd sc : ZV}
set_option maxRecDepth 4000 in
theorem zj_X7_begin : PR2[256]? = some mt2_X7_begin := rfl
set_option maxRecDepth 4000 in
theorem zm_begin  : ZMet (EWX xs) D cy l ex mt2_X7_begin (1, 0, 0, 80) (tW a F B K S V ++ cW c G CN NM MK TP PP CO KN ++ oW a b U jd sc A1 A2 A3 A4 A5 A6) [zR (b 1), zR (c 0)] (fun z Y => z = none ∧ ∃ (U9 : Nat → Int) (B1 B2 B3 B4 B5 B6 : Nat → Int), Y = (tW a F B K S V ++ cW c G CN NM MK TP PP CO KN ++ oW a b U9 jd (zR (c 0)) B1 B2 B3 B4 B5 B6) ∧ U9 14 = U 14) := by
  obtain ⟨mok, tok, ow⟩ := pok2.1 _ _ zj_X7_begin
  refine met_ofz EWX_ok mok tok ow (Nat.le_of_ble_eq_true rfl) (fun r p0 e0 s0 m0 ar0 be0 me0 c0 A0 Q0 X hR => ?_)
  have loop : ∀ (t i : Nat) (A1 A2 A3 A4 A5 A6 : Nat → Int), i ≤ 8 → 8 - i < t → ZG D cy r mt2_X7_begin p0 l e0 (rmR (1, 0, 0, 80)) s0 m0 ar0 be0 me0 c0 A0 Q0 0 0 (67, [(0, zR (b 1)), (1, zR (c 0)), (2, zI (i : Int))], [], ((tW a F B K S V) ++ (cW c G CN NM MK TP PP CO KN) ++ (oW a b U jd (zR (c 0)) A1 A2 A3 A4 A5 A6))) := by
    intro t
    induction t with
    | zero => intro i A1 A2 A3 A4 A5 A6 h1 h2; omega
    | succ t ih =>
      intro i A1 A2 A3 A4 A5 A6 h1 h2
      refine zg_blk pok2 X 2 [] (S' := (70, [(0, zR (b 1)), (1, zR (c 0)), (2, zI (i : Int))], [zI 8, zI (i : Int)], ((tW a F B K S V) ++ (cW c G CN NM MK TP PP CO KN) ++ (oW a b U jd (zR (c 0)) A1 A2 A3 A4 A5 A6)))) rfl trivial ?_
      refine zg_icmp X 93 rfl rfl (by unfold zin; omega) (by unfold zin; omega) (fun g1 => ?_) (fun g1 => ?_)
      · simp only [x_cnd] at g1
        refine zg_blk pok2 X 9 [15, 15, 15] (S' := (108, [(0, zR (b 1)), (1, zR (c 0)), (2, zI (i : Int))], [], ((tW a F B K S V) ++ (cW c G CN NM MK TP PP CO KN) ++ (oW a b (zup (zup (zup U 27 0) 28 0) 29 0) jd (zR (c 0)) A1 A2 A3 A4 A5 A6)))) rfl ⟨rfl, rfl, rfl, rfl, rfl, rfl, rfl, rfl, rfl, trivial⟩ ?_
        refine zg_retv X hR rfl rfl (by decide) (by decide) ?_
        exact ⟨rfl, _, _, _, _, _, _, _, rfl, rfl⟩
      · simp only [x_ncd] at g1
        refine zg_blk pok2 X 12 [15, 17, 15, 18] (S' := (67, [(2, zI ((i : Int) + 1)), (0, zR (b 1)), (1, zR (c 0))], [], ((tW a F B K S V) ++ (cW c G CN NM MK TP PP CO KN) ++ (oW a b U jd (zR (c 0)) A1 (zup A2 ((i : Int).toNat) (-1)) (zup A3 ((i : Int).toNat) 0) A4 A5 A6)))) rfl ⟨rfl, rfl, rfl, (show zidx (i : Int) 8 from by unfold zidx; omega), rfl, rfl, rfl, (show zidx (i : Int) 8 from by unfold zidx; omega), trivial⟩ ?_
        have ih9 := ih (i + 1) A1 (zup A2 ((i : Int).toNat) (-1)) (zup A3 ((i : Int).toNat) 0) A4 A5 A6 (by omega) (by omega)
        rw [show (((i + 1 : Nat)) : Int) = (i : Int) + 1 by omega] at ih9
        refine zg_lv _ ?_ ih9
        intro q hq
        simp only [List.mem_cons, List.not_mem_nil, or_false] at hq ⊢
        rcases hq with rfl | rfl | rfl <;> simp
  refine zg_blk pok2 X 10 [15, 6, 15] (S' := (17, [(0, zR (b 1)), (1, zR (c 0))], [zI 8, zI 0, zR (b 2), zI 0, zR (c 4)], ((tW a F B K S V) ++ (cW c G CN NM MK TP PP CO KN) ++ (oW a b U jd (zR (c 0)) A1 A2 A3 A4 A5 A6)))) rfl ⟨rfl, rfl, rfl, rfl, rfl, trivial⟩ ?_
  refine zg_copy pok2 X 10 16 rfl rfl rfl rfl (by decide) (by decide) (by decide) (fun hc1 => ?_)
  refine zg_cv (S2 := (20, [(0, zR (b 1)), (1, zR (c 0))], [], ((tW a F B K S V) ++ (cW c G CN NM MK TP PP CO KN) ++ (oW a b U jd (zR (c 0)) hc1 A2 A3 A4 A5 A6)))) rfl ?_
  refine zg_blk pok2 X 7 [6, 15] (S' := (32, [(0, zR (b 1)), (1, zR (c 0))], [zI 6, zI 0, zR (b 5), zI 0, zR (c 5)], ((tW a F B K S V) ++ (cW c G CN NM MK TP PP CO KN) ++ (oW a b U jd (zR (c 0)) hc1 A2 A3 A4 A5 A6)))) rfl ⟨rfl, rfl, trivial⟩ ?_
  refine zg_copy pok2 X 11 19 rfl rfl rfl rfl (by decide) (by decide) (by decide) (fun hc2 => ?_)
  refine zg_cv (S2 := (35, [(0, zR (b 1)), (1, zR (c 0))], [], ((tW a F B K S V) ++ (cW c G CN NM MK TP PP CO KN) ++ (oW a b U jd (zR (c 0)) hc1 A2 A3 hc2 A5 A6)))) rfl ?_
  refine zg_blk pok2 X 7 [6, 15] (S' := (47, [(0, zR (b 1)), (1, zR (c 0))], [zI 6, zI 0, zR (b 6), zI 0, zR (c 6)], ((tW a F B K S V) ++ (cW c G CN NM MK TP PP CO KN) ++ (oW a b U jd (zR (c 0)) hc1 A2 A3 hc2 A5 A6)))) rfl ⟨rfl, rfl, trivial⟩ ?_
  refine zg_copy pok2 X 12 20 rfl rfl rfl rfl (by decide) (by decide) (by decide) (fun hc3 => ?_)
  refine zg_cv (S2 := (50, [(0, zR (b 1)), (1, zR (c 0))], [], ((tW a F B K S V) ++ (cW c G CN NM MK TP PP CO KN) ++ (oW a b U jd (zR (c 0)) hc1 A2 A3 hc2 hc3 A6)))) rfl ?_
  refine zg_blk pok2 X 7 [6, 15] (S' := (62, [(0, zR (b 1)), (1, zR (c 0))], [zI 6, zI 0, zR (b 7), zI 0, zR (c 7)], ((tW a F B K S V) ++ (cW c G CN NM MK TP PP CO KN) ++ (oW a b U jd (zR (c 0)) hc1 A2 A3 hc2 hc3 A6)))) rfl ⟨rfl, rfl, trivial⟩ ?_
  refine zg_copy pok2 X 13 21 rfl rfl rfl rfl (by decide) (by decide) (by decide) (fun hc4 => ?_)
  refine zg_cv (S2 := (65, [(0, zR (b 1)), (1, zR (c 0))], [], ((tW a F B K S V) ++ (cW c G CN NM MK TP PP CO KN) ++ (oW a b U jd (zR (c 0)) hc1 A2 A3 hc2 hc3 hc4)))) rfl ?_
  refine zg_blk pok2 X 2 [] (S' := (67, [(2, zI 0), (0, zR (b 1)), (1, zR (c 0))], [], ((tW a F B K S V) ++ (cW c G CN NM MK TP PP CO KN) ++ (oW a b U jd (zR (c 0)) hc1 A2 A3 hc2 hc3 hc4)))) rfl trivial ?_
  refine zg_lv _ ?_ (loop 1000 0 hc1 A2 A3 hc2 hc3 hc4 (by omega) (by omega))
  intro q hq
  simp only [List.mem_cons, List.not_mem_nil, or_false] at hq ⊢
  rcases hq with rfl | rfl | rfl <;> simp
set_option maxRecDepth 4000 in
theorem zj_X4_clear : PR2[232]? = some mt2_X4_clear := rfl
set_option maxRecDepth 4000 in
theorem zm_clear  : ZMet (EWX xs) D cy l ex mt2_X4_clear (0, 0, 0, 0) (tW a F B K S V ++ cW c G CN NM MK TP PP CO KN ++ oW a b U jd sc A1 A2 A3 A4 A5 A6) [zR (b 8)] (fun z Y => z = none ∧ ∃ U9, Y = (tW a F B K S V ++ cW c G CN NM MK TP PP CO KN ++ oW a b U9 jd sc A1 A2 A3 A4 A5 A6) ∧ U9 32 = 0 ∧ U9 14 = U 14) := by
  obtain ⟨mok, tok, ow⟩ := pok2.1 _ _ zj_X4_clear
  refine met_ofz EWX_ok mok tok ow (Nat.le_of_ble_eq_true rfl) (fun r p0 e0 s0 m0 ar0 be0 me0 c0 A0 Q0 X hR => ?_)
  refine zg_blk pok2 X 3 [22] (S' := (5, [(0, zR (b 8))], [], ((tW a F B K S V) ++ (cW c G CN NM MK TP PP CO KN) ++ (oW a b (zup U 32 0) jd sc A1 A2 A3 A4 A5 A6)))) rfl ⟨rfl, rfl, rfl, trivial⟩ ?_
  refine zg_retv X hR rfl rfl (by decide) (by decide) ?_
  exact ⟨rfl, _, rfl, rfl, rfl⟩
set_option maxRecDepth 4000 in
theorem zj_X11_closeText : PR2[40]? = some mt2_X11_closeText := rfl
set_option maxRecDepth 4000 in
theorem zm_closeText  : ZMet (EWX xs) D cy l ex mt2_X11_closeText (0, 0, 0, 0) (tW a F B K S V ++ cW c G CN NM MK TP PP CO KN ++ oW a b U jd sc A1 A2 A3 A4 A5 A6) [zR (b 0)] (fun z Y => z = none ∧ ∃ U9, Y = (tW a (zup F 0 0) B K S V ++ cW c G CN NM MK TP PP CO KN ++ oW a b U9 jd sc A1 A2 A3 A4 A5 A6) ∧ (∀ q : Nat, 18 ≤ q → U9 q = U q) ∧ U9 14 = F 6) := by
  obtain ⟨mok, tok, ow⟩ := pok2.1 _ _ zj_X11_closeText
  refine met_ofz EWX_ok mok tok ow (Nat.le_of_ble_eq_true rfl) (fun r p0 e0 s0 m0 ar0 be0 me0 c0 A0 Q0 X hR => ?_)
  refine zg_blk pok2 X 9 [14, 2, 14, 14, 0] (S' := (19, [(0, zR (b 0))], [], ((tW a (zup F 0 0) B K S V) ++ (cW c G CN NM MK TP PP CO KN) ++ (oW a b (zup U 14 (F 6)) jd sc A1 A2 A3 A4 A5 A6)))) rfl ⟨rfl, rfl, rfl, rfl, rfl, rfl, rfl, rfl, rfl, trivial⟩ ?_
  refine zg_retv X hR rfl rfl (by decide) (by decide) ?_
  exact ⟨rfl, _, rfl, fun q hq => zup_ne (by omega), rfl⟩
set_option maxRecDepth 4000 in
theorem zj_X11_city : PR2[39]? = some mt2_X11_city := rfl
theorem FA_first {K S V F : Nat → Int} (h6 : F 6 = 0) (h2 : F 2 = -1) (h1 : 0 < F 1) : stepF K S V F = FA K S V F 0 := by
  unfold stepF
  rw [if_pos ⟨h6, by omega⟩, h2]
  rfl
set_option maxRecDepth 4000 in
theorem zm_city (hB : ∀ k, -128 ≤ B k ∧ B k ≤ 127) (hn : 0 ≤ F 0 ∧ F 0 ≤ 940) : ZMet (EWX xs) D cy l ex mt2_X11_city (11, 8, 91, 306) (tW a F B K S V ++ oW a b U jd sc A1 A2 A3 A4 A5 A6) [zR (b 0)] (fun z Y => ∃ (k : Nat) (P K9 S9 V9 F9 : Nat → Int) (c : Nat → Nat) (G9 CN9 NM9 MK9 TP9 PP9 CO9 KN9 U9 B1 B2 B3 B4 B5 B6 : Nat → Int) (jd9 sc9 : ZV), OpenT (tb B (F 0)) (F 0) 900 k P K9 S9 V9 ∧ z = some (zI (pAns K9 S9 V9)) ∧ U9 14 = (aRun K9 V9 1000 (0, 0, cn0, z0, z0, z0, 0) 0).1.1 ∧ Y = tW a F9 B K9 S9 V9 ++ cW c G9 CN9 NM9 MK9 TP9 PP9 CO9 KN9 ++ oW a b U9 jd9 sc9 B1 B2 B3 B4 B5 B6 ∧ (((aRun K9 V9 1000 (0, 0, cn0, z0, z0, z0, 0) 0).1.1 = 0 ∧ (CN9 = (aRun K9 V9 1000 (0, 0, cn0, z0, z0, z0, 0) 0).1.2.2.1 ∧ NM9 = (aRun K9 V9 1000 (0, 0, cn0, z0, z0, z0, 0) 0).1.2.2.2.1 ∧ INV (aRun K9 V9 1000 (0, 0, cn0, z0, z0, z0, 0) 0).1.2.2.1 (aRun K9 V9 1000 (0, 0, cn0, z0, z0, z0, 0) 0).1.2.2.2.1 (aRun K9 V9 1000 (0, 0, cn0, z0, z0, z0, 0) 0).1.2.2.2.2.2.2) ∧ sc9 = zR (c 0) ∧ U9 32 = 0) ∨ (¬ (aRun K9 V9 1000 (0, 0, cn0, z0, z0, z0, 0) 0).1.1 = 0 ∧ sc9 = sc ∧ ∀ q : Nat, 18 ≤ q → U9 q = U q))) := by
  obtain ⟨mok, tok, ow⟩ := pok2.1 _ _ zj_X11_city
  refine met_ofz EWX_ok mok tok ow (Nat.le_of_ble_eq_true rfl) (fun r p0 e0 s0 m0 ar0 be0 me0 c0 A0 Q0 X hR => ?_)
  have rest9 : ∀ c : Nat → Nat, ZG D cy r mt2_X11_city p0 l e0 (rmR (11, 8, 91, 306)) s0 m0 ar0 be0 me0 c0 A0 Q0 (0 + 1 + mNc (mk_M 0)) (0 + 9 + mNs (mk_M 0)) (7, [(0, zR (b 0))], [zR (c 0)], ((tW a F B K S V) ++ (cW c z0 cn0 z0 z0 z0 z0 z0 z0) ++ (oW a b U jd sc A1 A2 A3 A4 A5 A6))) := by
    intro c
    refine zg_blk pok2 X 4 [14] (S' := (15, [(1, zR (c 0)), (0, zR (b 0))], [zI 900, zR (a 2)], ((tW a F B K S V) ++ (cW c z0 cn0 z0 z0 z0 z0 z0 z0) ++ (oW a b U jd sc A1 A2 A3 A4 A5 A6)))) rfl ⟨rfl, trivial⟩ ?_
    refine zg_callV pok2 EWX_ok X 2 (vas := [zI 900]) (vr := []) (Y1 := (tW a F B K S V)) (Y2 := ((cW c z0 cn0 z0 z0 z0 z0 z0 z0) ++ (oW a b U jd sc A1 A2 A3 A4 A5 A6))) rfl rfl (Or.inl rfl) zj_X10_open rfl rfl rfl rfl (Nat.le_of_ble_eq_true rfl) rfl (zm_open (lim := 900) (by omega) hB hn) ⟨by decide, by decide, by decide, by decide⟩ (fun z9 Y9 hz => ?_)
    obtain ⟨rfl, k, P, K9, S9, V9, hO, rfl⟩ := hz
    obtain ⟨FZ, hFZ⟩ : ∃ FZ, zup (zup (zup (zup F 1 ((k : Int) + 1)) 2 (-1)) 6 0) 7 0 = FZ := ⟨_, rfl⟩
    have e6 : FZ 6 = 0 := by rw [← hFZ]; rfl
    have e1 : FZ 1 = (k : Int) + 1 := by rw [← hFZ]; rfl
    have e2 : FZ 2 = -1 := by rw [← hFZ]; rfl
    have e0 : FZ 0 = F 0 := by rw [← hFZ]; rfl
    rw [hFZ, FA_first e6 e2 (by omega)]
    have hTT : TT FZ K9 S9 V9 := TT_of hn (by omega) hO e6 e1
    refine zg_cv (S2 := (18, [(1, zR (c 0)), (0, zR (b 0))], [], ((tW a (FA K9 S9 V9 FZ 0) B K9 S9 V9) ++ (cW c z0 cn0 z0 z0 z0 z0 z0 z0) ++ (oW a b U jd sc A1 A2 A3 A4 A5 A6)))) (by rw [← List.append_assoc]; rfl) ?_
    refine zg_blk pok2 X 3 [14] (S' := (23, [(1, zR (c 0)), (0, zR (b 0))], [zR (a 2), zR (c 0)], ((tW a (FA K9 S9 V9 FZ 0) B K9 S9 V9) ++ (cW c z0 cn0 z0 z0 z0 z0 z0 z0) ++ (oW a b U jd sc A1 A2 A3 A4 A5 A6)))) rfl ⟨rfl, trivial⟩ ?_
    refine zg_callV pok2 EWX_ok X 6 (vas := [zR (a 2)]) (vr := []) (Y1 := ((tW a (FA K9 S9 V9 FZ 0) B K9 S9 V9) ++ (cW c z0 cn0 z0 z0 z0 z0 z0 z0))) (Y2 := (oW a b U jd sc A1 A2 A3 A4 A5 A6)) rfl rfl (Or.inl rfl) zj_X1_read rfl rfl rfl rfl (Nat.le_of_ble_eq_true rfl) rfl (zm_read (F := FZ) hTT (by omega) INV_0 rfl) ⟨by decide, by decide, by decide, by decide⟩ (fun z9 Y9 hz => ?_)
    obtain ⟨F9, G9, CN9, NM9, MK9, TP9, PP9, CO9, KN9, hrm, hcn9, rfl⟩ := hz
    obtain ⟨v9, hv9⟩ : ∃ v9, z9 = some (zI v9) := by
      rcases hrm with ⟨-, h, -⟩ | ⟨-, ⟨v, h⟩, -⟩
      · exact ⟨_, h⟩
      · exact ⟨v, h⟩
    subst hv9
    refine zg_blk pok2 X 2 [] (S' := (28, [(2, zI v9), (1, zR (c 0)), (0, zR (b 0))], [zR (b 0)], ((tW a F9 B K9 S9 V9) ++ (cW c G9 CN9 NM9 MK9 TP9 PP9 CO9 KN9) ++ (oW a b U jd sc A1 A2 A3 A4 A5 A6)))) rfl trivial ?_
    refine zg_callV pok2 EWX_ok X 14 (vas := []) (vr := []) (Y1 := ((tW a F9 B K9 S9 V9) ++ (cW c G9 CN9 NM9 MK9 TP9 PP9 CO9 KN9) ++ (oW a b U jd sc A1 A2 A3 A4 A5 A6))) (Y2 := []) rfl rfl (Or.inl rfl) zj_X11_closeText rfl rfl rfl rfl (Nat.le_of_ble_eq_true rfl) rfl (zm_closeText) ⟨by decide, by decide, by decide, by decide⟩ (fun z9 Y9 hz => ?_)
    obtain ⟨rfl, U9, rfl, hU9, h149⟩ := hz
    have z6 : zup F9 0 0 6 = F9 6 := rfl
    have z7 : zup F9 0 0 7 = F9 7 := rfl
    refine zg_blk pok2 X 3 [14, 2] (S' := (38, [(2, zI v9), (1, zR (c 0)), (0, zR (b 0))], [zI ((zup F9 0 0) 6)], ((tW a (zup F9 0 0) B K9 S9 V9) ++ (cW c G9 CN9 NM9 MK9 TP9 PP9 CO9 KN9) ++ (oW a b U9 jd sc A1 A2 A3 A4 A5 A6)))) rfl ⟨rfl, rfl, trivial⟩ ?_
    refine zg_if X 51 rfl rfl (by first | (unfold zin; omega) | (rcases hrm with ⟨-, -, q3⟩ | ⟨-, -, q3⟩; (unfold zin; omega); (have h9 := q3.1; have h8 := q3.2.2.2.2; unfold zin; omega))) (fun g1 => ?_) (fun g1 => ?_)
    · simp only [x_cnd] at g1
      refine zg_blk pok2 X 3 [14] (S' := (56, [(2, zI v9), (1, zR (c 0)), (0, zR (b 0))], [zR (c 0), zR (b 1)], ((tW a (zup F9 0 0) B K9 S9 V9) ++ (cW c G9 CN9 NM9 MK9 TP9 PP9 CO9 KN9) ++ (oW a b U9 jd sc A1 A2 A3 A4 A5 A6)))) rfl ⟨rfl, trivial⟩ ?_
      refine zg_callV pok2 EWX_ok X 15 (vas := [zR (c 0)]) (vr := []) (Y1 := ((tW a (zup F9 0 0) B K9 S9 V9) ++ (cW c G9 CN9 NM9 MK9 TP9 PP9 CO9 KN9) ++ (oW a b U9 jd sc A1 A2 A3 A4 A5 A6))) (Y2 := []) rfl rfl (Or.inl rfl) zj_X7_begin rfl rfl rfl rfl (Nat.le_of_ble_eq_true rfl) rfl (zm_begin) ⟨by decide, by decide, by decide, by decide⟩ (fun z9 Y9 hz => ?_)
      obtain ⟨rfl, U8, B1, B2, B3, B4, B5, B6, rfl, h148⟩ := hz
      refine zg_blk pok2 X 5 [14, 14] (S' := (68, [(2, zI v9), (1, zR (c 0)), (0, zR (b 0))], [zR (b 8)], ((tW a (zup F9 0 0) B K9 S9 V9) ++ (cW c G9 CN9 NM9 MK9 TP9 PP9 CO9 KN9) ++ (oW a b U8 zN (zR (c 0)) B1 B2 B3 B4 B5 B6)))) rfl ⟨rfl, rfl, rfl, rfl, trivial⟩ ?_
      refine zg_callV pok2 EWX_ok X 22 (vas := []) (vr := []) (Y1 := ((tW a (zup F9 0 0) B K9 S9 V9) ++ (cW c G9 CN9 NM9 MK9 TP9 PP9 CO9 KN9) ++ (oW a b U8 zN (zR (c 0)) B1 B2 B3 B4 B5 B6))) (Y2 := []) rfl rfl (Or.inl rfl) zj_X4_clear rfl rfl rfl rfl (Nat.le_of_ble_eq_true rfl) rfl (zm_clear) ⟨by decide, by decide, by decide, by decide⟩ (fun z9 Y9 hz => ?_)
      obtain ⟨rfl, U7, rfl, hU7, h147⟩ := hz
      refine zg_blk pok2 X 1 [] (S' := (72, [(2, zI v9), (1, zR (c 0)), (0, zR (b 0))], [zI v9], ((tW a (zup F9 0 0) B K9 S9 V9) ++ (cW c G9 CN9 NM9 MK9 TP9 PP9 CO9 KN9) ++ (oW a b U7 zN (zR (c 0)) B1 B2 B3 B4 B5 B6)))) rfl trivial ?_
      refine zg_reti X hR rfl rfl (by decide) (by decide) ?_
      rcases hrm with ⟨q1, q2, q3⟩ | ⟨q1, -, q3⟩
      · cases q2
        refine ⟨k, P, K9, S9, V9, _, c, _, _, _, _, _, _, _, _, _, _, _, _, _, _, _, _, _, hO, ?_, by rw [h147, h148, h149, q1]; exact q3, rfl, Or.inl ⟨q1, hcn9 q1, rfl, hU7⟩⟩
        unfold pAns
        rw [if_pos q1]
      · exfalso
        have h9 := q3.1
        have h8 := q3.2.1
        omega
    · simp only [x_ncd] at g1
      refine zg_blk pok2 X 5 [14, 2] (S' := (50, [(2, zI v9), (1, zR (c 0)), (0, zR (b 0))], [zI ((-1) - ((zup F9 0 0) 7))], ((tW a (zup F9 0 0) B K9 S9 V9) ++ (cW c G9 CN9 NM9 MK9 TP9 PP9 CO9 KN9) ++ (oW a b U9 jd sc A1 A2 A3 A4 A5 A6)))) rfl ⟨rfl, rfl, trivial⟩ ?_
      refine zg_reti X hR rfl rfl (by decide) (by decide) ?_
      rcases hrm with ⟨q1, q2, q3⟩ | ⟨q1, -, q3⟩
      · exfalso
        omega
      · refine ⟨k, P, K9, S9, V9, _, c, _, _, _, _, _, _, _, _, _, _, _, _, _, _, _, _, _, hO, ?_, by rw [h149]; exact q3.1, rfl, Or.inr ⟨q1, rfl, hU9⟩⟩
        unfold pAns
        rw [if_neg q1, ← q3.2.2.1]
        rfl
  refine zg_newCity X (by decide) (by decide) (by decide) (by decide) (fun cc => ?_)
  refine zg_perm ?_ (rest9 cc)
  rw [List.append_assoc, List.append_assoc]
  exact List.Perm.append_left _ List.perm_append_comm
end ZA8
