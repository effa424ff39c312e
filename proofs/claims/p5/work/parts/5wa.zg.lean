/-! the class's city: the whole text (written by wip/p4/g9.py) -/
theorem aRun_succ {K V CN NM MK KN : Nat → Int} {x f : Int} {t idx n : Nat} : aRun K V (t + 1) (f, idx, CN, NM, MK, KN, x) n = if K idx = 0 then ((0, idx, CN, NM, MK, KN, x), n) else (if (aLine K V CN NM MK KN x idx).1 = 0 then (if K (aLine K V CN NM MK KN x idx).2.1 = 59 then aRun K V t (0, (aLine K V CN NM MK KN x idx).2.1 + 1, (aLine K V CN NM MK KN x idx).2.2.1, (aLine K V CN NM MK KN x idx).2.2.2.1, (aLine K V CN NM MK KN x idx).2.2.2.2.1, (aLine K V CN NM MK KN x idx).2.2.2.2.2.1, (aLine K V CN NM MK KN x idx).2.2.2.2.2.2) (n + 1) else (bad 1 (aLine K V CN NM MK KN x idx).2.1, n)) else (aLine K V CN NM MK KN x idx, n)) := rfl
theorem inv_lineR {F K S V CN NM MK KN : Nat → Int} {x : Int} {idx : Nat} (hT : TT F K S V) (hi : (idx : Int) < F 1) (hI : INV CN NM x) {R : AR} (hR : aLine K V CN NM MK KN x idx = R) (h : R.1 = 0) : INV R.2.2.1 R.2.2.2.1 R.2.2.2.2.2.2 ∧ idx + 1 ≤ R.2.1 ∧ (R.2.1 : Int) < F 1 := by
  obtain ⟨f, i2, CN2, NM2, MK2, KN2, x2⟩ := R
  simp only at h ⊢
  subst h
  exact inv_line hT hi hI hR
/-- what reading the whole text gives -/
def rM (S : Nat → Int) (A : AR × Nat) (z : Option ZV) (F9 : Nat → Int) : Prop := (A.1.1 = 0 ∧ z = some (zI (A.2 : Int)) ∧ F9 6 = 0) ∨ (¬ A.1.1 = 0 ∧ (∃ v, z = some (zI v)) ∧ fd F9 A.1.1 (S A.1.2.1))
section ZG9
variable {xs : Nat → Int32} {D : va_G} {cy : Nat → ClassId} {l : Launch} {ex : Nat → Nat} {a c : Nat → Nat} {F B K S V G CN NM MK TP PP CO KN F1 : Nat → Int} {idx : Nat} {kd pl x : Int}
set_option maxRecDepth 4000 in
theorem zj_X1_read : PR2[216]? = some mt2_X1_read := rfl
set_option maxRecDepth 4000 in
theorem zm_read (hT : TT F K S V) (h01 : 0 < F 1) (hI : INV CN NM x) (hG : G 1 = 16 * x) : ZMet (EWX xs) D cy l ex mt2_X1_read (5, 0, 0, 114) (tW a (FA K S V F 0) B K S V ++ cW c G CN NM MK TP PP CO KN) [zR (c 0), zR (a 2)] (fun z Y => ∃ F9 G9 CN9 NM9 MK9 TP9 PP9 CO9 KN9 : Nat → Int, rM S (aRun K V 1000 (0, 0, CN, NM, MK, KN, x) 0) z F9 ∧ ((aRun K V 1000 (0, 0, CN, NM, MK, KN, x) 0).1.1 = 0 → CN9 = (aRun K V 1000 (0, 0, CN, NM, MK, KN, x) 0).1.2.2.1 ∧ NM9 = (aRun K V 1000 (0, 0, CN, NM, MK, KN, x) 0).1.2.2.2.1 ∧ INV (aRun K V 1000 (0, 0, CN, NM, MK, KN, x) 0).1.2.2.1 (aRun K V 1000 (0, 0, CN, NM, MK, KN, x) 0).1.2.2.2.1 (aRun K V 1000 (0, 0, CN, NM, MK, KN, x) 0).1.2.2.2.2.2.2) ∧ Y = tW a F9 B K S V ++ cW c G9 CN9 NM9 MK9 TP9 PP9 CO9 KN9) := by
  obtain ⟨mok, tok, ow⟩ := pok2.1 _ _ zj_X1_read
  refine met_ofz EWX_ok mok tok ow (Nat.le_of_ble_eq_true rfl) (fun r p0 e0 s0 m0 ar0 be0 me0 c0 A0 Q0 X hR => ?_)
  obtain ⟨AX9, hA0⟩ : ∃ AX9, aRun K V 1000 (0, 0, CN, NM, MK, KN, x) 0 = AX9 := ⟨_, rfl⟩
  rw [hA0] at hR
  have fin9 : ∀ (F7 G7 CN7 NM7 MK7 TP7 PP7 CO7 KN7 : Nat → Int) (m9 : Int), -1 ≤ m9 ∧ m9 < 2000 → rM S AX9 (some (zI m9)) F7 ∧ F7 3 = 0 ∧ ¬ AX9.1.1 = 0 → ZG D cy r mt2_X1_read p0 l e0 (rmR (5, 0, 0, 114)) s0 m0 ar0 be0 me0 c0 A0 Q0 0 0 (4, [(0, zR (c 0)), (1, zR (a 2)), (2, zI m9), (3, zI m9)], [], tW a F7 B K S V ++ cW c G7 CN7 NM7 MK7 TP7 PP7 CO7 KN7) := by
    intro F7 G7 CN7 NM7 MK7 TP7 PP7 CO7 KN7 m9 hm9 ⟨hrm, h30, hne9⟩
    refine zg_blk pok2 X 2 [] (S' := (8, [(0, zR (c 0)), (1, zR (a 2)), (2, zI m9), (3, zI m9)], [zI 940, zI m9], ((tW a F7 B K S V) ++ (cW c G7 CN7 NM7 MK7 TP7 PP7 CO7 KN7)))) rfl trivial ?_
    refine zg_icmp X 38 rfl rfl (by unfold zin; omega) (by unfold zin; omega) (fun g1 => ?_) (fun g1 => ?_)
    · simp only [x_cnd] at g1
      refine zg_blk pok2 X 1 [] (S' := (39, [(0, zR (c 0)), (1, zR (a 2)), (2, zI m9), (3, zI m9)], [zI m9], ((tW a F7 B K S V) ++ (cW c G7 CN7 NM7 MK7 TP7 PP7 CO7 KN7)))) rfl trivial ?_
      refine zg_reti X hR rfl rfl (by decide) (by decide) ?_
      exact ⟨_, _, _, _, _, _, _, _, _, hrm, fun h9 => absurd h9 hne9, rfl⟩
    · simp only [x_ncd] at g1
      refine zg_blk pok2 X 2 [2] (S' := (15, [(0, zR (c 0)), (1, zR (a 2)), (2, zI m9), (3, zI m9)], [zI (F7 3)], ((tW a F7 B K S V) ++ (cW c G7 CN7 NM7 MK7 TP7 PP7 CO7 KN7)))) rfl ⟨rfl, trivial⟩ ?_
      refine zg_if X 38 rfl rfl (by unfold zin; omega) (fun g2 => ?_) (fun g2 => ?_)
      · simp only [x_cnd] at g2
        refine zg_blk pok2 X 1 [] (S' := (39, [(0, zR (c 0)), (1, zR (a 2)), (2, zI m9), (3, zI m9)], [zI m9], ((tW a F7 B K S V) ++ (cW c G7 CN7 NM7 MK7 TP7 PP7 CO7 KN7)))) rfl trivial ?_
        refine zg_reti X hR rfl rfl (by decide) (by decide) ?_
        exact ⟨_, _, _, _, _, _, _, _, _, hrm, fun h9 => absurd h9 hne9, rfl⟩
      · simp only [x_ncd] at g2
        exfalso
        omega
  have loop : ∀ (t n idx : Nat) (G CN NM MK TP PP CO KN : Nat → Int) (x : Int), (idx : Int) < F 1 → 2 * (n : Int) ≤ (idx : Int) → 941 - (idx : Int) < (t : Int) → INV CN NM x → G 1 = 16 * x → AX9 = aRun K V t (0, idx, CN, NM, MK, KN, x) n → ZG D cy r mt2_X1_read p0 l e0 (rmR (5, 0, 0, 114)) s0 m0 ar0 be0 me0 c0 A0 Q0 0 0 (4, [(0, zR (c 0)), (1, zR (a 2)), (2, zI (n : Int)), (3, zI (n : Int))], [], (tW a (FA K S V F idx) B K S V ++ cW c G CN NM MK TP PP CO KN)) := by
    intro t
    induction t with
    | zero =>
      intro n idx G CN NM MK TP PP CO KN x hi
      have h9 := hT.2.2.1
      omega
    | succ t ih =>
      intro n idx G CN NM MK TP PP CO KN x hi hn ht hI hG hrun
      have hF1b := hT.2.2.1
      refine zg_blk pok2 X 2 [] (S' := (8, [(0, zR (c 0)), (1, zR (a 2)), (2, zI (n : Int)), (3, zI (n : Int))], [zI 940, zI (n : Int)], ((tW a (FA K S V F idx) B K S V) ++ (cW c G CN NM MK TP PP CO KN)))) rfl trivial ?_
      refine zg_icmp X 38 rfl rfl (by have h9 := (hT.2.2.2.2 idx hi); unfold zin; omega) (by have h9 := (hT.2.2.2.2 idx hi); unfold zin; omega) (fun g1 => ?_) (fun g1 => ?_)
      · simp only [x_cnd] at g1
        exfalso
        omega
      · simp only [x_ncd] at g1
        refine zg_blk pok2 X 2 [2] (S' := (15, [(0, zR (c 0)), (1, zR (a 2)), (2, zI (n : Int)), (3, zI (n : Int))], [zI (K idx)], ((tW a (FA K S V F idx) B K S V) ++ (cW c G CN NM MK TP PP CO KN)))) rfl ⟨rfl, trivial⟩ ?_
        refine zg_if X 38 rfl rfl (by have h9 := (hT.2.2.2.2 idx hi); unfold zin; omega) (fun g2 => ?_) (fun g2 => ?_)
        · simp only [x_cnd] at g2
          refine zg_blk pok2 X 1 [] (S' := (39, [(0, zR (c 0)), (1, zR (a 2)), (2, zI (n : Int)), (3, zI (n : Int))], [zI (n : Int)], ((tW a (FA K S V F idx) B K S V) ++ (cW c G CN NM MK TP PP CO KN)))) rfl trivial ?_
          refine zg_reti X hR rfl rfl (by decide) (by decide) ?_
          rw [aRun_succ, if_pos g2] at hrun
          refine ⟨_, _, _, _, _, _, _, _, _, ?_, fun _ => by rw [hrun]; exact ⟨rfl, rfl, hI⟩, rfl⟩
          rw [hrun]
          exact Or.inl ⟨rfl, rfl, hT.1⟩
        · simp only [x_ncd] at g2
          refine zg_blk pok2 X 2 [] (S' := (20, [(0, zR (c 0)), (1, zR (a 2)), (2, zI (n : Int)), (3, zI (n : Int))], [zR (a 2), zR (c 0)], ((tW a (FA K S V F idx) B K S V) ++ (cW c G CN NM MK TP PP CO KN)))) rfl trivial ?_
          refine zg_callV pok2 EWX_ok X 6 (vas := [zR (a 2)]) (vr := []) (Y1 := ((tW a (FA K S V F idx) B K S V) ++ (cW c G CN NM MK TP PP CO KN))) (Y2 := []) rfl rfl (Or.inl rfl) zj_X1_readLine rfl rfl rfl rfl (Nat.le_of_ble_eq_true rfl) rfl (zm_readLine hT hi hI hG) ⟨by decide, by decide, by decide, by decide⟩ (fun z9 Y9 hz => ?_)
          obtain ⟨rfl, F9, G9, CN9, NM9, MK9, TP9, PP9, CO9, KN9, hcm, rfl⟩ := hz
          obtain ⟨R, hR9⟩ : ∃ R, aLine K V CN NM MK KN x idx = R := ⟨_, rfl⟩
          rw [hR9] at hcm
          rw [aRun_succ, if_neg (by omega), hR9] at hrun
          rcases hcm with ⟨e1, e2, e3, e4, e5, e6, hG9⟩ | ⟨hne, hfd⟩
          · subst e2
            subst e3
            subst e4
            subst e5
            subst e6
            have hv9 := inv_lineR hT hi hI hR9 e1
            rw [if_pos e1] at hrun
            refine zg_blk pok2 X 2 [] (S' := (26, [(0, zR (c 0)), (1, zR (a 2)), (2, zI (n : Int)), (3, zI (n : Int))], [zI 59, zR (a 2)], ((tW a (FA K S V F R.2.1) B K S V) ++ (cW c G9 R.2.2.1 R.2.2.2.1 R.2.2.2.2.1 TP9 PP9 CO9 R.2.2.2.2.2.1)))) rfl trivial ?_
            refine zg_callV pok2 EWX_ok X 2 (vas := [zI 59]) (vr := []) (Y1 := (tW a (FA K S V F R.2.1) B K S V)) (Y2 := (cW c G9 R.2.2.1 R.2.2.2.1 R.2.2.2.2.1 TP9 PP9 CO9 R.2.2.2.2.2.1)) rfl rfl (Or.inl rfl) zj_X10_takeSign rfl rfl rfl rfl (Nat.le_of_ble_eq_true rfl) rfl (zm_takeSignA (z1 := 59) (idx := R.2.1) (by omega) hT hv9.2.2) ⟨by decide, by decide, by decide, by decide⟩ (fun z9 Y9 hz => ?_)
            rcases hz with ⟨rfl, ⟨hk9, rfl⟩ | ⟨hk9, F8, hfd, rfl⟩⟩
            · rw [if_pos hk9] at hrun
              refine zg_blk pok2 X 3 [] (S' := (4, [(3, zI ((n : Int) + 1)), (2, zI ((n : Int) + 1)), (0, zR (c 0)), (1, zR (a 2))], [], ((tW a (FA K S V F (R.2.1 + 1)) B K S V) ++ (cW c G9 R.2.2.1 R.2.2.2.1 R.2.2.2.2.1 TP9 PP9 CO9 R.2.2.2.2.2.1)))) rfl trivial ?_
              have hi2 : ((R.2.1 + 1 : Nat) : Int) < F 1 := by
                have h9 := hT.2.2.2.1 _ hv9.2.2 (by omega) (by omega)
                omega
              have ih9 := ih (n + 1) (R.2.1 + 1) G9 _ _ _ TP9 PP9 CO9 _ _ hi2 (by omega) (by omega) hv9.1 hG9 hrun
              rw [show (((n + 1 : Nat)) : Int) = (n : Int) + 1 by omega] at ih9
              refine zg_lv _ ?_ ih9
              intro q hq
              simp only [List.mem_cons, List.not_mem_nil, or_false] at hq ⊢
              rcases hq with rfl | rfl | rfl | rfl <;> simp
            · rw [if_neg hk9] at hrun
              refine zg_blk pok2 X 3 [] (S' := (4, [(3, zI ((n : Int) + 1)), (2, zI ((n : Int) + 1)), (0, zR (c 0)), (1, zR (a 2))], [], ((tW a F8 B K S V) ++ (cW c G9 R.2.2.1 R.2.2.2.1 R.2.2.2.2.1 TP9 PP9 CO9 R.2.2.2.2.2.1)))) rfl trivial ?_
              have hfin := fin9 F8 G9 R.2.2.1 R.2.2.2.1 R.2.2.2.2.1 TP9 PP9 CO9 R.2.2.2.2.2.1 ((n : Int) + 1) (by omega) (by
                  rw [hrun]
                  exact ⟨Or.inr ⟨bad_ne (by decide), ⟨_, rfl⟩, hfd⟩, hfd.2.2.2.1, bad_ne (by decide)⟩)
              refine zg_lv _ ?_ hfin
              intro q hq
              simp only [List.mem_cons, List.not_mem_nil, or_false] at hq ⊢
              rcases hq with rfl | rfl | rfl | rfl <;> simp
          · rw [if_neg hne] at hrun
            refine zg_blk pok2 X 2 [] (S' := (26, [(0, zR (c 0)), (1, zR (a 2)), (2, zI (n : Int)), (3, zI (n : Int))], [zI 59, zR (a 2)], ((tW a F9 B K S V) ++ (cW c G9 CN9 NM9 MK9 TP9 PP9 CO9 KN9)))) rfl trivial ?_
            refine zg_callV pok2 EWX_ok X 2 (vas := [zI 59]) (vr := []) (Y1 := (tW a F9 B K S V)) (Y2 := (cW c G9 CN9 NM9 MK9 TP9 PP9 CO9 KN9)) rfl rfl (Or.inl rfl) zj_X10_takeSign rfl rfl rfl rfl (Nat.le_of_ble_eq_true rfl) rfl (zm_takeSignX (z1 := 59) hfd (by omega)) ⟨by decide, by decide, by decide, by decide⟩ (fun z9 Y9 hz => ?_)
            obtain ⟨rfl, F8, hfd, rfl⟩ := hz
            refine zg_blk pok2 X 3 [] (S' := (4, [(3, zI ((n : Int) + 1)), (2, zI ((n : Int) + 1)), (0, zR (c 0)), (1, zR (a 2))], [], ((tW a F8 B K S V) ++ (cW c G9 CN9 NM9 MK9 TP9 PP9 CO9 KN9)))) rfl trivial ?_
            have hfin := fin9 F8 G9 CN9 NM9 MK9 TP9 PP9 CO9 KN9 ((n : Int) + 1) (by omega) (by
                rw [hrun]
                exact ⟨Or.inr ⟨hne, ⟨_, rfl⟩, hfd⟩, hfd.2.2.2.1, hne⟩)
            refine zg_lv _ ?_ hfin
            intro q hq
            simp only [List.mem_cons, List.not_mem_nil, or_false] at hq ⊢
            rcases hq with rfl | rfl | rfl | rfl <;> simp
  refine zg_blk pok2 X 4 [] (S' := (4, [(3, zI 0), (2, zI 0), (0, zR (c 0)), (1, zR (a 2))], [], ((tW a (FA K S V F 0) B K S V) ++ (cW c G CN NM MK TP PP CO KN)))) rfl trivial ?_
  have l9 := loop 1000 0 0 G CN NM MK TP PP CO KN x (by omega) (by omega) (by omega) hI hG hA0.symm
  refine zg_lv _ ?_ l9
  intro q hq
  simp only [List.mem_cons, List.not_mem_nil, or_false] at hq ⊢
  rcases hq with rfl | rfl | rfl | rfl <;> simp
end ZG9
