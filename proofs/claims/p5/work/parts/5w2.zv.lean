/-! the class's text: runs, tokens, the whole text (written by wip/p4/g3.py) -/
theorem Sk_le {B : Nat → Int} {n i j : Int} (h : Sk (tb B n) i j) (h0 : 0 ≤ i) (hi : i ≤ n) : i ≤ j ∧ j ≤ n := by
  obtain ⟨h1, h2, h3⟩ := h
  refine ⟨h1, ?_⟩
  rcases (show n < j ∨ j ≤ n by omega) with h4 | h4
  · have h5 := h2 n hi h4
    unfold isB tb at h5
    rw [if_neg (by omega)] at h5
    omega
  · exact h4
theorem Rn_le {B : Nat → Int} {n i j : Int} (h : Rn (tb B n) i j) (h0 : 0 ≤ i) (hi : i ≤ n) : i ≤ j ∧ j ≤ n := by
  obtain ⟨h1, h2, h3⟩ := h
  refine ⟨h1, ?_⟩
  rcases (show n < j ∨ j ≤ n by omega) with h4 | h4
  · have h5 := h2 n hi h4
    unfold isLD isL isD tb at h5
    rw [if_neg (by omega)] at h5
    omega
  · exact h4
theorem Tk_le {B : Nat → Int} {n i j kd val : Int} (h : Tk (tb B n) i j kd val) (h0 : 0 ≤ i) (hi : i < n) : i < j ∧ j ≤ n ∧ 0 < kd ∧ kd < 63 := by
  rcases h with ⟨h1, m, rfl, h2, h3⟩ | ⟨h1, rfl, h2⟩
  · have h4 := Rn_le h2 h0 (by omega)
    have h5 : i < i + m := by
      rcases (show i < i + (m : Int) ∨ i + (m : Int) ≤ i by omega) with h6 | h6
      · exact h6
      · rw [show i + (m : Int) = i by omega] at h2
        exact absurd h1 h2.2.2
    refine ⟨h5, h4.2, ?_⟩
    rcases h3 with ⟨-, -, ⟨w, -, -, -, h7, -⟩ | ⟨-, h7, -⟩⟩ | ⟨-, -, -, h7, -⟩ | ⟨-, -, h7⟩ <;> omega
  · unfold isS at h2
    omega
section ZV9
variable {xs : Nat → Int32} {D : va_G} {cy : Nat → ClassId} {l : Launch} {ex : Nat → Nat} {a : Nat → Nat} {F B K S V : Nat → Int} {Y0 : ZW}
set_option maxRecDepth 4000 in
theorem zj_X10_readRun : PR2[25]? = some mt2_X10_readRun := rfl
theorem zm_readRun {i : Int} (hB : ∀ k, -128 ≤ B k ∧ B k ≤ 127) (hn : 0 ≤ F 0 ∧ F 0 ≤ 940) (hi : 0 ≤ i ∧ i ≤ F 0) (hF1 : 0 ≤ F 1 ∧ F 1 < 941) : ZMet (EWX xs) D cy l ex mt2_X10_readRun (8, 0, 0, 232) (tW a F B K S V) [zR (a 2), zI i] (fun z Y => ∃ (m : Nat) (kd : Int) (V9 : Nat → Int), z = some (zI (i + m)) ∧ Y = tW a F B (zup K (F 1).toNat kd) S V9 ∧ Rn (tb B (F 0)) i (i + m) ∧ RunT (tb B (F 0)) i m kd (V9 (F 1).toNat) ∧ ∀ k, ¬ k = (F 1).toNat → V9 k = V k) := by
  obtain ⟨mok, tok, ow⟩ := pok2.1 _ _ zj_X10_readRun
  refine met_ofz EWX_ok mok tok ow (Nat.le_of_ble_eq_true rfl) (fun r p0 e0 s0 m0 ar0 be0 me0 c0 A0 Q0 X hR => ?_)
  have fin9 : ∀ (m : Nat), i + (m : Int) ≤ F 0 → (∀ k, i ≤ k → k < i + (m : Int) → isLD (tb B (F 0) k)) → ¬ isLD (tb B (F 0) (i + (m : Int))) → ZG D cy r mt2_X10_readRun p0 l e0 (rmR (8, 0, 0, 232)) s0 m0 ar0 be0 me0 c0 A0 Q0 0 0 (107, [(0, zR (a 2)), (1, zI i), (2, zI (i + (m : Int))), (3, zI (rrL (tb B (F 0)) i m)), (4, zL (rrK (tb B (F 0)) i m)), (6, zI (rrN (tb B (F 0)) i m))], [], (tW a F B K S V)) := by
    intro m hm h4 hx
    have hrl := rrL_rng (tb B (F 0)) i m
    have hrn : rrL (tb B (F 0)) i m = 0 → (m : Int) ≤ 3 → 0 ≤ rrN (tb B (F 0)) i m ∧ rrN (tb B (F 0)) i m < 1000 := fun q1 q2 => by
      have h9 := rrN_rng (tb B (F 0)) i m h4 q1
      rcases (show m = 0 ∨ m = 1 ∨ m = 2 ∨ m = 3 by omega) with rfl | rfl | rfl | rfl
      · exact ⟨h9.1, Int.lt_trans h9.2 (by decide)⟩
      · exact ⟨h9.1, Int.lt_trans h9.2 (by decide)⟩
      · exact ⟨h9.1, Int.lt_trans h9.2 (by decide)⟩
      · exact ⟨h9.1, Int.lt_of_lt_of_le h9.2 (by decide)⟩
    refine zg_blk pok2 X 4 [] (S' := (112, [(7, zI ((i + (m : Int)) - i)), (0, zR (a 2)), (1, zI i), (2, zI (i + (m : Int))), (3, zI (rrL (tb B (F 0)) i m)), (4, zL (rrK (tb B (F 0)) i m)), (6, zI (rrN (tb B (F 0)) i m))], [], (tW a F B K S V))) rfl trivial ?_
    rw [show i + (m : Int) - i = (m : Int) by omega]
    refine zg_blk pok2 X 2 [] (S' := (115, [(7, zI (m : Int)), (0, zR (a 2)), (1, zI i), (2, zI (i + (m : Int))), (3, zI (rrL (tb B (F 0)) i m)), (4, zL (rrK (tb B (F 0)) i m)), (6, zI (rrN (tb B (F 0)) i m))], [zI (m : Int), zI (rrL (tb B (F 0)) i m)], (tW a F B K S V))) rfl trivial ?_
    refine zg_icmp X 180 rfl rfl (by unfold zin; omega) (by unfold zin; omega) (fun g1 => ?_) (fun g1 => ?_)
    · simp only [x_cnd] at g1
      refine zg_blk pok2 X 1 [] (S' := (181, [(7, zI (m : Int)), (0, zR (a 2)), (1, zI i), (2, zI (i + (m : Int))), (3, zI (rrL (tb B (F 0)) i m)), (4, zL (rrK (tb B (F 0)) i m)), (6, zI (rrN (tb B (F 0)) i m))], [zI (rrL (tb B (F 0)) i m)], (tW a F B K S V))) rfl trivial ?_
      refine zg_if X 215 rfl rfl (by unfold zin; omega) (fun g2 => ?_) (fun g2 => ?_)
      · simp only [x_cnd] at g2
        refine zg_blk pok2 X 7 [2, 2, 3] (S' := (226, [(7, zI (m : Int)), (0, zR (a 2)), (1, zI i), (2, zI (i + (m : Int))), (3, zI (rrL (tb B (F 0)) i m)), (4, zL (rrK (tb B (F 0)) i m)), (6, zI (rrN (tb B (F 0)) i m))], [zI (i + (m : Int))], (tW a F B (zup K ((F 1).toNat) 4) S V))) rfl ⟨rfl, rfl, rfl, rfl, (show zidx (F 1) 941 from by unfold zidx; omega), trivial⟩ ?_
        refine zg_reti X hR rfl rfl (by decide) (by decide) ?_
        refine ⟨m, 4, V, rfl, rfl, ⟨by omega, h4, hx⟩, ?_, ?_⟩
        · exact Or.inr (Or.inr ⟨by omega, by omega, rfl⟩)
        · exact fun k hk => rfl
      · simp only [x_ncd] at g2
        refine zg_blk pok2 X 2 [] (S' := (187, [(7, zI (m : Int)), (0, zR (a 2)), (1, zI i), (2, zI (i + (m : Int))), (3, zI (rrL (tb B (F 0)) i m)), (4, zL (rrK (tb B (F 0)) i m)), (6, zI (rrN (tb B (F 0)) i m))], [zI 3, zI (m : Int)], (tW a F B K S V))) rfl trivial ?_
        refine zg_icmp X 215 rfl rfl (by unfold zin; omega) (by unfold zin; omega) (fun g3 => ?_) (fun g3 => ?_)
        · simp only [x_cnd] at g3
          refine zg_blk pok2 X 7 [2, 2, 3] (S' := (226, [(7, zI (m : Int)), (0, zR (a 2)), (1, zI i), (2, zI (i + (m : Int))), (3, zI (rrL (tb B (F 0)) i m)), (4, zL (rrK (tb B (F 0)) i m)), (6, zI (rrN (tb B (F 0)) i m))], [zI (i + (m : Int))], (tW a F B (zup K ((F 1).toNat) 4) S V))) rfl ⟨rfl, rfl, rfl, rfl, (show zidx (F 1) 941 from by unfold zidx; omega), trivial⟩ ?_
          refine zg_reti X hR rfl rfl (by decide) (by decide) ?_
          refine ⟨m, 4, V, rfl, rfl, ⟨by omega, h4, hx⟩, ?_, ?_⟩
          · exact Or.inr (Or.inr ⟨by omega, by omega, rfl⟩)
          · exact fun k hk => rfl
        · simp only [x_ncd] at g3
          refine zg_blk pok2 X 15 [2, 2, 3, 2, 2, 5] (S' := (226, [(7, zI (m : Int)), (0, zR (a 2)), (1, zI i), (2, zI (i + (m : Int))), (3, zI (rrL (tb B (F 0)) i m)), (4, zL (rrK (tb B (F 0)) i m)), (6, zI (rrN (tb B (F 0)) i m))], [zI (i + (m : Int))], (tW a F B (zup K ((F 1).toNat) 3) S (zup V ((F 1).toNat) (rrN (tb B (F 0)) i m))))) rfl ⟨rfl, rfl, rfl, rfl, (show zidx (F 1) 941 from by unfold zidx; omega), rfl, rfl, (show zin (rrN (tb B (F 0)) i m) from by unfold zin; omega), rfl, (show zidx (F 1) 941 from by unfold zidx; omega), trivial⟩ ?_
          refine zg_reti X hR rfl rfl (by decide) (by decide) ?_
          refine ⟨m, 3, (zup V ((F 1).toNat) (rrN (tb B (F 0)) i m)), rfl, rfl, ⟨by omega, h4, hx⟩, ?_, ?_⟩
          · rw [zup_eq]
            exact Or.inr (Or.inl ⟨by omega, by omega, by omega, rfl, rfl⟩)
          · exact fun k hk => zup_ne hk
    · simp only [x_ncd] at g1
      refine zg_blk pok2 X 2 [] (S' := (122, [(7, zI (m : Int)), (0, zR (a 2)), (1, zI i), (2, zI (i + (m : Int))), (3, zI (rrL (tb B (F 0)) i m)), (4, zL (rrK (tb B (F 0)) i m)), (6, zI (rrN (tb B (F 0)) i m))], [zI 7, zI (m : Int)], (tW a F B K S V))) rfl trivial ?_
      refine zg_icmp X 180 rfl rfl (by unfold zin; omega) (by unfold zin; omega) (fun g4 => ?_) (fun g4 => ?_)
      · simp only [x_cnd] at g4
        refine zg_blk pok2 X 1 [] (S' := (181, [(7, zI (m : Int)), (0, zR (a 2)), (1, zI i), (2, zI (i + (m : Int))), (3, zI (rrL (tb B (F 0)) i m)), (4, zL (rrK (tb B (F 0)) i m)), (6, zI (rrN (tb B (F 0)) i m))], [zI (rrL (tb B (F 0)) i m)], (tW a F B K S V))) rfl trivial ?_
        refine zg_if X 215 rfl rfl (by unfold zin; omega) (fun g5 => ?_) (fun g5 => ?_)
        · simp only [x_cnd] at g5
          refine zg_blk pok2 X 7 [2, 2, 3] (S' := (226, [(7, zI (m : Int)), (0, zR (a 2)), (1, zI i), (2, zI (i + (m : Int))), (3, zI (rrL (tb B (F 0)) i m)), (4, zL (rrK (tb B (F 0)) i m)), (6, zI (rrN (tb B (F 0)) i m))], [zI (i + (m : Int))], (tW a F B (zup K ((F 1).toNat) 4) S V))) rfl ⟨rfl, rfl, rfl, rfl, (show zidx (F 1) 941 from by unfold zidx; omega), trivial⟩ ?_
          refine zg_reti X hR rfl rfl (by decide) (by decide) ?_
          refine ⟨m, 4, V, rfl, rfl, ⟨by omega, h4, hx⟩, ?_, ?_⟩
          · exact Or.inr (Or.inr ⟨by omega, by omega, rfl⟩)
          · exact fun k hk => rfl
        · simp only [x_ncd] at g5
          refine zg_blk pok2 X 2 [] (S' := (187, [(7, zI (m : Int)), (0, zR (a 2)), (1, zI i), (2, zI (i + (m : Int))), (3, zI (rrL (tb B (F 0)) i m)), (4, zL (rrK (tb B (F 0)) i m)), (6, zI (rrN (tb B (F 0)) i m))], [zI 3, zI (m : Int)], (tW a F B K S V))) rfl trivial ?_
          refine zg_icmp X 215 rfl rfl (by unfold zin; omega) (by unfold zin; omega) (fun g6 => ?_) (fun g6 => ?_)
          · simp only [x_cnd] at g6
            refine zg_blk pok2 X 7 [2, 2, 3] (S' := (226, [(7, zI (m : Int)), (0, zR (a 2)), (1, zI i), (2, zI (i + (m : Int))), (3, zI (rrL (tb B (F 0)) i m)), (4, zL (rrK (tb B (F 0)) i m)), (6, zI (rrN (tb B (F 0)) i m))], [zI (i + (m : Int))], (tW a F B (zup K ((F 1).toNat) 4) S V))) rfl ⟨rfl, rfl, rfl, rfl, (show zidx (F 1) 941 from by unfold zidx; omega), trivial⟩ ?_
            refine zg_reti X hR rfl rfl (by decide) (by decide) ?_
            refine ⟨m, 4, V, rfl, rfl, ⟨by omega, h4, hx⟩, ?_, ?_⟩
            · exact Or.inr (Or.inr ⟨by omega, by omega, rfl⟩)
            · exact fun k hk => rfl
          · simp only [x_ncd] at g6
            refine zg_blk pok2 X 15 [2, 2, 3, 2, 2, 5] (S' := (226, [(7, zI (m : Int)), (0, zR (a 2)), (1, zI i), (2, zI (i + (m : Int))), (3, zI (rrL (tb B (F 0)) i m)), (4, zL (rrK (tb B (F 0)) i m)), (6, zI (rrN (tb B (F 0)) i m))], [zI (i + (m : Int))], (tW a F B (zup K ((F 1).toNat) 3) S (zup V ((F 1).toNat) (rrN (tb B (F 0)) i m))))) rfl ⟨rfl, rfl, rfl, rfl, (show zidx (F 1) 941 from by unfold zidx; omega), rfl, rfl, (show zin (rrN (tb B (F 0)) i m) from by unfold zin; omega), rfl, (show zidx (F 1) 941 from by unfold zidx; omega), trivial⟩ ?_
            refine zg_reti X hR rfl rfl (by decide) (by decide) ?_
            refine ⟨m, 3, (zup V ((F 1).toNat) (rrN (tb B (F 0)) i m)), rfl, rfl, ⟨by omega, h4, hx⟩, ?_, ?_⟩
            · rw [zup_eq]
              exact Or.inr (Or.inl ⟨by omega, by omega, by omega, rfl, rfl⟩)
            · exact fun k hk => zup_ne hk
      · simp only [x_ncd] at g4
        refine zg_blk pok2 X 3 [] (S' := (129, [(7, zI (m : Int)), (0, zR (a 2)), (1, zI i), (2, zI (i + (m : Int))), (3, zI (rrL (tb B (F 0)) i m)), (4, zL (rrK (tb B (F 0)) i m)), (6, zI (rrN (tb B (F 0)) i m))], [zI (m : Int), zI i, zR (a 2)], (tW a F B K S V))) rfl trivial ?_
        refine zg_callV pok2 EWX_ok X 2 (vas := [zI i, zI (m : Int)]) (vr := []) (Y1 := (tW a F B K S V)) (Y2 := []) rfl rfl (Or.inl rfl) zj_X10_wordNumber rfl rfl rfl rfl (Nat.le_of_ble_eq_true rfl) rfl (zm_wordNumber hB hn (by omega) (by omega)) ⟨by decide, by decide, by decide, by decide⟩ (fun z9 Y9 hz => ?_)
        rcases hz with ⟨w, hw1, hw2, hs, rfl, rfl⟩ | ⟨hs, rfl, rfl⟩
        · refine zg_blk pok2 X 7 [2, 2] (S' := (145, [(8, zI w), (7, zI (m : Int)), (0, zR (a 2)), (1, zI i), (2, zI (i + (m : Int))), (3, zI (rrL (tb B (F 0)) i m)), (4, zL (rrK (tb B (F 0)) i m)), (6, zI (rrN (tb B (F 0)) i m))], [zI (-1), zI w, zI (F 1), zR (a 3)], (tW a F B K S V))) rfl ⟨rfl, rfl, trivial⟩ ?_
          refine zg_icmp X 152 rfl rfl (by unfold zin; omega) (by unfold zin; omega) (fun g7 => ?_) (fun g7 => ?_)
          · simp only [x_cnd] at g7
            refine zg_blk pok2 X 8 [3, 2, 2] (S' := (165, [(8, zI w), (7, zI (m : Int)), (0, zR (a 2)), (1, zI i), (2, zI (i + (m : Int))), (3, zI (rrL (tb B (F 0)) i m)), (4, zL (rrK (tb B (F 0)) i m)), (6, zI (rrN (tb B (F 0)) i m))], [zI (-1), zI w, zI (F 1), zR (a 5)], (tW a F B (zup K ((F 1).toNat) 2) S V))) rfl ⟨rfl, rfl, (show zidx (F 1) 941 from by unfold zidx; omega), rfl, rfl, trivial⟩ ?_
            refine zg_icmp X 173 rfl rfl (by unfold zin; omega) (by unfold zin; omega) (fun g8 => ?_) (fun g8 => ?_)
            · simp only [x_cnd] at g8
              refine zg_blk pok2 X 5 [5] (S' := (226, [(8, zI w), (7, zI (m : Int)), (0, zR (a 2)), (1, zI i), (2, zI (i + (m : Int))), (3, zI (rrL (tb B (F 0)) i m)), (4, zL (rrK (tb B (F 0)) i m)), (6, zI (rrN (tb B (F 0)) i m))], [zI (i + (m : Int))], (tW a F B (zup K ((F 1).toNat) 2) S (zup V ((F 1).toNat) w)))) rfl ⟨(show zin w from by unfold zin; omega), rfl, (show zidx (F 1) 941 from by unfold zidx; omega), trivial⟩ ?_
              refine zg_reti X hR rfl rfl (by decide) (by decide) ?_
              refine ⟨m, 2, (zup V ((F 1).toNat) w), rfl, rfl, ⟨by omega, h4, hx⟩, ?_, ?_⟩
              · rw [zup_eq]
                exact Or.inl ⟨by omega, by omega, Or.inl ⟨w, hw1, hw2, hs, rfl, rfl⟩⟩
              · exact fun k hk => zup_ne hk
            · simp only [x_ncd] at g8
              exfalso
              omega
          · simp only [x_ncd] at g7
            exfalso
            omega
        · refine zg_blk pok2 X 7 [2, 2] (S' := (145, [(8, zI (-1)), (7, zI (m : Int)), (0, zR (a 2)), (1, zI i), (2, zI (i + (m : Int))), (3, zI (rrL (tb B (F 0)) i m)), (4, zL (rrK (tb B (F 0)) i m)), (6, zI (rrN (tb B (F 0)) i m))], [zI (-1), zI (-1), zI (F 1), zR (a 3)], (tW a F B K S V))) rfl ⟨rfl, rfl, trivial⟩ ?_
          refine zg_icmp X 152 rfl rfl (by unfold zin; omega) (by unfold zin; omega) (fun g9 => ?_) (fun g9 => ?_)
          · exact absurd (show ¬ (-1 : Int) = (-1 : Int) from g9) (by decide)
          · simp only [x_ncd] at g9
            refine zg_blk pok2 X 9 [3, 2, 2] (S' := (165, [(8, zI (-1)), (7, zI (m : Int)), (0, zR (a 2)), (1, zI i), (2, zI (i + (m : Int))), (3, zI (rrL (tb B (F 0)) i m)), (4, zL (rrK (tb B (F 0)) i m)), (6, zI (rrN (tb B (F 0)) i m))], [zI (-1), zI (-1), zI (F 1), zR (a 5)], (tW a F B (zup K ((F 1).toNat) 1) S V))) rfl ⟨rfl, rfl, (show zidx (F 1) 941 from by unfold zidx; omega), rfl, rfl, trivial⟩ ?_
            refine zg_icmp X 173 rfl rfl (by unfold zin; omega) (by unfold zin; omega) (fun g10 => ?_) (fun g10 => ?_)
            · exact absurd (show ¬ (-1 : Int) = (-1 : Int) from g10) (by decide)
            · simp only [x_ncd] at g10
              refine zg_blk pok2 X 5 [5] (S' := (226, [(8, zI (-1)), (7, zI (m : Int)), (0, zR (a 2)), (1, zI i), (2, zI (i + (m : Int))), (3, zI (rrL (tb B (F 0)) i m)), (4, zL (rrK (tb B (F 0)) i m)), (6, zI (rrN (tb B (F 0)) i m))], [zI (i + (m : Int))], (tW a F B (zup K ((F 1).toNat) 1) S (zup V ((F 1).toNat) (rrK (tb B (F 0)) i m))))) rfl ⟨rfl, (show zidx (F 1) 941 from by unfold zidx; omega), trivial⟩ ?_
              refine zg_reti X hR rfl rfl (by decide) (by decide) ?_
              refine ⟨m, 1, (zup V ((F 1).toNat) (rrK (tb B (F 0)) i m)), rfl, rfl, ⟨by omega, h4, hx⟩, ?_, ?_⟩
              · rw [zup_eq]
                exact Or.inl ⟨by omega, by omega, Or.inr ⟨hs, rfl, rfl⟩⟩
              · exact fun k hk => zup_ne hk
  have loop : ∀ (t m : Nat), i + (m : Int) ≤ F 0 → F 0 - (i + (m : Int)) < t → (∀ k, i ≤ k → k < i + (m : Int) → isLD (tb B (F 0) k)) → ZG D cy r mt2_X10_readRun p0 l e0 (rmR (8, 0, 0, 232)) s0 m0 ar0 be0 me0 c0 A0 Q0 0 0 (10, [(0, zR (a 2)), (1, zI i), (2, zI (i + (m : Int))), (3, zI (rrL (tb B (F 0)) i m)), (4, zL (rrK (tb B (F 0)) i m)), (6, zI (rrN (tb B (F 0)) i m))], [], (tW a F B K S V)) := by
    intro t
    induction t with
    | zero => intro m h1 h2; omega
    | succ t ih =>
      intro m h1 h3 h4
      have htb := tb_rng (B := B) (F 0) (i + (m : Int))
      refine zg_blk pok2 X 4 [2, 0] (S' := (18, [(0, zR (a 2)), (1, zI i), (2, zI (i + (m : Int))), (3, zI (rrL (tb B (F 0)) i m)), (4, zL (rrK (tb B (F 0)) i m)), (6, zI (rrN (tb B (F 0)) i m))], [zI (F 0), zI (i + (m : Int))], (tW a F B K S V))) rfl ⟨rfl, rfl, trivial⟩ ?_
      refine zg_icmp X 107 rfl rfl (by unfold zin; omega) (by unfold zin; omega) (fun g1 => ?_) (fun g1 => ?_)
      · simp only [x_cnd] at g1
        refine zg_lv [(0, zR (a 2)), (1, zI i), (2, zI (i + (m : Int))), (3, zI (rrL (tb B (F 0)) i m)), (4, zL (rrK (tb B (F 0)) i m)), (6, zI (rrN (tb B (F 0)) i m))] (by intro q hq; simp only [List.mem_cons, List.not_mem_nil, or_false] at hq ⊢; rcases hq with rfl | rfl | rfl | rfl | rfl | rfl <;> simp) ?_
        exact fin9 m (by omega) h4 (by
          first
          | exact fun h => h.elim hl hd
          | (unfold isLD isL isD tb; rw [if_neg (by omega)]; omega))
      · simp only [x_ncd] at g1
        refine zg_blk pok2 X 3 [2] (S' := (26, [(0, zR (a 2)), (1, zI i), (2, zI (i + (m : Int))), (3, zI (rrL (tb B (F 0)) i m)), (4, zL (rrK (tb B (F 0)) i m)), (6, zI (rrN (tb B (F 0)) i m))], [zI (i + (m : Int)), zR (a 0)], (tW a F B K S V))) rfl ⟨rfl, trivial⟩ ?_
        refine zg_callV pok2 EWX_ok X 0 (vas := [zI (i + (m : Int))]) (vr := []) (Y1 := (tW a F B K S V)) (Y2 := []) rfl rfl (Or.inl rfl) zj_X9_at rfl rfl rfl rfl (Nat.le_of_ble_eq_true rfl) rfl (zm_at hB hn (by omega)) ⟨by decide, by decide, by decide, by decide⟩ (fun z9 Y9 hz => ?_)
        obtain ⟨rfl, rfl⟩ := hz
        refine zg_callS pok2 EWX_ok X (vas := [zI (tb B (F 0) (i + (m : Int)))]) (vr := []) (Y1 := (tW a F B K S V)) (Y2 := []) rfl rfl (Or.inl rfl) zj_X10_isLetter rfl rfl rfl (Nat.le_of_ble_eq_true rfl) rfl (zm_isLetter (by have h9 := tb_rng (B := B) (F 0) (i + (m : Int)); omega)) ⟨by decide, by decide, by decide, by decide⟩ (fun z9 Y9 hz => ?_)
        rcases hz with ⟨hl, rfl, rfl⟩ | ⟨hl, rfl, rfl⟩
        · refine zg_if X 49 rfl rfl (by unfold zin; omega) (fun g2 => ?_) (fun g2 => ?_)
          · simp only [x_cnd] at g2
            refine zg_blk pok2 X 3 [2] (S' := (54, [(0, zR (a 2)), (1, zI i), (2, zI (i + (m : Int))), (3, zI (rrL (tb B (F 0)) i m)), (4, zL (rrK (tb B (F 0)) i m)), (6, zI (rrN (tb B (F 0)) i m))], [zI (i + (m : Int)), zR (a 0)], (tW a F B K S V))) rfl ⟨rfl, trivial⟩ ?_
            refine zg_callV pok2 EWX_ok X 0 (vas := [zI (i + (m : Int))]) (vr := []) (Y1 := (tW a F B K S V)) (Y2 := []) rfl rfl (Or.inl rfl) zj_X9_at rfl rfl rfl rfl (Nat.le_of_ble_eq_true rfl) rfl (zm_at hB hn (by omega)) ⟨by decide, by decide, by decide, by decide⟩ (fun z9 Y9 hz => ?_)
            obtain ⟨rfl, rfl⟩ := hz
            refine zg_blk pok2 X 2 [] (S' := (61, [(7, zI (tb B (F 0) (i + (m : Int)))), (0, zR (a 2)), (1, zI i), (2, zI (i + (m : Int))), (3, zI (rrL (tb B (F 0)) i m)), (4, zL (rrK (tb B (F 0)) i m)), (6, zI (rrN (tb B (F 0)) i m))], [zI (tb B (F 0) (i + (m : Int)))], (tW a F B K S V))) rfl trivial ?_
            refine zg_callS pok2 EWX_ok X (vas := [zI (tb B (F 0) (i + (m : Int)))]) (vr := []) (Y1 := (tW a F B K S V)) (Y2 := []) rfl rfl (Or.inl rfl) zj_X10_isLetter rfl rfl rfl (Nat.le_of_ble_eq_true rfl) rfl (zm_isLetter (by have h9 := tb_rng (B := B) (F 0) (i + (m : Int)); omega)) ⟨by decide, by decide, by decide, by decide⟩ (fun z9 Y9 hz => ?_)
            rcases hz with ⟨hl2, rfl, rfl⟩ | ⟨hl2, rfl, rfl⟩
            · refine zg_if X 88 rfl rfl (by unfold zin; omega) (fun g3 => ?_) (fun g3 => ?_)
              · exact absurd (show (1 : Int) = (0 : Int) from g3) (by decide)
              · simp only [x_ncd] at g3
                refine zg_blk pok2 X 15 [] (S' := (10, [(2, zI ((i + (m : Int)) + 1)), (4, zL ((zlshl (rrK (tb B (F 0)) i m) 5) + (((tb B (F 0) (i + (m : Int))) - 97) + 1))), (3, zI ((rrL (tb B (F 0)) i m) + 1)), (7, zI (tb B (F 0) (i + (m : Int)))), (0, zR (a 2)), (1, zI i), (6, zI (rrN (tb B (F 0)) i m))], [], (tW a F B K S V))) rfl ⟨(show zin (((tb B (F 0) (i + (m : Int))) - 97) + 1) from by unfold zin; omega), trivial⟩ ?_
                have ih9 := ih (m + 1) (by omega) (by omega) (fun k q1 q2 => by
                  rcases (show k < i + (m : Int) ∨ k = i + (m : Int) by omega) with h | rfl
                  · exact h4 k q1 h
                  · exact Or.inl hl)
                rw [show rrL (tb B (F 0)) i (m + 1) = _ from if_pos hl, show rrK (tb B (F 0)) i (m + 1) = _ from if_pos hl, show rrN (tb B (F 0)) i (m + 1) = _ from if_pos hl, show i + (((m + 1 : Nat)) : Int) = i + (m : Int) + 1 by omega] at ih9
                refine zg_lv _ ?_ ih9
                intro q hq
                simp only [List.mem_cons, List.not_mem_nil, or_false] at hq ⊢
                rcases hq with rfl | rfl | rfl | rfl | rfl | rfl <;> simp
            · exact absurd hl hl2
          · exact absurd (show (1 : Int) = (0 : Int) from g2) (by decide)
        · refine zg_if X 49 rfl rfl (by unfold zin; omega) (fun g4 => ?_) (fun g4 => ?_)
          · exact absurd (show ¬ (0 : Int) = (0 : Int) from g4) (by decide)
          · simp only [x_ncd] at g4
            refine zg_blk pok2 X 3 [2] (S' := (40, [(0, zR (a 2)), (1, zI i), (2, zI (i + (m : Int))), (3, zI (rrL (tb B (F 0)) i m)), (4, zL (rrK (tb B (F 0)) i m)), (6, zI (rrN (tb B (F 0)) i m))], [zI (i + (m : Int)), zR (a 0)], (tW a F B K S V))) rfl ⟨rfl, trivial⟩ ?_
            refine zg_callV pok2 EWX_ok X 0 (vas := [zI (i + (m : Int))]) (vr := []) (Y1 := (tW a F B K S V)) (Y2 := []) rfl rfl (Or.inl rfl) zj_X9_at rfl rfl rfl rfl (Nat.le_of_ble_eq_true rfl) rfl (zm_at hB hn (by omega)) ⟨by decide, by decide, by decide, by decide⟩ (fun z9 Y9 hz => ?_)
            obtain ⟨rfl, rfl⟩ := hz
            refine zg_callS pok2 EWX_ok X (vas := [zI (tb B (F 0) (i + (m : Int)))]) (vr := []) (Y1 := (tW a F B K S V)) (Y2 := []) rfl rfl (Or.inl rfl) zj_X10_isDigit rfl rfl rfl (Nat.le_of_ble_eq_true rfl) rfl (zm_isDigit (by have h9 := tb_rng (B := B) (F 0) (i + (m : Int)); omega)) ⟨by decide, by decide, by decide, by decide⟩ (fun z9 Y9 hz => ?_)
            rcases hz with ⟨hd, rfl, rfl⟩ | ⟨hd, rfl, rfl⟩
            · refine zg_if X 107 rfl rfl (by unfold zin; omega) (fun g5 => ?_) (fun g5 => ?_)
              · exact absurd (show (1 : Int) = (0 : Int) from g5) (by decide)
              · simp only [x_ncd] at g5
                refine zg_blk pok2 X 3 [2] (S' := (54, [(0, zR (a 2)), (1, zI i), (2, zI (i + (m : Int))), (3, zI (rrL (tb B (F 0)) i m)), (4, zL (rrK (tb B (F 0)) i m)), (6, zI (rrN (tb B (F 0)) i m))], [zI (i + (m : Int)), zR (a 0)], (tW a F B K S V))) rfl ⟨rfl, trivial⟩ ?_
                refine zg_callV pok2 EWX_ok X 0 (vas := [zI (i + (m : Int))]) (vr := []) (Y1 := (tW a F B K S V)) (Y2 := []) rfl rfl (Or.inl rfl) zj_X9_at rfl rfl rfl rfl (Nat.le_of_ble_eq_true rfl) rfl (zm_at hB hn (by omega)) ⟨by decide, by decide, by decide, by decide⟩ (fun z9 Y9 hz => ?_)
                obtain ⟨rfl, rfl⟩ := hz
                refine zg_blk pok2 X 2 [] (S' := (61, [(7, zI (tb B (F 0) (i + (m : Int)))), (0, zR (a 2)), (1, zI i), (2, zI (i + (m : Int))), (3, zI (rrL (tb B (F 0)) i m)), (4, zL (rrK (tb B (F 0)) i m)), (6, zI (rrN (tb B (F 0)) i m))], [zI (tb B (F 0) (i + (m : Int)))], (tW a F B K S V))) rfl trivial ?_
                refine zg_callS pok2 EWX_ok X (vas := [zI (tb B (F 0) (i + (m : Int)))]) (vr := []) (Y1 := (tW a F B K S V)) (Y2 := []) rfl rfl (Or.inl rfl) zj_X10_isLetter rfl rfl rfl (Nat.le_of_ble_eq_true rfl) rfl (zm_isLetter (by have h9 := tb_rng (B := B) (F 0) (i + (m : Int)); omega)) ⟨by decide, by decide, by decide, by decide⟩ (fun z9 Y9 hz => ?_)
                rcases hz with ⟨hl2, rfl, rfl⟩ | ⟨hl2, rfl, rfl⟩
                · exact absurd hl2 hl
                · refine zg_if X 88 rfl rfl (by unfold zin; omega) (fun g6 => ?_) (fun g6 => ?_)
                  · simp only [x_cnd] at g6
                    refine zg_blk pok2 X 10 [] (S' := (10, [(2, zI ((i + (m : Int)) + 1)), (6, zI (((rrN (tb B (F 0)) i m) * 10) + ((tb B (F 0) (i + (m : Int))) - 48))), (7, zI (tb B (F 0) (i + (m : Int)))), (0, zR (a 2)), (1, zI i), (3, zI (rrL (tb B (F 0)) i m)), (4, zL (rrK (tb B (F 0)) i m))], [], (tW a F B K S V))) rfl trivial ?_
                    have ih9 := ih (m + 1) (by omega) (by omega) (fun k q1 q2 => by
                      rcases (show k < i + (m : Int) ∨ k = i + (m : Int) by omega) with h | rfl
                      · exact h4 k q1 h
                      · exact Or.inr hd)
                    rw [show rrL (tb B (F 0)) i (m + 1) = _ from if_neg hl, show rrK (tb B (F 0)) i (m + 1) = _ from if_neg hl, show rrN (tb B (F 0)) i (m + 1) = _ from if_neg hl, show i + (((m + 1 : Nat)) : Int) = i + (m : Int) + 1 by omega] at ih9
                    refine zg_lv _ ?_ ih9
                    intro q hq
                    simp only [List.mem_cons, List.not_mem_nil, or_false] at hq ⊢
                    rcases hq with rfl | rfl | rfl | rfl | rfl | rfl <;> simp
                  · exact absurd (show ¬ (0 : Int) = (0 : Int) from g6) (by decide)
            · refine zg_if X 107 rfl rfl (by unfold zin; omega) (fun g7 => ?_) (fun g7 => ?_)
              · simp only [x_cnd] at g7
                refine zg_lv [(0, zR (a 2)), (1, zI i), (2, zI (i + (m : Int))), (3, zI (rrL (tb B (F 0)) i m)), (4, zL (rrK (tb B (F 0)) i m)), (6, zI (rrN (tb B (F 0)) i m))] (by intro q hq; simp only [List.mem_cons, List.not_mem_nil, or_false] at hq ⊢; rcases hq with rfl | rfl | rfl | rfl | rfl | rfl <;> simp) ?_
                exact fin9 m (by omega) h4 (by
                  first
                  | exact fun h => h.elim hl hd
                  | (unfold isLD isL isD tb; rw [if_neg (by omega)]; omega))
              · exact absurd (show ¬ (0 : Int) = (0 : Int) from g7) (by decide)
  refine zg_blk pok2 X 8 [] (S' := (10, [(6, zI 0), (4, zL 0), (3, zI 0), (2, zI i), (0, zR (a 2)), (1, zI i)], [], (tW a F B K S V))) rfl trivial ?_
  have l9 := loop 2000 0 (by omega) (by omega) (fun k q1 q2 => by omega)
  rw [show i + (((0 : Nat)) : Int) = i by omega] at l9
  refine zg_lv _ ?_ l9
  intro q hq
  simp only [List.mem_cons, List.not_mem_nil, or_false] at hq ⊢
  rcases hq with rfl | rfl | rfl | rfl | rfl | rfl <;> simp [rrL, rrK, rrN]
set_option maxRecDepth 4000 in
theorem zj_X10_readToken : PR2[26]? = some mt2_X10_readToken := rfl
theorem zm_readToken {i : Int} (hB : ∀ k, -128 ≤ B k ∧ B k ≤ 127) (hn : 0 ≤ F 0 ∧ F 0 ≤ 940) (hi : 0 ≤ i ∧ i ≤ F 0) (hF1 : 0 ≤ F 1 ∧ F 1 < 941) : ZMet (EWX xs) D cy l ex mt2_X10_readToken (9, 0, 0, 260) (tW a F B K S V) [zR (a 2), zI i] (fun z Y => ∃ (j kd : Int) (V9 : Nat → Int), z = some (zI j) ∧ Y = tW a F B (zup K (F 1).toNat kd) S V9 ∧ Tk (tb B (F 0)) i j kd (V9 (F 1).toNat) ∧ ∀ k, ¬ k = (F 1).toNat → V9 k = V k) := by
  obtain ⟨mok, tok, ow⟩ := pok2.1 _ _ zj_X10_readToken
  refine met_ofz EWX_ok mok tok ow (Nat.le_of_ble_eq_true rfl) (fun r p0 e0 s0 m0 ar0 be0 me0 c0 A0 Q0 X hR => ?_)
  have htb := tb_rng (B := B) (F 0) i
  refine zg_blk pok2 X 3 [2] (S' := (5, [(0, zR (a 2)), (1, zI i)], [zI i, zR (a 0)], (tW a F B K S V))) rfl ⟨rfl, trivial⟩ ?_
  refine zg_callV pok2 EWX_ok X 0 (vas := [zI i]) (vr := []) (Y1 := (tW a F B K S V)) (Y2 := []) rfl rfl (Or.inl rfl) zj_X9_at rfl rfl rfl rfl (Nat.le_of_ble_eq_true rfl) rfl (zm_at hB hn (by omega)) ⟨by decide, by decide, by decide, by decide⟩ (fun z9 Y9 hz => ?_)
  obtain ⟨rfl, rfl⟩ := hz
  refine zg_blk pok2 X 2 [] (S' := (10, [(2, zI (tb B (F 0) i)), (0, zR (a 2)), (1, zI i)], [zI (tb B (F 0) i)], (tW a F B K S V))) rfl trivial ?_
  refine zg_callS pok2 EWX_ok X (vas := [zI (tb B (F 0) i)]) (vr := []) (Y1 := (tW a F B K S V)) (Y2 := []) rfl rfl (Or.inl rfl) zj_X10_isLetter rfl rfl rfl (Nat.le_of_ble_eq_true rfl) rfl (zm_isLetter (by have h9 := tb_rng (B := B) (F 0) i; omega)) ⟨by decide, by decide, by decide, by decide⟩ (fun z9 Y9 hz => ?_)
  rcases hz with ⟨hl, rfl, rfl⟩ | ⟨hl, rfl, rfl⟩
  · refine zg_if X 23 rfl rfl (by unfold zin; omega) (fun g1 => ?_) (fun g1 => ?_)
    · simp only [x_cnd] at g1
      refine zg_blk pok2 X 2 [] (S' := (25, [(2, zI (tb B (F 0) i)), (0, zR (a 2)), (1, zI i)], [zI i, zR (a 2)], (tW a F B K S V))) rfl trivial ?_
      refine zg_callV pok2 EWX_ok X 2 (vas := [zI i]) (vr := []) (Y1 := (tW a F B K S V)) (Y2 := []) rfl rfl (Or.inl rfl) zj_X10_readRun rfl rfl rfl rfl (Nat.le_of_ble_eq_true rfl) rfl (zm_readRun hB hn hi hF1) ⟨by decide, by decide, by decide, by decide⟩ (fun z9 Y9 hz => ?_)
      obtain ⟨m, kd, V9, rfl, rfl, hrn, hrt, hv9⟩ := hz
      refine zg_reti X hR rfl rfl (by decide) (by decide) ?_
      exact ⟨_, kd, V9, rfl, rfl, Or.inl ⟨by first | exact Or.inl hl | exact Or.inr hd, m, rfl, hrn, hrt⟩, hv9⟩
    · exact absurd (show (1 : Int) = (0 : Int) from g1) (by decide)
  · refine zg_if X 23 rfl rfl (by unfold zin; omega) (fun g2 => ?_) (fun g2 => ?_)
    · exact absurd (show ¬ (0 : Int) = (0 : Int) from g2) (by decide)
    · simp only [x_ncd] at g2
      refine zg_blk pok2 X 1 [] (S' := (17, [(2, zI (tb B (F 0) i)), (0, zR (a 2)), (1, zI i)], [zI (tb B (F 0) i)], (tW a F B K S V))) rfl trivial ?_
      refine zg_callS pok2 EWX_ok X (vas := [zI (tb B (F 0) i)]) (vr := []) (Y1 := (tW a F B K S V)) (Y2 := []) rfl rfl (Or.inl rfl) zj_X10_isDigit rfl rfl rfl (Nat.le_of_ble_eq_true rfl) rfl (zm_isDigit (by have h9 := tb_rng (B := B) (F 0) i; omega)) ⟨by decide, by decide, by decide, by decide⟩ (fun z9 Y9 hz => ?_)
      rcases hz with ⟨hd, rfl, rfl⟩ | ⟨hd, rfl, rfl⟩
      · refine zg_if X 29 rfl rfl (by unfold zin; omega) (fun g3 => ?_) (fun g3 => ?_)
        · exact absurd (show (1 : Int) = (0 : Int) from g3) (by decide)
        · simp only [x_ncd] at g3
          refine zg_blk pok2 X 2 [] (S' := (25, [(2, zI (tb B (F 0) i)), (0, zR (a 2)), (1, zI i)], [zI i, zR (a 2)], (tW a F B K S V))) rfl trivial ?_
          refine zg_callV pok2 EWX_ok X 2 (vas := [zI i]) (vr := []) (Y1 := (tW a F B K S V)) (Y2 := []) rfl rfl (Or.inl rfl) zj_X10_readRun rfl rfl rfl rfl (Nat.le_of_ble_eq_true rfl) rfl (zm_readRun hB hn hi hF1) ⟨by decide, by decide, by decide, by decide⟩ (fun z9 Y9 hz => ?_)
          obtain ⟨m, kd, V9, rfl, rfl, hrn, hrt, hv9⟩ := hz
          refine zg_reti X hR rfl rfl (by decide) (by decide) ?_
          exact ⟨_, kd, V9, rfl, rfl, Or.inl ⟨by first | exact Or.inl hl | exact Or.inr hd, m, rfl, hrn, hrt⟩, hv9⟩
      · refine zg_if X 29 rfl rfl (by unfold zin; omega) (fun g4 => ?_) (fun g4 => ?_)
        · simp only [x_cnd] at g4
          refine zg_blk pok2 X 2 [] (S' := (32, [(2, zI (tb B (F 0) i)), (0, zR (a 2)), (1, zI i)], [zI 59, zI (tb B (F 0) i)], (tW a F B K S V))) rfl trivial ?_
          refine zg_icmp X 65 rfl rfl (by unfold zin; omega) (by unfold zin; omega) (fun g5 => ?_) (fun g5 => ?_)
          · simp only [x_cnd] at g5
            refine zg_blk pok2 X 8 [2, 2] (S' := (80, [(3, zI 1), (2, zI (tb B (F 0) i)), (0, zR (a 2)), (1, zI i)], [zI 1, zI (F 1), zR (a 3)], (tW a F B K S V))) rfl ⟨rfl, rfl, trivial⟩ ?_
            refine zg_if X 87 rfl rfl (by unfold zin; omega) (fun g6 => ?_) (fun g6 => ?_)
            · exact absurd (show (1 : Int) = (0 : Int) from g6) (by decide)
            · simp only [x_ncd] at g6
              refine zg_blk pok2 X 6 [3] (S' := (92, [(3, zI 1), (2, zI (tb B (F 0) i)), (0, zR (a 2)), (1, zI i)], [zI (i + 1)], (tW a F B (zup K ((F 1).toNat) (tb B (F 0) i)) S V))) rfl ⟨rfl, rfl, (show zidx (F 1) 941 from by unfold zidx; omega), trivial⟩ ?_
              refine zg_reti X hR rfl rfl (by decide) (by decide) ?_
              exact ⟨_, tb B (F 0) i, V, rfl, rfl, Or.inr ⟨fun h => h.elim hl hd, rfl, Or.inl ⟨by unfold isS; omega, rfl⟩⟩, fun _ _ => rfl⟩
          · simp only [x_ncd] at g5
            refine zg_blk pok2 X 2 [] (S' := (38, [(2, zI (tb B (F 0) i)), (0, zR (a 2)), (1, zI i)], [zI 60, zI (tb B (F 0) i)], (tW a F B K S V))) rfl trivial ?_
            refine zg_icmp X 65 rfl rfl (by unfold zin; omega) (by unfold zin; omega) (fun g7 => ?_) (fun g7 => ?_)
            · simp only [x_cnd] at g7
              refine zg_blk pok2 X 8 [2, 2] (S' := (80, [(3, zI 1), (2, zI (tb B (F 0) i)), (0, zR (a 2)), (1, zI i)], [zI 1, zI (F 1), zR (a 3)], (tW a F B K S V))) rfl ⟨rfl, rfl, trivial⟩ ?_
              refine zg_if X 87 rfl rfl (by unfold zin; omega) (fun g8 => ?_) (fun g8 => ?_)
              · exact absurd (show (1 : Int) = (0 : Int) from g8) (by decide)
              · simp only [x_ncd] at g8
                refine zg_blk pok2 X 6 [3] (S' := (92, [(3, zI 1), (2, zI (tb B (F 0) i)), (0, zR (a 2)), (1, zI i)], [zI (i + 1)], (tW a F B (zup K ((F 1).toNat) (tb B (F 0) i)) S V))) rfl ⟨rfl, rfl, (show zidx (F 1) 941 from by unfold zidx; omega), trivial⟩ ?_
                refine zg_reti X hR rfl rfl (by decide) (by decide) ?_
                exact ⟨_, tb B (F 0) i, V, rfl, rfl, Or.inr ⟨fun h => h.elim hl hd, rfl, Or.inl ⟨by unfold isS; omega, rfl⟩⟩, fun _ _ => rfl⟩
            · simp only [x_ncd] at g7
              refine zg_blk pok2 X 2 [] (S' := (44, [(2, zI (tb B (F 0) i)), (0, zR (a 2)), (1, zI i)], [zI 61, zI (tb B (F 0) i)], (tW a F B K S V))) rfl trivial ?_
              refine zg_icmp X 65 rfl rfl (by unfold zin; omega) (by unfold zin; omega) (fun g9 => ?_) (fun g9 => ?_)
              · simp only [x_cnd] at g9
                refine zg_blk pok2 X 8 [2, 2] (S' := (80, [(3, zI 1), (2, zI (tb B (F 0) i)), (0, zR (a 2)), (1, zI i)], [zI 1, zI (F 1), zR (a 3)], (tW a F B K S V))) rfl ⟨rfl, rfl, trivial⟩ ?_
                refine zg_if X 87 rfl rfl (by unfold zin; omega) (fun g10 => ?_) (fun g10 => ?_)
                · exact absurd (show (1 : Int) = (0 : Int) from g10) (by decide)
                · simp only [x_ncd] at g10
                  refine zg_blk pok2 X 6 [3] (S' := (92, [(3, zI 1), (2, zI (tb B (F 0) i)), (0, zR (a 2)), (1, zI i)], [zI (i + 1)], (tW a F B (zup K ((F 1).toNat) (tb B (F 0) i)) S V))) rfl ⟨rfl, rfl, (show zidx (F 1) 941 from by unfold zidx; omega), trivial⟩ ?_
                  refine zg_reti X hR rfl rfl (by decide) (by decide) ?_
                  exact ⟨_, tb B (F 0) i, V, rfl, rfl, Or.inr ⟨fun h => h.elim hl hd, rfl, Or.inl ⟨by unfold isS; omega, rfl⟩⟩, fun _ _ => rfl⟩
              · simp only [x_ncd] at g9
                refine zg_blk pok2 X 2 [] (S' := (50, [(2, zI (tb B (F 0) i)), (0, zR (a 2)), (1, zI i)], [zI 62, zI (tb B (F 0) i)], (tW a F B K S V))) rfl trivial ?_
                refine zg_icmp X 65 rfl rfl (by unfold zin; omega) (by unfold zin; omega) (fun g11 => ?_) (fun g11 => ?_)
                · simp only [x_cnd] at g11
                  refine zg_blk pok2 X 8 [2, 2] (S' := (80, [(3, zI 1), (2, zI (tb B (F 0) i)), (0, zR (a 2)), (1, zI i)], [zI 1, zI (F 1), zR (a 3)], (tW a F B K S V))) rfl ⟨rfl, rfl, trivial⟩ ?_
                  refine zg_if X 87 rfl rfl (by unfold zin; omega) (fun g12 => ?_) (fun g12 => ?_)
                  · exact absurd (show (1 : Int) = (0 : Int) from g12) (by decide)
                  · simp only [x_ncd] at g12
                    refine zg_blk pok2 X 6 [3] (S' := (92, [(3, zI 1), (2, zI (tb B (F 0) i)), (0, zR (a 2)), (1, zI i)], [zI (i + 1)], (tW a F B (zup K ((F 1).toNat) (tb B (F 0) i)) S V))) rfl ⟨rfl, rfl, (show zidx (F 1) 941 from by unfold zidx; omega), trivial⟩ ?_
                    refine zg_reti X hR rfl rfl (by decide) (by decide) ?_
                    exact ⟨_, tb B (F 0) i, V, rfl, rfl, Or.inr ⟨fun h => h.elim hl hd, rfl, Or.inl ⟨by unfold isS; omega, rfl⟩⟩, fun _ _ => rfl⟩
                · simp only [x_ncd] at g11
                  refine zg_blk pok2 X 2 [] (S' := (56, [(2, zI (tb B (F 0) i)), (0, zR (a 2)), (1, zI i)], [zI 40, zI (tb B (F 0) i)], (tW a F B K S V))) rfl trivial ?_
                  refine zg_icmp X 65 rfl rfl (by unfold zin; omega) (by unfold zin; omega) (fun g13 => ?_) (fun g13 => ?_)
                  · simp only [x_cnd] at g13
                    refine zg_blk pok2 X 8 [2, 2] (S' := (80, [(3, zI 1), (2, zI (tb B (F 0) i)), (0, zR (a 2)), (1, zI i)], [zI 1, zI (F 1), zR (a 3)], (tW a F B K S V))) rfl ⟨rfl, rfl, trivial⟩ ?_
                    refine zg_if X 87 rfl rfl (by unfold zin; omega) (fun g14 => ?_) (fun g14 => ?_)
                    · exact absurd (show (1 : Int) = (0 : Int) from g14) (by decide)
                    · simp only [x_ncd] at g14
                      refine zg_blk pok2 X 6 [3] (S' := (92, [(3, zI 1), (2, zI (tb B (F 0) i)), (0, zR (a 2)), (1, zI i)], [zI (i + 1)], (tW a F B (zup K ((F 1).toNat) (tb B (F 0) i)) S V))) rfl ⟨rfl, rfl, (show zidx (F 1) 941 from by unfold zidx; omega), trivial⟩ ?_
                      refine zg_reti X hR rfl rfl (by decide) (by decide) ?_
                      exact ⟨_, tb B (F 0) i, V, rfl, rfl, Or.inr ⟨fun h => h.elim hl hd, rfl, Or.inl ⟨by unfold isS; omega, rfl⟩⟩, fun _ _ => rfl⟩
                  · simp only [x_ncd] at g13
                    refine zg_blk pok2 X 2 [] (S' := (62, [(2, zI (tb B (F 0) i)), (0, zR (a 2)), (1, zI i)], [zI 41, zI (tb B (F 0) i)], (tW a F B K S V))) rfl trivial ?_
                    refine zg_icmp X 69 rfl rfl (by unfold zin; omega) (by unfold zin; omega) (fun g15 => ?_) (fun g15 => ?_)
                    · simp only [x_cnd] at g15
                      refine zg_blk pok2 X 7 [2, 2] (S' := (80, [(3, zI 0), (2, zI (tb B (F 0) i)), (0, zR (a 2)), (1, zI i)], [zI 0, zI (F 1), zR (a 3)], (tW a F B K S V))) rfl ⟨rfl, rfl, trivial⟩ ?_
                      refine zg_if X 87 rfl rfl (by unfold zin; omega) (fun g16 => ?_) (fun g16 => ?_)
                      · simp only [x_cnd] at g16
                        refine zg_blk pok2 X 5 [3] (S' := (92, [(3, zI 0), (2, zI (tb B (F 0) i)), (0, zR (a 2)), (1, zI i)], [zI (i + 1)], (tW a F B (zup K ((F 1).toNat) 4) S V))) rfl ⟨rfl, rfl, (show zidx (F 1) 941 from by unfold zidx; omega), trivial⟩ ?_
                        refine zg_reti X hR rfl rfl (by decide) (by decide) ?_
                        exact ⟨_, 4, V, rfl, rfl, Or.inr ⟨fun h => h.elim hl hd, rfl, Or.inr ⟨by unfold isS; omega, rfl⟩⟩, fun _ _ => rfl⟩
                      · exact absurd (show ¬ (0 : Int) = (0 : Int) from g16) (by decide)
                    · simp only [x_ncd] at g15
                      refine zg_blk pok2 X 8 [2, 2] (S' := (80, [(3, zI 1), (2, zI (tb B (F 0) i)), (0, zR (a 2)), (1, zI i)], [zI 1, zI (F 1), zR (a 3)], (tW a F B K S V))) rfl ⟨rfl, rfl, trivial⟩ ?_
                      refine zg_if X 87 rfl rfl (by unfold zin; omega) (fun g17 => ?_) (fun g17 => ?_)
                      · exact absurd (show (1 : Int) = (0 : Int) from g17) (by decide)
                      · simp only [x_ncd] at g17
                        refine zg_blk pok2 X 6 [3] (S' := (92, [(3, zI 1), (2, zI (tb B (F 0) i)), (0, zR (a 2)), (1, zI i)], [zI (i + 1)], (tW a F B (zup K ((F 1).toNat) (tb B (F 0) i)) S V))) rfl ⟨rfl, rfl, (show zidx (F 1) 941 from by unfold zidx; omega), trivial⟩ ?_
                        refine zg_reti X hR rfl rfl (by decide) (by decide) ?_
                        exact ⟨_, tb B (F 0) i, V, rfl, rfl, Or.inr ⟨fun h => h.elim hl hd, rfl, Or.inl ⟨by unfold isS; omega, rfl⟩⟩, fun _ _ => rfl⟩
        · exact absurd (show ¬ (0 : Int) = (0 : Int) from g4) (by decide)
end ZV9
