/-! the class's city: the text's calls at a token, and with a fault (written by wip/p4/g6.py) -/
/-- a text whose tokens are known -/
def TT (F K S V : Nat → Int) : Prop := F 6 = 0 ∧ 0 ≤ F 1 ∧ F 1 ≤ 941 ∧ (∀ j : Nat, (j : Int) < F 1 → ¬ K j = 0 → ¬ K j = 4 → (j : Int) + 1 < F 1) ∧ (∀ j : Nat, (j : Int) < F 1 → 0 ≤ K j ∧ K j < 63 ∧ (K j = 1 ∨ K j = 2 ∨ K j = 3 → zin64 (V j)) ∧ (K j = 2 → 0 ≤ V j ∧ V j < 29) ∧ (K j = 3 → 0 ≤ V j ∧ V j < 1000) ∧ 0 ≤ S j ∧ S j ≤ 940)
theorem z_d10 {z : Int} (h1 : 0 ≤ z) (h2 : z < 40) : zdiv z 10 = z / 10 ∧ zrem z 10 = z % 10 := by
  have key : ∀ k : Nat, k < 40 → zdiv (k : Int) 10 = (k : Int) / 10 ∧ zrem (k : Int) 10 = (k : Int) % 10 := by decide +kernel
  have e : z = ((z.toNat : Nat) : Int) := by omega
  rw [e]
  exact key _ (by omega)
theorem fnd_ok {CN NM : Nat → Int} {key : Int} {s : Nat} (hCN : ∀ s, s < 4 → 0 ≤ CN s ∧ CN s ≤ 10) (hU : Uq CN NM) (hs : s < 4) : -1 ≤ fnd CN NM key ∧ fnd CN NM key < 40 ∧ (fnd CN NM key = -1 → lkS CN NM s key = -1) ∧ (¬ fnd CN NM key = -1 → (zdiv (fnd CN NM key) 10 = s ↔ ¬ lkS CN NM s key = -1) ∧ (¬ lkS CN NM s key = -1 → zrem (fnd CN NM key) 10 = lkS CN NM s key)) := by
  have r0 := lkS_rng (NM := NM) (key := key) (hCN 0 (by omega))
  have r1 := lkS_rng (NM := NM) (key := key) (hCN 1 (by omega))
  have r2 := lkS_rng (NM := NM) (key := key) (hCN 2 (by omega))
  have r3 := lkS_rng (NM := NM) (key := key) (hCN 3 (by omega))
  have u := fun t ht => hU s t key hs ht
  have u0 := u 0 (by omega)
  have u1 := u 1 (by omega)
  have u2 := u 2 (by omega)
  have u3 := u 3 (by omega)
  have hz : 0 ≤ fnd CN NM key → fnd CN NM key < 40 → zdiv (fnd CN NM key) 10 = fnd CN NM key / 10 ∧ zrem (fnd CN NM key) 10 = fnd CN NM key % 10 := fun h1 h2 => z_d10 h1 h2
  have hf : fnd CN NM key = if lkS CN NM 0 key = -1 then (if lkS CN NM 1 key = -1 then (if lkS CN NM 2 key = -1 then (if lkS CN NM 3 key = -1 then -1 else 30 + lkS CN NM 3 key) else 20 + lkS CN NM 2 key) else 10 + lkS CN NM 1 key) else lkS CN NM 0 key := rfl
  generalize hF : fnd CN NM key = f at *
  have hss : s = 0 ∨ s = 1 ∨ s = 2 ∨ s = 3 := by omega
  rcases hss with rfl | rfl | rfl | rfl
  all_goals
    split at hf
    · split at hf
      · split at hf
        · split at hf <;> omega
        · omega
      · omega
    · omega
section ZD
variable {xs : Nat → Int32} {D : va_G} {cy : Nat → ClassId} {l : Launch} {ex : Nat → Nat} {a c : Nat → Nat} {F B K S V G CN NM MK TP PP CO KN F1 : Nat → Int} {idx : Nat} {kd pl : Int}
set_option maxRecDepth 4000 in
theorem zm_takeNumberX {z1 z2 : Int} (hfd : fd F1 kd pl) : ZMet (EWX xs) D cy l ex mt2_X10_takeNumber (1, 0, 0, 21) (tW a F1 B K S V) [zR (a 2), zI z1, zI z2] (fun z Y => z = some (zI (-1)) ∧ ∃ F9, fd F9 kd pl ∧ Y = (tW a F9 B K S V)) := by
  obtain ⟨mok, tok, ow⟩ := pok2.1 _ _ zj_X10_takeNumber
  refine met_ofz EWX_ok mok tok ow (Nat.le_of_ble_eq_true rfl) (fun r p0 e0 s0 m0 ar0 be0 me0 c0 A0 Q0 X hR => ?_)
  refine zg_blk pok2 X 3 [2] (S' := (5, [(0, zR (a 2)), (1, zI z1), (2, zI z2)], [zI 3, zI (F1 3)], (tW a F1 B K S V))) rfl ⟨rfl, trivial⟩ ?_
  refine zg_icmp X 15 rfl rfl (by first | (unfold zin; omega) | (have h9 := hfd.2.2.2.1; unfold zin; omega)) (by first | (unfold zin; omega) | (have h9 := hfd.2.2.2.1; unfold zin; omega)) (fun g1 => ?_) (fun g1 => ?_)
  · simp only [x_cnd] at g1
    exfalso
    have h9 := hfd.2.2.2.1
    omega
  · simp only [x_ncd] at g1
    refine zg_blk pok2 X 2 [] (S' := (10, [(0, zR (a 2)), (1, zI z1), (2, zI z2)], [zI 1, zR (a 2)], (tW a F1 B K S V))) rfl trivial ?_
    refine zg_callV pok2 EWX_ok X 2 (vas := [zI 1]) (vr := []) (Y1 := (tW a F1 B K S V)) (Y2 := []) rfl rfl (Or.inl rfl) zj_X10_fail rfl rfl rfl rfl (Nat.le_of_ble_eq_true rfl) rfl (zm_fail (F := F1) (by have h1 := hfd.1; have h2 := hfd.2.2.2.2; omega)) ⟨by decide, by decide, by decide, by decide⟩ (fun z9 Y9 hz => ?_)
    obtain ⟨rfl, rfl⟩ := hz
    replace hfd := fd_fail (m := 1) hfd
    refine zg_blk pok2 X 1 [] (S' := (14, [(0, zR (a 2)), (1, zI z1), (2, zI z2)], [zI (-1)], (tW a (failF 1 F1) B K S V))) rfl trivial ?_
    refine zg_reti X hR rfl rfl (by decide) (by decide) ?_
    exact ⟨rfl, _, hfd, rfl⟩
set_option maxRecDepth 4000 in
theorem zm_takeSignX {z1 : Int} (hfd : fd F1 kd pl) (hz1 : 0 < z1 ∧ z1 < 63) : ZMet (EWX xs) D cy l ex mt2_X10_takeSign (1, 0, 0, 21) (tW a F1 B K S V) [zR (a 2), zI z1] (fun z Y => z = none ∧ ∃ F9, fd F9 kd pl ∧ Y = (tW a F9 B K S V)) := by
  obtain ⟨mok, tok, ow⟩ := pok2.1 _ _ zj_X10_takeSign
  refine met_ofz EWX_ok mok tok ow (Nat.le_of_ble_eq_true rfl) (fun r p0 e0 s0 m0 ar0 be0 me0 c0 A0 Q0 X hR => ?_)
  refine zg_blk pok2 X 3 [2] (S' := (5, [(0, zR (a 2)), (1, zI z1)], [zI z1, zI (F1 3)], (tW a F1 B K S V))) rfl ⟨rfl, trivial⟩ ?_
  refine zg_icmp X 15 rfl rfl (by first | (unfold zin; omega) | (have h9 := hfd.2.2.2.1; unfold zin; omega)) (by first | (unfold zin; omega) | (have h9 := hfd.2.2.2.1; unfold zin; omega)) (fun g1 => ?_) (fun g1 => ?_)
  · simp only [x_cnd] at g1
    refine zg_blk pok2 X 2 [] (S' := (17, [(0, zR (a 2)), (1, zI z1)], [zI 1, zR (a 2)], (tW a F1 B K S V))) rfl trivial ?_
    refine zg_callV pok2 EWX_ok X 2 (vas := [zI 1]) (vr := []) (Y1 := (tW a F1 B K S V)) (Y2 := []) rfl rfl (Or.inl rfl) zj_X10_fail rfl rfl rfl rfl (Nat.le_of_ble_eq_true rfl) rfl (zm_fail (F := F1) (by have h1 := hfd.1; have h2 := hfd.2.2.2.2; omega)) ⟨by decide, by decide, by decide, by decide⟩ (fun z9 Y9 hz => ?_)
    obtain ⟨rfl, rfl⟩ := hz
    replace hfd := fd_fail (m := 1) hfd
    refine zg_retv X hR rfl rfl (by decide) (by decide) ?_
    exact ⟨rfl, _, hfd, rfl⟩
  · simp only [x_ncd] at g1
    exfalso
    have h9 := hfd.2.2.2.1
    omega
set_option maxRecDepth 4000 in
theorem zm_isWordX {z1 : Int} (hfd : fd F1 kd pl) : ZMet (EWX xs) D cy l ex mt2_X10_isWord (0, 0, 0, 0) (tW a F1 B K S V) [zR (a 2), zI z1] (fun z Y => z = some (zI 0) ∧ Y = (tW a F1 B K S V)) := by
  obtain ⟨mok, tok, ow⟩ := pok2.1 _ _ zj_X10_isWord
  refine met_ofz EWX_ok mok tok ow (Nat.le_of_ble_eq_true rfl) (fun r p0 e0 s0 m0 ar0 be0 me0 c0 A0 Q0 X hR => ?_)
  refine zg_blk pok2 X 3 [2] (S' := (5, [(0, zR (a 2)), (1, zI z1)], [zI 2, zI (F1 3)], (tW a F1 B K S V))) rfl ⟨rfl, trivial⟩ ?_
  refine zg_icmp X 22 rfl rfl (by first | (unfold zin; omega) | (have h9 := hfd.2.2.2.1; unfold zin; omega)) (by first | (unfold zin; omega) | (have h9 := hfd.2.2.2.1; unfold zin; omega)) (fun g1 => ?_) (fun g1 => ?_)
  · simp only [x_cnd] at g1
    refine zg_blk pok2 X 1 [] (S' := (23, [(0, zR (a 2)), (1, zI z1)], [zI 0], (tW a F1 B K S V))) rfl trivial ?_
    refine zg_retb X hR rfl rfl (by decide) (by decide) (by first | exact Or.inl rfl | exact Or.inr rfl) ?_
    exact ⟨rfl, rfl⟩
  · simp only [x_ncd] at g1
    exfalso
    have h9 := hfd.2.2.2.1
    omega
set_option maxRecDepth 4000 in
theorem zm_stepX (hfd : fd F1 kd pl) : ZMet (EWX xs) D cy l ex mt2_X10_step (0, 0, 0, 0) (tW a F1 B K S V) [zR (a 2)] (fun z Y => z = none ∧ Y = (tW a F1 B K S V)) := by
  obtain ⟨mok, tok, ow⟩ := pok2.1 _ _ zj_X10_step
  refine met_ofz EWX_ok mok tok ow (Nat.le_of_ble_eq_true rfl) (fun r p0 e0 s0 m0 ar0 be0 me0 c0 A0 Q0 X hR => ?_)
  refine zg_blk pok2 X 2 [2] (S' := (4, [(0, zR (a 2))], [zI (F1 6)], (tW a F1 B K S V))) rfl ⟨rfl, trivial⟩ ?_
  refine zg_if X 20 rfl rfl (by have h9 := hfd.1; have h8 := hfd.2.2.2.2; unfold zin; omega) (fun g1 => ?_) (fun g1 => ?_)
  · simp only [x_cnd] at g1
    refine zg_retv X hR rfl rfl (by decide) (by decide) ?_
    exact ⟨rfl, rfl⟩
  · simp only [x_ncd] at g1
    exfalso
    have h9 := hfd.1
    have h8 := hfd.2.1
    omega
set_option maxRecDepth 4000 in
theorem zm_isWordA {z1 : Int} (hz1 : -2147483648 ≤ z1 ∧ z1 < 2147483648) (hT : TT F K S V) (hi : (idx : Int) < F 1) : ZMet (EWX xs) D cy l ex mt2_X10_isWord (0, 0, 0, 0) (tW a (FA K S V F idx) B K S V) [zR (a 2), zI z1] (fun z Y => ((K idx = 2 ∧ V idx = z1) ∧ z = some (zI 1) ∧ Y = (tW a (FA K S V F idx) B K S V)) ∨ (¬ (K idx = 2 ∧ V idx = z1) ∧ z = some (zI 0) ∧ Y = (tW a (FA K S V F idx) B K S V))) := by
  obtain ⟨mok, tok, ow⟩ := pok2.1 _ _ zj_X10_isWord
  refine met_ofz EWX_ok mok tok ow (Nat.le_of_ble_eq_true rfl) (fun r p0 e0 s0 m0 ar0 be0 me0 c0 A0 Q0 X hR => ?_)
  obtain ⟨hF6, hF1a, hF1b, hTs, hTk⟩ := hT
  have t0 := hTk idx hi
  have hlc := zlcmp_in (V idx) z1
  refine zg_blk pok2 X 3 [2] (S' := (5, [(0, zR (a 2)), (1, zI z1)], [zI 2, zI (K idx)], (tW a (FA K S V F idx) B K S V))) rfl ⟨rfl, trivial⟩ ?_
  refine zg_icmp X 22 rfl rfl (by unfold zin; omega) (by unfold zin; omega) (fun g1 => ?_) (fun g1 => ?_)
  · simp only [x_cnd] at g1
    refine zg_blk pok2 X 1 [] (S' := (23, [(0, zR (a 2)), (1, zI z1)], [zI 0], (tW a (FA K S V F idx) B K S V))) rfl trivial ?_
    refine zg_retb X hR rfl rfl (by decide) (by decide) (by first | exact Or.inl rfl | exact Or.inr rfl) ?_
    first | exact Or.inl ⟨by omega, rfl, rfl⟩ | exact Or.inr ⟨by omega, rfl, rfl⟩
  · simp only [x_ncd] at g1
    refine zg_blk pok2 X 5 [2] (S' := (15, [(0, zR (a 2)), (1, zI z1)], [zI (zlcmp (V idx) z1)], (tW a (FA K S V F idx) B K S V))) rfl ⟨rfl, (show zin z1 from by unfold zin; omega), trivial⟩ ?_
    refine zg_if X 22 rfl rfl (by unfold zin; omega) (fun g2 => ?_) (fun g2 => ?_)
    · simp only [x_cnd] at g2
      have hle := zlcmp_eq (t0.2.2.1 (by omega)) (b := z1) ⟨by omega, by omega⟩
      refine zg_blk pok2 X 1 [] (S' := (23, [(0, zR (a 2)), (1, zI z1)], [zI 0], (tW a (FA K S V F idx) B K S V))) rfl trivial ?_
      refine zg_retb X hR rfl rfl (by decide) (by decide) (by first | exact Or.inl rfl | exact Or.inr rfl) ?_
      first | exact Or.inl ⟨by omega, rfl, rfl⟩ | exact Or.inr ⟨by omega, rfl, rfl⟩
    · simp only [x_ncd] at g2
      have hle := zlcmp_eq (t0.2.2.1 (by omega)) (b := z1) ⟨by omega, by omega⟩
      refine zg_blk pok2 X 2 [] (S' := (23, [(0, zR (a 2)), (1, zI z1)], [zI 1], (tW a (FA K S V F idx) B K S V))) rfl trivial ?_
      refine zg_retb X hR rfl rfl (by decide) (by decide) (by first | exact Or.inl rfl | exact Or.inr rfl) ?_
      first | exact Or.inl ⟨by omega, rfl, rfl⟩ | exact Or.inr ⟨by omega, rfl, rfl⟩
set_option maxRecDepth 4000 in
theorem zm_takeNumberA {z1 z2 : Int} (hz1 : -2147483648 ≤ z1 ∧ z1 < 2147483648) (hz2 : -2147483648 ≤ z2 ∧ z2 < 2147483648) (hT : TT F K S V) (hi : (idx : Int) < F 1) : ZMet (EWX xs) D cy l ex mt2_X10_takeNumber (1, 0, 0, 21) (tW a (FA K S V F idx) B K S V) [zR (a 2), zI z1, zI z2] (fun z Y => (nmF K V z1 z2 idx = 0 ∧ z = some (zI (V idx)) ∧ Y = (tW a (FA K S V F (idx + 1)) B K S V)) ∨ (¬ nmF K V z1 z2 idx = 0 ∧ z = some (zI (-1)) ∧ ∃ F9, fd F9 (nmF K V z1 z2 idx) (S idx) ∧ Y = (tW a F9 B K S V))) := by
  obtain ⟨mok, tok, ow⟩ := pok2.1 _ _ zj_X10_takeNumber
  refine met_ofz EWX_ok mok tok ow (Nat.le_of_ble_eq_true rfl) (fun r p0 e0 s0 m0 ar0 be0 me0 c0 A0 Q0 X hR => ?_)
  obtain ⟨hF6, hF1a, hF1b, hTs, hTk⟩ := hT
  have t0 := hTk idx hi
  refine zg_blk pok2 X 3 [2] (S' := (5, [(0, zR (a 2)), (1, zI z1), (2, zI z2)], [zI 3, zI (K idx)], (tW a (FA K S V F idx) B K S V))) rfl ⟨rfl, trivial⟩ ?_
  refine zg_icmp X 15 rfl rfl (by unfold zin; omega) (by unfold zin; omega) (fun g1 => ?_) (fun g1 => ?_)
  · simp only [x_cnd] at g1
    refine zg_blk pok2 X 6 [2] (S' := (23, [(3, zI (V idx)), (0, zR (a 2)), (1, zI z1), (2, zI z2)], [zI z1, zI (V idx)], (tW a (FA K S V F idx) B K S V))) rfl ⟨rfl, trivial⟩ ?_
    refine zg_icmp X 31 rfl rfl (by unfold zin; omega) (by unfold zin; omega) (fun g2 => ?_) (fun g2 => ?_)
    · simp only [x_cnd] at g2
      refine zg_blk pok2 X 2 [] (S' := (33, [(3, zI (V idx)), (0, zR (a 2)), (1, zI z1), (2, zI z2)], [zI 2, zR (a 2)], (tW a (FA K S V F idx) B K S V))) rfl trivial ?_
      refine zg_callV pok2 EWX_ok X 2 (vas := [zI 2]) (vr := []) (Y1 := (tW a (FA K S V F idx) B K S V)) (Y2 := []) rfl rfl (Or.inl rfl) zj_X10_fail rfl rfl rfl rfl (Nat.le_of_ble_eq_true rfl) rfl (zm_fail (F := (FA K S V F idx)) (show -2147483648 ≤ F 6 ∧ F 6 < 2147483648 by omega)) ⟨by decide, by decide, by decide, by decide⟩ (fun z9 Y9 hz => ?_)
      obtain ⟨rfl, rfl⟩ := hz
      have hfd := FA_fail (K := K) (S := S) (V := V) (F := F) (idx := idx) (m := 2) hF6 (by decide) (by decide)
      refine zg_blk pok2 X 1 [] (S' := (37, [(3, zI (V idx)), (0, zR (a 2)), (1, zI z1), (2, zI z2)], [zI (-1)], (tW a (failF 2 (FA K S V F idx)) B K S V))) rfl trivial ?_
      refine zg_reti X hR rfl rfl (by decide) (by decide) ?_
      refine Or.inr ⟨?_, rfl, _, ?_, rfl⟩
      · unfold nmF
        first | (rw [if_neg (by omega)]; decide) | (rw [if_pos (by omega), if_neg (by omega)]; decide)
      · unfold nmF
        first | (rw [if_neg (by omega)]; exact hfd) | (rw [if_pos (by omega), if_neg (by omega)]; exact hfd)
    · simp only [x_ncd] at g2
      refine zg_blk pok2 X 2 [] (S' := (28, [(3, zI (V idx)), (0, zR (a 2)), (1, zI z1), (2, zI z2)], [zI z2, zI (V idx)], (tW a (FA K S V F idx) B K S V))) rfl trivial ?_
      refine zg_icmp X 38 rfl rfl (by unfold zin; omega) (by unfold zin; omega) (fun g3 => ?_) (fun g3 => ?_)
      · simp only [x_cnd] at g3
        refine zg_blk pok2 X 1 [] (S' := (39, [(3, zI (V idx)), (0, zR (a 2)), (1, zI z1), (2, zI z2)], [zR (a 2)], (tW a (FA K S V F idx) B K S V))) rfl trivial ?_
        refine zg_callV pok2 EWX_ok X 2 (vas := []) (vr := []) (Y1 := (tW a (FA K S V F idx) B K S V)) (Y2 := []) rfl rfl (Or.inl rfl) zj_X10_step rfl rfl rfl rfl (Nat.le_of_ble_eq_true rfl) rfl (zm_step (F := (FA K S V F idx)) (show F 1 ≤ 941 by omega) (show -1 ≤ ((idx : Nat) : Int) ∧ ((idx : Nat) : Int) < 941 by omega) (show -2147483648 ≤ F 6 ∧ F 6 < 2147483648 by omega) (show 0 ≤ F 1 by omega)) ⟨by decide, by decide, by decide, by decide⟩ (fun z9 Y9 hz => ?_)
        obtain ⟨rfl, rfl⟩ := hz
        have i1 : (((idx + 1) : Nat) : Int) < F 1 := by
          have h9 := hTs idx hi (by omega) (by omega)
          omega
        have t1 := hTk (idx + 1) i1
        rw [FA_step hF6 (by omega)]
        refine zg_blk pok2 X 1 [] (S' := (43, [(3, zI (V idx)), (0, zR (a 2)), (1, zI z1), (2, zI z2)], [zI (V idx)], (tW a (FA K S V F (idx + 1)) B K S V))) rfl trivial ?_
        refine zg_reti X hR rfl rfl (by decide) (by decide) ?_
        refine Or.inl ⟨?_, rfl, rfl⟩
        unfold nmF
        rw [if_pos (by omega), if_pos (by omega)]
      · simp only [x_ncd] at g3
        refine zg_blk pok2 X 2 [] (S' := (33, [(3, zI (V idx)), (0, zR (a 2)), (1, zI z1), (2, zI z2)], [zI 2, zR (a 2)], (tW a (FA K S V F idx) B K S V))) rfl trivial ?_
        refine zg_callV pok2 EWX_ok X 2 (vas := [zI 2]) (vr := []) (Y1 := (tW a (FA K S V F idx) B K S V)) (Y2 := []) rfl rfl (Or.inl rfl) zj_X10_fail rfl rfl rfl rfl (Nat.le_of_ble_eq_true rfl) rfl (zm_fail (F := (FA K S V F idx)) (show -2147483648 ≤ F 6 ∧ F 6 < 2147483648 by omega)) ⟨by decide, by decide, by decide, by decide⟩ (fun z9 Y9 hz => ?_)
        obtain ⟨rfl, rfl⟩ := hz
        have hfd := FA_fail (K := K) (S := S) (V := V) (F := F) (idx := idx) (m := 2) hF6 (by decide) (by decide)
        refine zg_blk pok2 X 1 [] (S' := (37, [(3, zI (V idx)), (0, zR (a 2)), (1, zI z1), (2, zI z2)], [zI (-1)], (tW a (failF 2 (FA K S V F idx)) B K S V))) rfl trivial ?_
        refine zg_reti X hR rfl rfl (by decide) (by decide) ?_
        refine Or.inr ⟨?_, rfl, _, ?_, rfl⟩
        · unfold nmF
          first | (rw [if_neg (by omega)]; decide) | (rw [if_pos (by omega), if_neg (by omega)]; decide)
        · unfold nmF
          first | (rw [if_neg (by omega)]; exact hfd) | (rw [if_pos (by omega), if_neg (by omega)]; exact hfd)
  · simp only [x_ncd] at g1
    refine zg_blk pok2 X 2 [] (S' := (10, [(0, zR (a 2)), (1, zI z1), (2, zI z2)], [zI 1, zR (a 2)], (tW a (FA K S V F idx) B K S V))) rfl trivial ?_
    refine zg_callV pok2 EWX_ok X 2 (vas := [zI 1]) (vr := []) (Y1 := (tW a (FA K S V F idx) B K S V)) (Y2 := []) rfl rfl (Or.inl rfl) zj_X10_fail rfl rfl rfl rfl (Nat.le_of_ble_eq_true rfl) rfl (zm_fail (F := (FA K S V F idx)) (show -2147483648 ≤ F 6 ∧ F 6 < 2147483648 by omega)) ⟨by decide, by decide, by decide, by decide⟩ (fun z9 Y9 hz => ?_)
    obtain ⟨rfl, rfl⟩ := hz
    have hfd := FA_fail (K := K) (S := S) (V := V) (F := F) (idx := idx) (m := 1) hF6 (by decide) (by decide)
    refine zg_blk pok2 X 1 [] (S' := (14, [(0, zR (a 2)), (1, zI z1), (2, zI z2)], [zI (-1)], (tW a (failF 1 (FA K S V F idx)) B K S V))) rfl trivial ?_
    refine zg_reti X hR rfl rfl (by decide) (by decide) ?_
    refine Or.inr ⟨?_, rfl, _, ?_, rfl⟩
    · unfold nmF
      first | (rw [if_neg (by omega)]; decide) | (rw [if_pos (by omega), if_neg (by omega)]; decide)
    · unfold nmF
      first | (rw [if_neg (by omega)]; exact hfd) | (rw [if_pos (by omega), if_neg (by omega)]; exact hfd)
set_option maxRecDepth 4000 in
theorem zm_takeSignA {z1 : Int} (hz1 : 4 < z1 ∧ z1 < 63) (hT : TT F K S V) (hi : (idx : Int) < F 1) : ZMet (EWX xs) D cy l ex mt2_X10_takeSign (1, 0, 0, 21) (tW a (FA K S V F idx) B K S V) [zR (a 2), zI z1] (fun z Y => z = none ∧ ((K idx = z1 ∧ Y = (tW a (FA K S V F (idx + 1)) B K S V)) ∨ (¬ K idx = z1 ∧ ∃ F9, fd F9 1 (S idx) ∧ Y = (tW a F9 B K S V)))) := by
  obtain ⟨mok, tok, ow⟩ := pok2.1 _ _ zj_X10_takeSign
  refine met_ofz EWX_ok mok tok ow (Nat.le_of_ble_eq_true rfl) (fun r p0 e0 s0 m0 ar0 be0 me0 c0 A0 Q0 X hR => ?_)
  obtain ⟨hF6, hF1a, hF1b, hTs, hTk⟩ := hT
  have t0 := hTk idx hi
  refine zg_blk pok2 X 3 [2] (S' := (5, [(0, zR (a 2)), (1, zI z1)], [zI z1, zI (K idx)], (tW a (FA K S V F idx) B K S V))) rfl ⟨rfl, trivial⟩ ?_
  refine zg_icmp X 15 rfl rfl (by unfold zin; omega) (by unfold zin; omega) (fun g1 => ?_) (fun g1 => ?_)
  · simp only [x_cnd] at g1
    refine zg_blk pok2 X 2 [] (S' := (17, [(0, zR (a 2)), (1, zI z1)], [zI 1, zR (a 2)], (tW a (FA K S V F idx) B K S V))) rfl trivial ?_
    refine zg_callV pok2 EWX_ok X 2 (vas := [zI 1]) (vr := []) (Y1 := (tW a (FA K S V F idx) B K S V)) (Y2 := []) rfl rfl (Or.inl rfl) zj_X10_fail rfl rfl rfl rfl (Nat.le_of_ble_eq_true rfl) rfl (zm_fail (F := (FA K S V F idx)) (show -2147483648 ≤ F 6 ∧ F 6 < 2147483648 by omega)) ⟨by decide, by decide, by decide, by decide⟩ (fun z9 Y9 hz => ?_)
    obtain ⟨rfl, rfl⟩ := hz
    have hfd := FA_fail (K := K) (S := S) (V := V) (F := F) (idx := idx) (m := 1) hF6 (by decide) (by decide)
    refine zg_retv X hR rfl rfl (by decide) (by decide) ?_
    exact ⟨rfl, Or.inr ⟨by omega, _, hfd, rfl⟩⟩
  · simp only [x_ncd] at g1
    refine zg_blk pok2 X 1 [] (S' := (9, [(0, zR (a 2)), (1, zI z1)], [zR (a 2)], (tW a (FA K S V F idx) B K S V))) rfl trivial ?_
    refine zg_callV pok2 EWX_ok X 2 (vas := []) (vr := []) (Y1 := (tW a (FA K S V F idx) B K S V)) (Y2 := []) rfl rfl (Or.inl rfl) zj_X10_step rfl rfl rfl rfl (Nat.le_of_ble_eq_true rfl) rfl (zm_step (F := (FA K S V F idx)) (show F 1 ≤ 941 by omega) (show -1 ≤ ((idx : Nat) : Int) ∧ ((idx : Nat) : Int) < 941 by omega) (show -2147483648 ≤ F 6 ∧ F 6 < 2147483648 by omega) (show 0 ≤ F 1 by omega)) ⟨by decide, by decide, by decide, by decide⟩ (fun z9 Y9 hz => ?_)
    obtain ⟨rfl, rfl⟩ := hz
    have i1 : (((idx + 1) : Nat) : Int) < F 1 := by
      have h9 := hTs idx hi (by omega) (by omega)
      omega
    have t1 := hTk (idx + 1) i1
    rw [FA_step hF6 (by omega)]
    refine zg_blk pok2 X 1 [] (S' := (20, [(0, zR (a 2)), (1, zI z1)], [], (tW a (FA K S V F (idx + 1)) B K S V))) rfl trivial ?_
    refine zg_retv X hR rfl rfl (by decide) (by decide) ?_
    exact ⟨rfl, Or.inl ⟨by omega, rfl⟩⟩
set_option maxRecDepth 4000 in
theorem zj_X1_toldHere : PR2[222]? = some mt2_X1_toldHere := rfl
set_option maxRecDepth 4000 in
theorem zm_toldHereA {sN : Nat} (hs : sN < 4) (hCN : ∀ s, s < 4 → 0 ≤ CN s ∧ CN s ≤ 10) (hNM : ∀ k, zin64 (NM k)) (hU : Uq CN NM) (hT : TT F K S V) (hi : (idx : Int) < F 1) : ZMet (EWX xs) D cy l ex mt2_X1_toldHere (1, 0, 0, 24) (tW a (FA K S V F idx) B K S V ++ cW c G CN NM MK TP PP CO KN) [zR (c 0), zR (a 2), zI (sN : Int)] (fun z Y => (tdF K V CN NM sN idx = 0 ∧ z = some (zI (lkS CN NM sN (V idx))) ∧ Y = (tW a (FA K S V F idx) B K S V ++ cW c G CN NM MK TP PP CO KN)) ∨ (¬ tdF K V CN NM sN idx = 0 ∧ z = some (zI (-1)) ∧ ∃ F9, fd F9 (tdF K V CN NM sN idx) (S idx) ∧ Y = (tW a F9 B K S V ++ cW c G CN NM MK TP PP CO KN))) := by
  obtain ⟨mok, tok, ow⟩ := pok2.1 _ _ zj_X1_toldHere
  refine met_ofz EWX_ok mok tok ow (Nat.le_of_ble_eq_true rfl) (fun r p0 e0 s0 m0 ar0 be0 me0 c0 A0 Q0 X hR => ?_)
  obtain ⟨hF6, hF1a, hF1b, hTs, hTk⟩ := hT
  have t0 := hTk idx hi
  refine zg_blk pok2 X 3 [2] (S' := (5, [(0, zR (c 0)), (1, zR (a 2)), (2, zI (sN : Int))], [zI 1, zI (K idx)], ((tW a (FA K S V F idx) B K S V) ++ (cW c G CN NM MK TP PP CO KN)))) rfl ⟨rfl, trivial⟩ ?_
  refine zg_icmp X 15 rfl rfl (by first | (unfold zin; omega) | (have h9 := z_d10 (z := fnd CN NM (V idx)) (by omega) (by omega); unfold zin; omega)) (by first | (unfold zin; omega) | (have h9 := z_d10 (z := fnd CN NM (V idx)) (by omega) (by omega); unfold zin; omega)) (fun g1 => ?_) (fun g1 => ?_)
  · simp only [x_cnd] at g1
    refine zg_blk pok2 X 3 [2] (S' := (20, [(0, zR (c 0)), (1, zR (a 2)), (2, zI (sN : Int))], [zL (V idx), zR (c 0)], ((tW a (FA K S V F idx) B K S V) ++ (cW c G CN NM MK TP PP CO KN)))) rfl ⟨rfl, trivial⟩ ?_
    refine zg_callV pok2 EWX_ok X 6 (vas := [zL (V idx)]) (vr := []) (Y1 := ((tW a (FA K S V F idx) B K S V) ++ (cW c G CN NM MK TP PP CO KN))) (Y2 := []) rfl rfl (Or.inl rfl) zj_X1_find rfl rfl rfl rfl (Nat.le_of_ble_eq_true rfl) rfl (zm_find hCN hNM ((hTk idx hi).2.2.1 (by omega))) ⟨by decide, by decide, by decide, by decide⟩ (fun z9 Y9 hz => ?_)
    obtain ⟨rfl, rfl⟩ := hz
    have hfo := fnd_ok (s := sN) (key := V idx) hCN hU (by omega)
    refine zg_blk pok2 X 3 [] (S' := (26, [(3, zI (fnd CN NM (V idx))), (0, zR (c 0)), (1, zR (a 2)), (2, zI (sN : Int))], [zI (-1), zI (fnd CN NM (V idx))], ((tW a (FA K S V F idx) B K S V) ++ (cW c G CN NM MK TP PP CO KN)))) rfl trivial ?_
    refine zg_icmp X 37 rfl rfl (by first | (unfold zin; omega) | (have h9 := z_d10 (z := fnd CN NM (V idx)) (by omega) (by omega); unfold zin; omega)) (by first | (unfold zin; omega) | (have h9 := z_d10 (z := fnd CN NM (V idx)) (by omega) (by omega); unfold zin; omega)) (fun g2 => ?_) (fun g2 => ?_)
    · simp only [x_cnd] at g2
      refine zg_blk pok2 X 2 [] (S' := (39, [(3, zI (fnd CN NM (V idx))), (0, zR (c 0)), (1, zR (a 2)), (2, zI (sN : Int))], [zI 3, zR (a 2)], ((tW a (FA K S V F idx) B K S V) ++ (cW c G CN NM MK TP PP CO KN)))) rfl trivial ?_
      refine zg_callV pok2 EWX_ok X 2 (vas := [zI 3]) (vr := []) (Y1 := (tW a (FA K S V F idx) B K S V)) (Y2 := (cW c G CN NM MK TP PP CO KN)) rfl rfl (Or.inl rfl) zj_X10_fail rfl rfl rfl rfl (Nat.le_of_ble_eq_true rfl) rfl (zm_fail (F := (FA K S V F idx)) (show -2147483648 ≤ F 6 ∧ F 6 < 2147483648 by omega)) ⟨by decide, by decide, by decide, by decide⟩ (fun z9 Y9 hz => ?_)
      obtain ⟨rfl, rfl⟩ := hz
      have hfd := FA_fail (K := K) (S := S) (V := V) (F := F) (idx := idx) (m := 3) hF6 (by decide) (by decide)
      refine zg_blk pok2 X 1 [] (S' := (43, [(3, zI (fnd CN NM (V idx))), (0, zR (c 0)), (1, zR (a 2)), (2, zI (sN : Int))], [zI (-1)], ((tW a (failF 3 (FA K S V F idx)) B K S V) ++ (cW c G CN NM MK TP PP CO KN)))) rfl trivial ?_
      refine zg_reti X hR rfl rfl (by decide) (by decide) ?_
      have e9 : tdF K V CN NM sN idx = 3 := by unfold tdF; rw [if_pos (by omega), if_pos (by omega)]
      exact Or.inr ⟨by omega, rfl, _, by rw [e9]; exact hfd, rfl⟩
    · simp only [x_ncd] at g2
      refine zg_blk pok2 X 4 [] (S' := (34, [(3, zI (fnd CN NM (V idx))), (0, zR (c 0)), (1, zR (a 2)), (2, zI (sN : Int))], [zI (sN : Int), zI (zdiv (fnd CN NM (V idx)) 10)], ((tW a (FA K S V F idx) B K S V) ++ (cW c G CN NM MK TP PP CO KN)))) rfl ⟨(by decide), trivial⟩ ?_
      refine zg_icmp X 44 rfl rfl (by first | (unfold zin; omega) | (have h9 := z_d10 (z := fnd CN NM (V idx)) (by omega) (by omega); unfold zin; omega)) (by first | (unfold zin; omega) | (have h9 := z_d10 (z := fnd CN NM (V idx)) (by omega) (by omega); unfold zin; omega)) (fun g3 => ?_) (fun g3 => ?_)
      · simp only [x_cnd] at g3
        refine zg_blk pok2 X 3 [] (S' := (48, [(3, zI (fnd CN NM (V idx))), (0, zR (c 0)), (1, zR (a 2)), (2, zI (sN : Int))], [zI (zrem (fnd CN NM (V idx)) 10)], ((tW a (FA K S V F idx) B K S V) ++ (cW c G CN NM MK TP PP CO KN)))) rfl ⟨(by decide), trivial⟩ ?_
        refine zg_reti X hR rfl rfl (by decide) (by decide) ?_
        have e9 : tdF K V CN NM sN idx = 0 := by unfold tdF; rw [if_pos (by omega), if_neg (by omega)]
        refine Or.inl ⟨e9, ?_, rfl⟩
        rw [(hfo.2.2.2 (by omega)).2 (by omega)]
      · simp only [x_ncd] at g3
        refine zg_blk pok2 X 2 [] (S' := (39, [(3, zI (fnd CN NM (V idx))), (0, zR (c 0)), (1, zR (a 2)), (2, zI (sN : Int))], [zI 3, zR (a 2)], ((tW a (FA K S V F idx) B K S V) ++ (cW c G CN NM MK TP PP CO KN)))) rfl trivial ?_
        refine zg_callV pok2 EWX_ok X 2 (vas := [zI 3]) (vr := []) (Y1 := (tW a (FA K S V F idx) B K S V)) (Y2 := (cW c G CN NM MK TP PP CO KN)) rfl rfl (Or.inl rfl) zj_X10_fail rfl rfl rfl rfl (Nat.le_of_ble_eq_true rfl) rfl (zm_fail (F := (FA K S V F idx)) (show -2147483648 ≤ F 6 ∧ F 6 < 2147483648 by omega)) ⟨by decide, by decide, by decide, by decide⟩ (fun z9 Y9 hz => ?_)
        obtain ⟨rfl, rfl⟩ := hz
        have hfd := FA_fail (K := K) (S := S) (V := V) (F := F) (idx := idx) (m := 3) hF6 (by decide) (by decide)
        refine zg_blk pok2 X 1 [] (S' := (43, [(3, zI (fnd CN NM (V idx))), (0, zR (c 0)), (1, zR (a 2)), (2, zI (sN : Int))], [zI (-1)], ((tW a (failF 3 (FA K S V F idx)) B K S V) ++ (cW c G CN NM MK TP PP CO KN)))) rfl trivial ?_
        refine zg_reti X hR rfl rfl (by decide) (by decide) ?_
        have e9 : tdF K V CN NM sN idx = 3 := by unfold tdF; rw [if_pos (by omega), if_pos (by omega)]
        exact Or.inr ⟨by omega, rfl, _, by rw [e9]; exact hfd, rfl⟩
  · simp only [x_ncd] at g1
    refine zg_blk pok2 X 2 [] (S' := (10, [(0, zR (c 0)), (1, zR (a 2)), (2, zI (sN : Int))], [zI 1, zR (a 2)], ((tW a (FA K S V F idx) B K S V) ++ (cW c G CN NM MK TP PP CO KN)))) rfl trivial ?_
    refine zg_callV pok2 EWX_ok X 2 (vas := [zI 1]) (vr := []) (Y1 := (tW a (FA K S V F idx) B K S V)) (Y2 := (cW c G CN NM MK TP PP CO KN)) rfl rfl (Or.inl rfl) zj_X10_fail rfl rfl rfl rfl (Nat.le_of_ble_eq_true rfl) rfl (zm_fail (F := (FA K S V F idx)) (show -2147483648 ≤ F 6 ∧ F 6 < 2147483648 by omega)) ⟨by decide, by decide, by decide, by decide⟩ (fun z9 Y9 hz => ?_)
    obtain ⟨rfl, rfl⟩ := hz
    have hfd := FA_fail (K := K) (S := S) (V := V) (F := F) (idx := idx) (m := 1) hF6 (by decide) (by decide)
    refine zg_blk pok2 X 1 [] (S' := (14, [(0, zR (c 0)), (1, zR (a 2)), (2, zI (sN : Int))], [zI (-1)], ((tW a (failF 1 (FA K S V F idx)) B K S V) ++ (cW c G CN NM MK TP PP CO KN)))) rfl trivial ?_
    refine zg_reti X hR rfl rfl (by decide) (by decide) ?_
    have e9 : tdF K V CN NM sN idx = 1 := by unfold tdF; rw [if_neg (by omega)]
    exact Or.inr ⟨by omega, rfl, _, by rw [e9]; exact hfd, rfl⟩
set_option maxRecDepth 4000 in
theorem zm_toldHereX {z1 : Int} (hfd : fd F1 kd pl) : ZMet (EWX xs) D cy l ex mt2_X1_toldHere (1, 0, 0, 24) (tW a F1 B K S V ++ cW c G CN NM MK TP PP CO KN) [zR (c 0), zR (a 2), zI z1] (fun z Y => z = some (zI (-1)) ∧ ∃ F9, fd F9 kd pl ∧ Y = (tW a F9 B K S V ++ cW c G CN NM MK TP PP CO KN)) := by
  obtain ⟨mok, tok, ow⟩ := pok2.1 _ _ zj_X1_toldHere
  refine met_ofz EWX_ok mok tok ow (Nat.le_of_ble_eq_true rfl) (fun r p0 e0 s0 m0 ar0 be0 me0 c0 A0 Q0 X hR => ?_)
  refine zg_blk pok2 X 3 [2] (S' := (5, [(0, zR (c 0)), (1, zR (a 2)), (2, zI z1)], [zI 1, zI (F1 3)], ((tW a F1 B K S V) ++ (cW c G CN NM MK TP PP CO KN)))) rfl ⟨rfl, trivial⟩ ?_
  refine zg_icmp X 15 rfl rfl (by first | (unfold zin; omega) | (have h9 := hfd.2.2.2.1; unfold zin; omega)) (by first | (unfold zin; omega) | (have h9 := hfd.2.2.2.1; unfold zin; omega)) (fun g1 => ?_) (fun g1 => ?_)
  · simp only [x_cnd] at g1
    exfalso
    have h9 := hfd.2.2.2.1
    omega
  · simp only [x_ncd] at g1
    refine zg_blk pok2 X 2 [] (S' := (10, [(0, zR (c 0)), (1, zR (a 2)), (2, zI z1)], [zI 1, zR (a 2)], ((tW a F1 B K S V) ++ (cW c G CN NM MK TP PP CO KN)))) rfl trivial ?_
    refine zg_callV pok2 EWX_ok X 2 (vas := [zI 1]) (vr := []) (Y1 := (tW a F1 B K S V)) (Y2 := (cW c G CN NM MK TP PP CO KN)) rfl rfl (Or.inl rfl) zj_X10_fail rfl rfl rfl rfl (Nat.le_of_ble_eq_true rfl) rfl (zm_fail (F := F1) (by have h1 := hfd.1; have h2 := hfd.2.2.2.2; omega)) ⟨by decide, by decide, by decide, by decide⟩ (fun z9 Y9 hz => ?_)
    obtain ⟨rfl, rfl⟩ := hz
    replace hfd := fd_fail (m := 1) hfd
    refine zg_blk pok2 X 1 [] (S' := (14, [(0, zR (c 0)), (1, zR (a 2)), (2, zI z1)], [zI (-1)], ((tW a (failF 1 F1) B K S V) ++ (cW c G CN NM MK TP PP CO KN)))) rfl trivial ?_
    refine zg_reti X hR rfl rfl (by decide) (by decide) ?_
    exact ⟨rfl, _, hfd, rfl⟩
end ZD
