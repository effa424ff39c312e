/-! the class's text: all its tokens (written by wip/p4/g4.py) -/
def PX (P : Nat → Int) (k : Nat) (e : Int) : Nat → Int := fun q => if q ≤ k then P q else e
theorem PX_le {P : Nat → Int} {k q : Nat} {e : Int} (h : q ≤ k) : PX P k e q = P q := if_pos h
theorem PX_gt {P : Nat → Int} {k : Nat} {e : Int} : PX P k e (k + 1) = e := if_neg (by omega)
theorem TokS_ext {b : Int → Int} {n lim : Int} {k : Nat} {P K S V K1 S1 V1 : Nat → Int} {e : Int} (h : ∀ j, j < k → Tok b n lim (P j) (K j) (S j) (V j) (P (j + 1))) (hK : ∀ j, ¬ j = k → K1 j = K j) (hS : ∀ j, ¬ j = k → S1 j = S j) (hV : ∀ j, ¬ j = k → V1 j = V j) (ht : Tok b n lim (P k) (K1 k) (S1 k) (V1 k) e) : ∀ j, j < k + 1 → Tok b n lim (PX P k e j) (K1 j) (S1 j) (V1 j) (PX P k e (j + 1)) := by
  intro j hj
  rcases (show j < k ∨ j = k by omega) with h1 | rfl
  · rw [PX_le (by omega), PX_le (by omega), hK j (by omega), hS j (by omega), hV j (by omega)]
    exact h j h1
  · rw [PX_le (Nat.le_refl _), PX_gt]
    exact ht
theorem OpenT_ext {b : Int → Int} {n lim : Int} {k : Nat} {P K S V K1 S1 V1 : Nat → Int} {e : Int} (h0 : P 0 = 0) (h : ∀ j, j < k → Tok b n lim (P j) (K j) (S j) (V j) (P (j + 1))) (h1 : ∀ j, j < k → ¬ K j = 0 ∧ ¬ K j = 4) (h2 : ∀ j, j ≤ k → 0 ≤ P j ∧ P j ≤ n) (hK : ∀ j, ¬ j = k → K1 j = K j) (hS : ∀ j, ¬ j = k → S1 j = S j) (hV : ∀ j, ¬ j = k → V1 j = V j) (ht : Tok b n lim (P k) (K1 k) (S1 k) (V1 k) e) (hk : K1 k = 0 ∨ K1 k = 4) (h9 : k ≤ 940) : OpenT b n lim k (PX P k e) K1 S1 V1 := by
  refine ⟨?_, fun j hj => TokS_ext h hK hS hV ht j (by omega), fun j hj => ?_, hk, h9, fun j hj => ?_⟩
  · rw [PX_le (Nat.zero_le _)]
    exact h0
  · rw [hK j (by omega)]
    exact h1 j hj
  · rw [PX_le hj]
    exact h2 j hj
section ZW9
variable {xs : Nat → Int32} {D : va_G} {cy : Nat → ClassId} {l : Launch} {ex : Nat → Nat} {a : Nat → Nat} {F B K S V : Nat → Int} {Y0 : ZW}
theorem zm_minL {z1 z2 : Int} (hz1 : -2147483648 ≤ z1 ∧ z1 < 2147483648) (hz2 : -2147483648 ≤ z2 ∧ z2 < 2147483648) (h12 : z1 ≤ z2) : ZMet (EWX xs) D cy l ex mt2_J9_min_7cf53 (0, 0, 0, 0) Y0 [zI z1, zI z2] (fun z Y => z = some (zI z1) ∧ Y = Y0) := by
  obtain ⟨mok, tok, ow⟩ := pok2.1 _ _ zj_J9_min_7cf53
  refine met_ofz EWX_ok mok tok ow (Nat.le_of_ble_eq_true rfl) (fun r p0 e0 s0 m0 ar0 be0 me0 c0 A0 Q0 X hR => ?_)
  refine zg_blk pok2 X 2 [] (S' := (2, [(0, zI z1), (1, zI z2)], [zI z2, zI z1], Y0)) rfl trivial ?_
  refine zg_icmp X 9 rfl rfl (by unfold zin; omega) (by unfold zin; omega) (fun g1 => ?_) (fun g1 => ?_)
  · simp only [x_cnd] at g1
    refine zg_blk pok2 X 1 [] (S' := (10, [(0, zI z1), (1, zI z2)], [zI z2], Y0)) rfl trivial ?_
    refine zg_reti X hR rfl rfl (by decide) (by decide) ?_
    first | exact ⟨rfl, rfl⟩ | exact ⟨by rw [show z1 = z2 by omega], rfl⟩
  · simp only [x_ncd] at g1
    refine zg_blk pok2 X 2 [] (S' := (10, [(0, zI z1), (1, zI z2)], [zI z1], Y0)) rfl trivial ?_
    refine zg_reti X hR rfl rfl (by decide) (by decide) ?_
    first | exact ⟨rfl, rfl⟩ | exact ⟨by rw [show z1 = z2 by omega], rfl⟩
set_option maxRecDepth 4000 in
theorem zj_X10_open : PR2[23]? = some mt2_X10_open := rfl
theorem zm_open {lim : Int} (hlim : 0 ≤ lim ∧ lim ≤ 1000) (hB : ∀ k, -128 ≤ B k ∧ B k ≤ 127) (hn : 0 ≤ F 0 ∧ F 0 ≤ 940) : ZMet (EWX xs) D cy l ex mt2_X10_open (10, 0, 0, 283) (tW a F B K S V) [zR (a 2), zI lim] (fun z Y => z = none ∧ ∃ (k : Nat) (P K9 S9 V9 : Nat → Int), OpenT (tb B (F 0)) (F 0) lim k P K9 S9 V9 ∧ Y = tW a (stepF K9 S9 V9 (zup (zup (zup (zup F 1 ((k : Int) + 1)) 2 (-1)) 6 0) 7 0)) B K9 S9 V9) := by
  obtain ⟨mok, tok, ow⟩ := pok2.1 _ _ zj_X10_open
  refine met_ofz EWX_ok mok tok ow (Nat.le_of_ble_eq_true rfl) (fun r p0 e0 s0 m0 ar0 be0 me0 c0 A0 Q0 X hR => ?_)
  have fin9 : ∀ (k : Nat) (P K S V : Nat → Int) (pl : Int), OpenT (tb B (F 0)) (F 0) lim k P K S V → ZG D cy r mt2_X10_open p0 l e0 (rmR (10, 0, 0, 283)) s0 m0 ar0 be0 me0 c0 A0 Q0 0 0 (9, [(0, zR (a 2)), (1, zI lim), (2, zI pl), (3, zI 0)], [], tW a (zup F 1 ((k : Int) + 1)) B K S V) := by
    intro k P K S V pl hO
    have hk4 := hO.2.2.2.2.1
    refine zg_blk pok2 X 1 [] (S' := (10, [(0, zR (a 2)), (1, zI lim), (2, zI pl), (3, zI 0)], [zI 0], (tW a (zup F 1 ((k : Int) + 1)) B K S V))) rfl trivial ?_
    refine zg_if X 161 rfl rfl (by unfold zin; omega) (fun g1 => ?_) (fun g1 => ?_)
    · simp only [x_cnd] at g1
      refine zg_blk pok2 X 10 [2, 2, 2] (S' := (177, [(0, zR (a 2)), (1, zI lim), (2, zI pl), (3, zI 0)], [zR (a 2)], (tW a (zup (zup (zup (zup F 1 ((k : Int) + 1)) 2 (-1)) 6 0) 7 0) B K S V))) rfl ⟨rfl, rfl, rfl, rfl, rfl, rfl, rfl, rfl, rfl, trivial⟩ ?_
      refine zg_callV pok2 EWX_ok X 2 (vas := []) (vr := []) (Y1 := (tW a (zup (zup (zup (zup F 1 ((k : Int) + 1)) 2 (-1)) 6 0) 7 0) B K S V)) (Y2 := []) rfl rfl (Or.inl rfl) zj_X10_step rfl rfl rfl rfl (Nat.le_of_ble_eq_true rfl) rfl (zm_step (F := (zup (zup (zup (zup F 1 ((k : Int) + 1)) 2 (-1)) 6 0) 7 0)) (show (k : Int) + 1 ≤ 941 by omega) (show -1 ≤ (-1 : Int) ∧ (-1 : Int) < 941 by omega) (show -2147483648 ≤ (0 : Int) ∧ (0 : Int) < 2147483648 by omega) (show 0 ≤ (k : Int) + 1 by omega)) ⟨by decide, by decide, by decide, by decide⟩ (fun z9 Y9 hz => ?_)
      obtain ⟨rfl, rfl⟩ := hz
      refine zg_retv X hR rfl rfl (by decide) (by decide) ?_
      exact ⟨rfl, k, P, K, S, V, hO, rfl⟩
    · exact absurd (show ¬ (0 : Int) = (0 : Int) from g1) (by decide)
  have loop : ∀ (t k : Nat) (P K S V : Nat → Int), P 0 = 0 → (∀ j, j < k → Tok (tb B (F 0)) (F 0) lim (P j) (K j) (S j) (V j) (P (j + 1))) → (∀ j, j < k → ¬ K j = 0 ∧ ¬ K j = 4) → (∀ j, j ≤ k → 0 ≤ P j ∧ P j ≤ F 0) → (k : Int) ≤ P k → 941 - (k : Int) < t → ZG D cy r mt2_X10_open p0 l e0 (rmR (10, 0, 0, 283)) s0 m0 ar0 be0 me0 c0 A0 Q0 0 0 (9, [(0, zR (a 2)), (1, zI lim), (2, zI (P k)), (3, zI 1)], [], tW a (zup F 1 (k : Int)) B K S V) := by
    intro t
    induction t with
    | zero =>
      intro k P K S V h1 h2 h3 h5 h6 h7
      have hPk := h5 k (Nat.le_refl k)
      omega
    | succ t ih =>
      intro k P K S V h1 h2 h3 h5 h6 h7
      have hPk := h5 k (Nat.le_refl k)
      refine zg_blk pok2 X 1 [] (S' := (10, [(0, zR (a 2)), (1, zI lim), (2, zI (P k)), (3, zI 1)], [zI 1], (tW a (zup F 1 (k : Int)) B K S V))) rfl trivial ?_
      refine zg_if X 161 rfl rfl (by unfold zin; omega) (fun g1 => ?_) (fun g1 => ?_)
      · exact absurd (show (1 : Int) = (0 : Int) from g1) (by decide)
      · simp only [x_ncd] at g1
        refine zg_blk pok2 X 5 [2, 2, 3] (S' := (22, [(0, zR (a 2)), (1, zI lim), (2, zI (P k)), (3, zI 1)], [zI 941, zI (k : Int)], (tW a (zup F 1 (k : Int)) B K S V))) rfl ⟨rfl, rfl, rfl, (by decide), trivial⟩ ?_
        refine zg_icmp X 161 rfl rfl (by unfold zin; omega) (by unfold zin; omega) (fun g2 => ?_) (fun g2 => ?_)
        · simp only [x_cnd] at g2
          exfalso
          omega
        · simp only [x_ncd] at g2
          refine zg_blk pok2 X 2 [] (S' := (27, [(0, zR (a 2)), (1, zI lim), (2, zI (P k)), (3, zI 1)], [zI (P k), zR (a 2)], (tW a (zup F 1 (k : Int)) B K S V))) rfl trivial ?_
          refine zg_callV pok2 EWX_ok X 2 (vas := [zI (P k)]) (vr := []) (Y1 := (tW a (zup F 1 (k : Int)) B K S V)) (Y2 := []) rfl rfl (Or.inl rfl) zj_X10_behindBlanks rfl rfl rfl rfl (Nat.le_of_ble_eq_true rfl) rfl (zm_behindBlanks (F := (zup F 1 (k : Int))) hB hn (by omega)) ⟨by decide, by decide, by decide, by decide⟩ (fun z9 Y9 hz => ?_)
          obtain ⟨j, rfl, rfl, hsk⟩ := hz
          have hsk : Sk (tb B (F 0)) (P k) j := hsk
          have hjl := Sk_le hsk (by omega) (by omega)
          refine zg_blk pok2 X 9 [2, 2, 2, 0] (S' := (47, [(2, zI j), (0, zR (a 2)), (1, zI lim), (3, zI 1)], [zI (F 0), zI j, zI (k : Int), zR (a 4)], (tW a (zup F 1 (k : Int)) B K S V))) rfl ⟨rfl, rfl, rfl, rfl, trivial⟩ ?_
          refine zg_callS pok2 EWX_ok X (vas := [zI j, zI (F 0)]) (vr := [zI (k : Int), zR (a 4)]) (Y1 := (tW a (zup F 1 (k : Int)) B K S V)) (Y2 := []) rfl rfl (Or.inl rfl) zj_J9_min_7cf53 rfl rfl rfl (Nat.le_of_ble_eq_true rfl) rfl (zm_minL (by omega) (show -2147483648 ≤ F 0 ∧ F 0 < 2147483648 by omega) (show j ≤ F 0 by omega)) ⟨by decide, by decide, by decide, by decide⟩ (fun z9 Y9 hz => ?_)
          obtain ⟨rfl, rfl⟩ := hz
          refine zg_blk pok2 X 11 [4, 2, 2, 3, 2, 0] (S' := (69, [(2, zI j), (0, zR (a 2)), (1, zI lim), (3, zI 1)], [zI lim, zI (F 0)], (tW a (zup F 1 (k : Int)) B (zup K ((k : Int).toNat) 0) (zup S ((k : Int).toNat) j) V))) rfl ⟨rfl, rfl, (show zidx (k : Int) 941 from by unfold zidx; omega), rfl, rfl, rfl, rfl, (show zidx (k : Int) 941 from by unfold zidx; omega), rfl, rfl, trivial⟩ ?_
          refine zg_icmp X 100 rfl rfl (by unfold zin; omega) (by unfold zin; omega) (fun g3 => ?_) (fun g3 => ?_)
          · simp only [x_cnd] at g3
            refine zg_blk pok2 X 4 [2, 0] (S' := (108, [(2, zI j), (0, zR (a 2)), (1, zI lim), (3, zI 1)], [zI (F 0), zI j], (tW a (zup F 1 (k : Int)) B (zup K ((k : Int).toNat) 0) (zup S ((k : Int).toNat) j) V))) rfl ⟨rfl, rfl, trivial⟩ ?_
            refine zg_icmp X 117 rfl rfl (by unfold zin; omega) (by unfold zin; omega) (fun g4 => ?_) (fun g4 => ?_)
            · simp only [x_cnd] at g4
              refine zg_blk pok2 X 5 [2, 2, 3] (S' := (126, [(2, zI j), (0, zR (a 2)), (1, zI lim), (3, zI 1)], [zI ((zup K ((k : Int).toNat) 0) ((k : Int).toNat))], (tW a (zup F 1 (k : Int)) B (zup K ((k : Int).toNat) 0) (zup S ((k : Int).toNat) j) V))) rfl ⟨rfl, rfl, rfl, rfl, (show zidx (k : Int) 941 from by unfold zidx; omega), trivial⟩ ?_
              rw [zup_eq]
              refine zg_if X 146 rfl rfl (by unfold zin; omega) (fun g5 => ?_) (fun g5 => ?_)
              · simp only [x_cnd] at g5
                refine zg_blk pok2 X 9 [2, 2] (S' := (9, [(3, zI 0), (2, zI j), (0, zR (a 2)), (1, zI lim)], [], (tW a (zup F 1 ((k : Int) + 1)) B (zup K ((k : Int).toNat) 0) (zup S ((k : Int).toNat) j) V))) rfl ⟨rfl, rfl, rfl, rfl, trivial⟩ ?_
                have hk9 : (k : Int).toNat = k := Int.toNat_natCast k
                rw [hk9]
                have htok : Tok (tb B (F 0)) (F 0) lim (P k) ((zup K k 0) k) ((zup S k j) k) (V k) 0 := ⟨j, hsk, Or.inr (Or.inl ⟨by omega, by omega, zup_eq, by rw [zup_eq]; omega⟩)⟩
                have f9 := fin9 k (PX P k 0) (zup K k 0) (zup S k j) V j (OpenT_ext h1 h2 h3 h5 (fun q hq => by simp only [zup_ne hq]) (fun q hq => by simp only [zup_ne hq]) (fun q hq => rfl) htok (by rw [zup_eq]; omega) (by omega))
                refine zg_lv _ ?_ f9
                intro q hq
                simp only [List.mem_cons, List.not_mem_nil, or_false] at hq ⊢
                rcases hq with rfl | rfl | rfl | rfl <;> simp
              · exact absurd (show ¬ (0 : Int) = (0 : Int) from g5) (by decide)
            · simp only [x_ncd] at g4
              refine zg_blk pok2 X 2 [] (S' := (113, [(2, zI j), (0, zR (a 2)), (1, zI lim), (3, zI 1)], [zI j, zR (a 2)], (tW a (zup F 1 (k : Int)) B (zup K ((k : Int).toNat) 0) (zup S ((k : Int).toNat) j) V))) rfl trivial ?_
              refine zg_callV pok2 EWX_ok X 2 (vas := [zI j]) (vr := []) (Y1 := (tW a (zup F 1 (k : Int)) B (zup K ((k : Int).toNat) 0) (zup S ((k : Int).toNat) j) V)) (Y2 := []) rfl rfl (Or.inl rfl) zj_X10_readToken rfl rfl rfl rfl (Nat.le_of_ble_eq_true rfl) rfl (zm_readToken (F := (zup F 1 (k : Int))) hB hn (show 0 ≤ j ∧ j ≤ F 0 by omega) (show 0 ≤ (k : Int) ∧ (k : Int) < 941 by omega)) ⟨by decide, by decide, by decide, by decide⟩ (fun z9 Y9 hz => ?_)
              obtain ⟨e9, kd, V9, rfl, rfl, htk, hv9⟩ := hz
              have htk : Tk (tb B (F 0)) j e9 kd (V9 ((k : Int).toNat)) := htk
              have hv9 : ∀ q, ¬ q = ((k : Int).toNat) → V9 q = V q := hv9
              have hkd := Tk_le htk (by omega) (by omega)
              refine zg_blk pok2 X 6 [2, 2, 3] (S' := (126, [(2, zI e9), (0, zR (a 2)), (1, zI lim), (3, zI 1)], [zI ((zup (zup K ((k : Int).toNat) 0) ((k : Int).toNat) kd) ((k : Int).toNat))], (tW a (zup F 1 (k : Int)) B (zup (zup K ((k : Int).toNat) 0) ((k : Int).toNat) kd) (zup S ((k : Int).toNat) j) V9))) rfl ⟨rfl, rfl, rfl, rfl, (show zidx (k : Int) 941 from by unfold zidx; omega), trivial⟩ ?_
              rw [zup_eq]
              refine zg_if X 146 rfl rfl (by unfold zin; omega) (fun g6 => ?_) (fun g6 => ?_)
              · simp only [x_cnd] at g6
                exfalso
                omega
              · simp only [x_ncd] at g6
                refine zg_blk pok2 X 5 [2, 2, 3] (S' := (138, [(2, zI e9), (0, zR (a 2)), (1, zI lim), (3, zI 1)], [zI ((zup (zup K ((k : Int).toNat) 0) ((k : Int).toNat) kd) ((k : Int).toNat))], (tW a (zup F 1 (k : Int)) B (zup (zup K ((k : Int).toNat) 0) ((k : Int).toNat) kd) (zup S ((k : Int).toNat) j) V9))) rfl ⟨rfl, rfl, rfl, rfl, (show zidx (k : Int) 941 from by unfold zidx; omega), trivial⟩ ?_
                rw [zup_eq]
                refine zg_blk pok2 X 1 [] (S' := (139, [(2, zI e9), (0, zR (a 2)), (1, zI lim), (3, zI 1)], [zI 4, zI kd], (tW a (zup F 1 (k : Int)) B (zup (zup K ((k : Int).toNat) 0) ((k : Int).toNat) kd) (zup S ((k : Int).toNat) j) V9))) rfl trivial ?_
                refine zg_icmp X 146 rfl rfl (by unfold zin; omega) (by unfold zin; omega) (fun g7 => ?_) (fun g7 => ?_)
                · simp only [x_cnd] at g7
                  refine zg_blk pok2 X 9 [2, 2] (S' := (9, [(3, zI 0), (2, zI e9), (0, zR (a 2)), (1, zI lim)], [], (tW a (zup F 1 ((k : Int) + 1)) B (zup (zup K ((k : Int).toNat) 0) ((k : Int).toNat) kd) (zup S ((k : Int).toNat) j) V9))) rfl ⟨rfl, rfl, rfl, rfl, trivial⟩ ?_
                  have hk9 : (k : Int).toNat = k := Int.toNat_natCast k
                  rw [hk9]
                  rw [hk9] at htk hv9
                  have htok : Tok (tb B (F 0)) (F 0) lim (P k) ((zup (zup K k 0) k kd) k) ((zup S k j) k) (V9 k) e9 := ⟨j, hsk, Or.inr (Or.inr ⟨by omega, by omega, zup_eq, by rw [zup_eq]; exact htk⟩)⟩
                  have f9 := fin9 k (PX P k e9) (zup (zup K k 0) k kd) (zup S k j) V9 e9 (OpenT_ext h1 h2 h3 h5 (fun q hq => by simp only [zup_ne hq]) (fun q hq => by simp only [zup_ne hq]) hv9 htok (by rw [zup_eq]; omega) (by omega))
                  refine zg_lv _ ?_ f9
                  intro q hq
                  simp only [List.mem_cons, List.not_mem_nil, or_false] at hq ⊢
                  rcases hq with rfl | rfl | rfl | rfl <;> simp
                · simp only [x_ncd] at g7
                  refine zg_blk pok2 X 10 [2, 2] (S' := (9, [(3, zI 1), (2, zI e9), (0, zR (a 2)), (1, zI lim)], [], (tW a (zup F 1 ((k : Int) + 1)) B (zup (zup K ((k : Int).toNat) 0) ((k : Int).toNat) kd) (zup S ((k : Int).toNat) j) V9))) rfl ⟨rfl, rfl, rfl, rfl, trivial⟩ ?_
                  have hk9 : (k : Int).toNat = k := Int.toNat_natCast k
                  rw [hk9]
                  rw [hk9] at htk hv9
                  have htok : Tok (tb B (F 0)) (F 0) lim (P k) ((zup (zup K k 0) k kd) k) ((zup S k j) k) (V9 k) e9 := ⟨j, hsk, Or.inr (Or.inr ⟨by omega, by omega, zup_eq, by rw [zup_eq]; exact htk⟩)⟩
                  have ih9 := ih (k + 1) (PX P k e9) (zup (zup K k 0) k kd) (zup S k j) V9 (by rw [PX_le (Nat.zero_le _)]; exact h1) (TokS_ext h2 (fun q hq => by simp only [zup_ne hq]) (fun q hq => by simp only [zup_ne hq]) hv9 htok) (fun q hq => by
                    rcases (show q < k ∨ q = k by omega) with q1 | rfl
                    · simp only [zup_ne (show ¬ q = k by omega)]
                      exact h3 q q1
                    · rw [zup_eq]
                      omega) (fun q hq => by
                    rcases (show q ≤ k ∨ q = k + 1 by omega) with q1 | rfl
                    · rw [PX_le q1]
                      exact h5 q q1
                    · rw [PX_gt]
                      omega) (by rw [PX_gt]; omega) (by omega)
                  rw [PX_gt, show (((k + 1 : Nat)) : Int) = (k : Int) + 1 by omega] at ih9
                  refine zg_lv _ ?_ ih9
                  intro q hq
                  simp only [List.mem_cons, List.not_mem_nil, or_false] at hq ⊢
                  rcases hq with rfl | rfl | rfl | rfl <;> simp
          · simp only [x_ncd] at g3
            refine zg_blk pok2 X 2 [] (S' := (74, [(2, zI j), (0, zR (a 2)), (1, zI lim), (3, zI 1)], [zI lim, zI j], (tW a (zup F 1 (k : Int)) B (zup K ((k : Int).toNat) 0) (zup S ((k : Int).toNat) j) V))) rfl trivial ?_
            refine zg_icmp X 100 rfl rfl (by unfold zin; omega) (by unfold zin; omega) (fun g8 => ?_) (fun g8 => ?_)
            · simp only [x_cnd] at g8
              refine zg_blk pok2 X 4 [2, 0] (S' := (108, [(2, zI j), (0, zR (a 2)), (1, zI lim), (3, zI 1)], [zI (F 0), zI j], (tW a (zup F 1 (k : Int)) B (zup K ((k : Int).toNat) 0) (zup S ((k : Int).toNat) j) V))) rfl ⟨rfl, rfl, trivial⟩ ?_
              refine zg_icmp X 117 rfl rfl (by unfold zin; omega) (by unfold zin; omega) (fun g9 => ?_) (fun g9 => ?_)
              · simp only [x_cnd] at g9
                refine zg_blk pok2 X 5 [2, 2, 3] (S' := (126, [(2, zI j), (0, zR (a 2)), (1, zI lim), (3, zI 1)], [zI ((zup K ((k : Int).toNat) 0) ((k : Int).toNat))], (tW a (zup F 1 (k : Int)) B (zup K ((k : Int).toNat) 0) (zup S ((k : Int).toNat) j) V))) rfl ⟨rfl, rfl, rfl, rfl, (show zidx (k : Int) 941 from by unfold zidx; omega), trivial⟩ ?_
                rw [zup_eq]
                refine zg_if X 146 rfl rfl (by unfold zin; omega) (fun g10 => ?_) (fun g10 => ?_)
                · simp only [x_cnd] at g10
                  refine zg_blk pok2 X 9 [2, 2] (S' := (9, [(3, zI 0), (2, zI j), (0, zR (a 2)), (1, zI lim)], [], (tW a (zup F 1 ((k : Int) + 1)) B (zup K ((k : Int).toNat) 0) (zup S ((k : Int).toNat) j) V))) rfl ⟨rfl, rfl, rfl, rfl, trivial⟩ ?_
                  have hk9 : (k : Int).toNat = k := Int.toNat_natCast k
                  rw [hk9]
                  have htok : Tok (tb B (F 0)) (F 0) lim (P k) ((zup K k 0) k) ((zup S k j) k) (V k) 0 := ⟨j, hsk, Or.inr (Or.inl ⟨by omega, by omega, zup_eq, by rw [zup_eq]; omega⟩)⟩
                  have f9 := fin9 k (PX P k 0) (zup K k 0) (zup S k j) V j (OpenT_ext h1 h2 h3 h5 (fun q hq => by simp only [zup_ne hq]) (fun q hq => by simp only [zup_ne hq]) (fun q hq => rfl) htok (by rw [zup_eq]; omega) (by omega))
                  refine zg_lv _ ?_ f9
                  intro q hq
                  simp only [List.mem_cons, List.not_mem_nil, or_false] at hq ⊢
                  rcases hq with rfl | rfl | rfl | rfl <;> simp
                · exact absurd (show ¬ (0 : Int) = (0 : Int) from g10) (by decide)
              · simp only [x_ncd] at g9
                refine zg_blk pok2 X 2 [] (S' := (113, [(2, zI j), (0, zR (a 2)), (1, zI lim), (3, zI 1)], [zI j, zR (a 2)], (tW a (zup F 1 (k : Int)) B (zup K ((k : Int).toNat) 0) (zup S ((k : Int).toNat) j) V))) rfl trivial ?_
                refine zg_callV pok2 EWX_ok X 2 (vas := [zI j]) (vr := []) (Y1 := (tW a (zup F 1 (k : Int)) B (zup K ((k : Int).toNat) 0) (zup S ((k : Int).toNat) j) V)) (Y2 := []) rfl rfl (Or.inl rfl) zj_X10_readToken rfl rfl rfl rfl (Nat.le_of_ble_eq_true rfl) rfl (zm_readToken (F := (zup F 1 (k : Int))) hB hn (show 0 ≤ j ∧ j ≤ F 0 by omega) (show 0 ≤ (k : Int) ∧ (k : Int) < 941 by omega)) ⟨by decide, by decide, by decide, by decide⟩ (fun z9 Y9 hz => ?_)
                obtain ⟨e9, kd, V9, rfl, rfl, htk, hv9⟩ := hz
                have htk : Tk (tb B (F 0)) j e9 kd (V9 ((k : Int).toNat)) := htk
                have hv9 : ∀ q, ¬ q = ((k : Int).toNat) → V9 q = V q := hv9
                have hkd := Tk_le htk (by omega) (by omega)
                refine zg_blk pok2 X 6 [2, 2, 3] (S' := (126, [(2, zI e9), (0, zR (a 2)), (1, zI lim), (3, zI 1)], [zI ((zup (zup K ((k : Int).toNat) 0) ((k : Int).toNat) kd) ((k : Int).toNat))], (tW a (zup F 1 (k : Int)) B (zup (zup K ((k : Int).toNat) 0) ((k : Int).toNat) kd) (zup S ((k : Int).toNat) j) V9))) rfl ⟨rfl, rfl, rfl, rfl, (show zidx (k : Int) 941 from by unfold zidx; omega), trivial⟩ ?_
                rw [zup_eq]
                refine zg_if X 146 rfl rfl (by unfold zin; omega) (fun g11 => ?_) (fun g11 => ?_)
                · simp only [x_cnd] at g11
                  exfalso
                  omega
                · simp only [x_ncd] at g11
                  refine zg_blk pok2 X 5 [2, 2, 3] (S' := (138, [(2, zI e9), (0, zR (a 2)), (1, zI lim), (3, zI 1)], [zI ((zup (zup K ((k : Int).toNat) 0) ((k : Int).toNat) kd) ((k : Int).toNat))], (tW a (zup F 1 (k : Int)) B (zup (zup K ((k : Int).toNat) 0) ((k : Int).toNat) kd) (zup S ((k : Int).toNat) j) V9))) rfl ⟨rfl, rfl, rfl, rfl, (show zidx (k : Int) 941 from by unfold zidx; omega), trivial⟩ ?_
                  rw [zup_eq]
                  refine zg_blk pok2 X 1 [] (S' := (139, [(2, zI e9), (0, zR (a 2)), (1, zI lim), (3, zI 1)], [zI 4, zI kd], (tW a (zup F 1 (k : Int)) B (zup (zup K ((k : Int).toNat) 0) ((k : Int).toNat) kd) (zup S ((k : Int).toNat) j) V9))) rfl trivial ?_
                  refine zg_icmp X 146 rfl rfl (by unfold zin; omega) (by unfold zin; omega) (fun g12 => ?_) (fun g12 => ?_)
                  · simp only [x_cnd] at g12
                    refine zg_blk pok2 X 9 [2, 2] (S' := (9, [(3, zI 0), (2, zI e9), (0, zR (a 2)), (1, zI lim)], [], (tW a (zup F 1 ((k : Int) + 1)) B (zup (zup K ((k : Int).toNat) 0) ((k : Int).toNat) kd) (zup S ((k : Int).toNat) j) V9))) rfl ⟨rfl, rfl, rfl, rfl, trivial⟩ ?_
                    have hk9 : (k : Int).toNat = k := Int.toNat_natCast k
                    rw [hk9]
                    rw [hk9] at htk hv9
                    have htok : Tok (tb B (F 0)) (F 0) lim (P k) ((zup (zup K k 0) k kd) k) ((zup S k j) k) (V9 k) e9 := ⟨j, hsk, Or.inr (Or.inr ⟨by omega, by omega, zup_eq, by rw [zup_eq]; exact htk⟩)⟩
                    have f9 := fin9 k (PX P k e9) (zup (zup K k 0) k kd) (zup S k j) V9 e9 (OpenT_ext h1 h2 h3 h5 (fun q hq => by simp only [zup_ne hq]) (fun q hq => by simp only [zup_ne hq]) hv9 htok (by rw [zup_eq]; omega) (by omega))
                    refine zg_lv _ ?_ f9
                    intro q hq
                    simp only [List.mem_cons, List.not_mem_nil, or_false] at hq ⊢
                    rcases hq with rfl | rfl | rfl | rfl <;> simp
                  · simp only [x_ncd] at g12
                    refine zg_blk pok2 X 10 [2, 2] (S' := (9, [(3, zI 1), (2, zI e9), (0, zR (a 2)), (1, zI lim)], [], (tW a (zup F 1 ((k : Int) + 1)) B (zup (zup K ((k : Int).toNat) 0) ((k : Int).toNat) kd) (zup S ((k : Int).toNat) j) V9))) rfl ⟨rfl, rfl, rfl, rfl, trivial⟩ ?_
                    have hk9 : (k : Int).toNat = k := Int.toNat_natCast k
                    rw [hk9]
                    rw [hk9] at htk hv9
                    have htok : Tok (tb B (F 0)) (F 0) lim (P k) ((zup (zup K k 0) k kd) k) ((zup S k j) k) (V9 k) e9 := ⟨j, hsk, Or.inr (Or.inr ⟨by omega, by omega, zup_eq, by rw [zup_eq]; exact htk⟩)⟩
                    have ih9 := ih (k + 1) (PX P k e9) (zup (zup K k 0) k kd) (zup S k j) V9 (by rw [PX_le (Nat.zero_le _)]; exact h1) (TokS_ext h2 (fun q hq => by simp only [zup_ne hq]) (fun q hq => by simp only [zup_ne hq]) hv9 htok) (fun q hq => by
                      rcases (show q < k ∨ q = k by omega) with q1 | rfl
                      · simp only [zup_ne (show ¬ q = k by omega)]
                        exact h3 q q1
                      · rw [zup_eq]
                        omega) (fun q hq => by
                      rcases (show q ≤ k ∨ q = k + 1 by omega) with q1 | rfl
                      · rw [PX_le q1]
                        exact h5 q q1
                      · rw [PX_gt]
                        omega) (by rw [PX_gt]; omega) (by omega)
                    rw [PX_gt, show (((k + 1 : Nat)) : Int) = (k : Int) + 1 by omega] at ih9
                    refine zg_lv _ ?_ ih9
                    intro q hq
                    simp only [List.mem_cons, List.not_mem_nil, or_false] at hq ⊢
                    rcases hq with rfl | rfl | rfl | rfl <;> simp
            · simp only [x_ncd] at g8
              refine zg_blk pok2 X 18 [2, 2, 4, 2, 2, 3, 2, 2, 3] (S' := (126, [(2, zI j), (0, zR (a 2)), (1, zI lim), (3, zI 1)], [zI ((zup (zup K ((k : Int).toNat) 0) ((k : Int).toNat) 4) ((k : Int).toNat))], (tW a (zup F 1 (k : Int)) B (zup (zup K ((k : Int).toNat) 0) ((k : Int).toNat) 4) (zup (zup S ((k : Int).toNat) j) ((k : Int).toNat) lim) V))) rfl ⟨rfl, rfl, rfl, rfl, (show zidx (k : Int) 941 from by unfold zidx; omega), rfl, rfl, rfl, rfl, (show zidx (k : Int) 941 from by unfold zidx; omega), rfl, rfl, rfl, rfl, (show zidx (k : Int) 941 from by unfold zidx; omega), trivial⟩ ?_
              rw [zup_eq]
              refine zg_if X 146 rfl rfl (by unfold zin; omega) (fun g13 => ?_) (fun g13 => ?_)
              · exact absurd (show (4 : Int) = (0 : Int) from g13) (by decide)
              · simp only [x_ncd] at g13
                refine zg_blk pok2 X 5 [2, 2, 3] (S' := (138, [(2, zI j), (0, zR (a 2)), (1, zI lim), (3, zI 1)], [zI ((zup (zup K ((k : Int).toNat) 0) ((k : Int).toNat) 4) ((k : Int).toNat))], (tW a (zup F 1 (k : Int)) B (zup (zup K ((k : Int).toNat) 0) ((k : Int).toNat) 4) (zup (zup S ((k : Int).toNat) j) ((k : Int).toNat) lim) V))) rfl ⟨rfl, rfl, rfl, rfl, (show zidx (k : Int) 941 from by unfold zidx; omega), trivial⟩ ?_
                rw [zup_eq]
                refine zg_blk pok2 X 1 [] (S' := (139, [(2, zI j), (0, zR (a 2)), (1, zI lim), (3, zI 1)], [zI 4, zI 4], (tW a (zup F 1 (k : Int)) B (zup (zup K ((k : Int).toNat) 0) ((k : Int).toNat) 4) (zup (zup S ((k : Int).toNat) j) ((k : Int).toNat) lim) V))) rfl trivial ?_
                refine zg_icmp X 146 rfl rfl (by unfold zin; omega) (by unfold zin; omega) (fun g14 => ?_) (fun g14 => ?_)
                · simp only [x_cnd] at g14
                  refine zg_blk pok2 X 9 [2, 2] (S' := (9, [(3, zI 0), (2, zI j), (0, zR (a 2)), (1, zI lim)], [], (tW a (zup F 1 ((k : Int) + 1)) B (zup (zup K ((k : Int).toNat) 0) ((k : Int).toNat) 4) (zup (zup S ((k : Int).toNat) j) ((k : Int).toNat) lim) V))) rfl ⟨rfl, rfl, rfl, rfl, trivial⟩ ?_
                  have hk9 : (k : Int).toNat = k := Int.toNat_natCast k
                  rw [hk9]
                  have htok : Tok (tb B (F 0)) (F 0) lim (P k) ((zup (zup K k 0) k 4) k) ((zup (zup S k j) k lim) k) (V k) 0 := ⟨j, hsk, Or.inl ⟨by omega, by omega, zup_eq, zup_eq⟩⟩
                  have f9 := fin9 k (PX P k 0) (zup (zup K k 0) k 4) (zup (zup S k j) k lim) V j (OpenT_ext h1 h2 h3 h5 (fun q hq => by simp only [zup_ne hq]) (fun q hq => by simp only [zup_ne hq]) (fun q hq => rfl) htok (by rw [zup_eq]; omega) (by omega))
                  refine zg_lv _ ?_ f9
                  intro q hq
                  simp only [List.mem_cons, List.not_mem_nil, or_false] at hq ⊢
                  rcases hq with rfl | rfl | rfl | rfl <;> simp
                · exact absurd (show ¬ (4 : Int) = (4 : Int) from g14) (by decide)
  refine zg_blk pok2 X 7 [2] (S' := (9, [(3, zI 1), (2, zI 0), (0, zR (a 2)), (1, zI lim)], [], (tW a (zup F 1 0) B K S V))) rfl ⟨rfl, rfl, rfl, trivial⟩ ?_
  have l9 := loop 2000 0 (fun _ => 0) K S V rfl (fun j hj => by omega) (fun j hj => by omega) (fun j hj => ⟨by omega, by omega⟩) (by omega) (by omega)
  refine zg_lv _ ?_ l9
  intro q hq
  simp only [List.mem_cons, List.not_mem_nil, or_false] at hq ⊢
  rcases hq with rfl | rfl | rfl | rfl <;> simp
end ZW9
