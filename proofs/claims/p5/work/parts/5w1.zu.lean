/-! the class's text: words, runs, tokens (written by wip/p4/g2.py) -/
theorem rrL_rng (b : Int → Int) (i : Int) : ∀ m : Nat, 0 ≤ rrL b i m ∧ rrL b i m ≤ m := by
  intro m
  induction m with
  | zero => exact ⟨Int.le_refl 0, Int.le_refl 0⟩
  | succ m ih =>
    simp only [rrL]
    split <;> omega
theorem zup_eq {F : Nat → Int} {k : Nat} {z : Int} : zup F k z k = z := by
  unfold zup
  rw [Nat.beq_refl]
  rfl
theorem zup_ne {F : Nat → Int} {k j : Nat} {z : Int} (h : j ≠ k) : zup F k z j = F j := by
  unfold zup
  cases hb : Nat.beq j k with
  | false => rfl
  | true => exact absurd (Nat.eq_of_beq_eq_true hb) h
theorem zup_zup {F : Nat → Int} {k : Nat} {y z : Int} : zup (zup F k y) k z = zup F k z := by
  funext j
  unfold zup
  cases Nat.beq j k <;> rfl
theorem rrN_rng (b : Int → Int) (i : Int) : ∀ m : Nat, (∀ k : Int, i ≤ k → k < i + m → isLD (b k)) → rrL b i m = 0 → 0 ≤ rrN b i m ∧ rrN b i m < 10 ^ m := by
  intro m
  induction m with
  | zero => intro _ _; exact ⟨Int.le_refl 0, by show (0 : Int) < 10 ^ 0; decide⟩
  | succ m ih =>
    intro h h0
    have hr := rrL_rng b i m
    simp only [rrL] at h0
    split at h0
    · omega
    · rename_i hc
      simp only [rrN]
      rw [if_neg hc]
      have h1 := ih (fun k k1 k2 => h k k1 (by omega)) h0
      have h2 := h (i + m) (by omega) (by omega)
      unfold isLD isL isD at h2
      rw [Int.pow_succ]
      omega
theorem tb_rng {B : Nat → Int} (n i : Int) : -1 ≤ tb B n i ∧ tb B n i ≤ 255 := by
  unfold tb
  split <;> omega
theorem tb_in {B : Nat → Int} {n i : Int} (h : 0 ≤ tb B n i) : 0 ≤ i ∧ i < n := by
  unfold tb at h
  split at h
  · rename_i h1
    exact h1
  · omega
section ZU
variable {xs : Nat → Int32} {D : va_G} {cy : Nat → ClassId} {l : Launch} {ex : Nat → Nat} {a : Nat → Nat} {F B K S V : Nat → Int} {Y0 : ZW}
set_option maxRecDepth 4000 in
theorem zj_X10_isSpelled : PR2[21]? = some mt2_X10_isSpelled := rfl
theorem zm_isSpelled {jt tn : Nat} {f i n : Int} (hjt : z_txt jt = some tn) (hB : ∀ k, -128 ≤ B k ∧ B k ≤ 127) (hn : 0 ≤ F 0 ∧ F 0 ≤ 940) (hf : -1000 ≤ f ∧ f ≤ 1000) (hi : 0 ≤ i ∧ i ≤ 940) (hn9 : 0 ≤ n ∧ n ≤ 940) : ZMet (EWX xs) D cy l ex mt2_X10_isSpelled (5, 0, 0, 160) (tW a F B K S V) [zR (a 2), zR (ex jt), zI f, zI i, zI n] (fun z Y => (SpA (tb B (F 0)) jt tn f i n ∧ z = some (zI 1) ∧ Y = (tW a F B K S V)) ∨ (¬ SpA (tb B (F 0)) jt tn f i n ∧ z = some (zI 0) ∧ Y = (tW a F B K S V))) := by
  obtain ⟨mok, tok, ow⟩ := pok2.1 _ _ zj_X10_isSpelled
  refine met_ofz EWX_ok mok tok ow (Nat.le_of_ble_eq_true rfl) (fun r p e s m args below meth c0 A Q X hR => ?_)
  have htn := (z_txt_ok hjt).1
  have loop : ∀ (t : Nat) (k : Int), 0 ≤ k → k ≤ n → n - k < t → 0 ≤ f → f + n < tn → (ztx jt).getD (f + n).toNat 0 = 32 → (∀ k9, 0 ≤ k9 → k9 < k → (ztx jt).getD (f + k9).toNat 0 = tb B (F 0) (i + k9)) → ZG D cy r mt2_X10_isSpelled p l e (rmR (5, 0, 0, 160)) s m args below meth c0 A Q 0 0 (33, [(0, zR (a 2)), (1, zR (ex jt)), (2, zI f), (3, zI i), (4, zI n), (5, zI k)], [], (tW a F B K S V)) := by
    intro t
    induction t with
    | zero => intro k h1 h2 h3; omega
    | succ t ih =>
      intro k h1 h2 h3 hf hfn g0 h4
      refine zg_blk pok2 X 2 [] (S' := (37, [(0, zR (a 2)), (1, zR (ex jt)), (2, zI f), (3, zI i), (4, zI n), (5, zI k)], [zI n, zI k], (tW a F B K S V))) rfl trivial ?_
      refine zg_icmp X 70 rfl rfl (by unfold zin; omega) (by unfold zin; omega) (fun g1 => ?_) (fun g1 => ?_)
      · simp only [x_cnd] at g1
        have htb := tb_rng (B := B) (F 0) (i + k)
        have hzx := ztx_at jt (f + k).toNat
        refine zg_blk pok2 X 1 [] (S' := (71, [(0, zR (a 2)), (1, zR (ex jt)), (2, zI f), (3, zI i), (4, zI n), (5, zI k)], [zI 1], (tW a F B K S V))) rfl trivial ?_
        refine zg_retb X hR rfl rfl (by decide) (by decide) (by first | exact Or.inl rfl | exact Or.inr rfl) ?_
        exact Or.inl ⟨⟨by omega, by omega, g0, fun k9 q1 q2 => h4 k9 q1 (by omega)⟩, rfl, rfl⟩
      · simp only [x_ncd] at g1
        have htb := tb_rng (B := B) (F 0) (i + k)
        have hzx := ztx_at jt (f + k).toNat
        refine zg_blk pok2 X 4 [] (S' := (45, [(0, zR (a 2)), (1, zR (ex jt)), (2, zI f), (3, zI i), (4, zI n), (5, zI k)], [zI (f + k), zR (ex jt)], (tW a F B K S V))) rfl trivial ?_
        refine zg_chr X (j := jt) (n := tn) rfl hjt rfl (Nat.le_of_ble_eq_true rfl) (by decide) (by decide) (by decide) (by decide) (by omega) ?_
        refine zg_blk pok2 X 5 [2] (S' := (56, [(0, zR (a 2)), (1, zR (ex jt)), (2, zI f), (3, zI i), (4, zI n), (5, zI k)], [zI (i + k), zR (a 0), zI ((ztx jt).getD ((f + k).toNat) 0)], (tW a F B K S V))) rfl ⟨rfl, trivial⟩ ?_
        refine zg_callV pok2 EWX_ok X 0 (vas := [zI (i + k)]) (vr := [zI ((ztx jt).getD ((f + k).toNat) 0)]) (Y1 := (tW a F B K S V)) (Y2 := []) rfl rfl (Or.inl rfl) zj_X9_at rfl rfl rfl rfl (Nat.le_of_ble_eq_true rfl) rfl (zm_at hB hn (by omega)) ⟨by decide, by decide, by decide, by decide⟩ (fun z9 Y9 hz => ?_)
        obtain ⟨rfl, rfl⟩ := hz
        have htb := tb_rng (B := B) (F 0) (i + k)
        have hzx := ztx_at jt (f + k).toNat
        refine zg_icmp X 64 rfl rfl (by unfold zin; omega) (by unfold zin; omega) (fun g2 => ?_) (fun g2 => ?_)
        · simp only [x_cnd] at g2
          have htb := tb_rng (B := B) (F 0) (i + k)
          have hzx := ztx_at jt (f + k).toNat
          refine zg_blk pok2 X 2 [] (S' := (33, [(5, zI (k + 1)), (0, zR (a 2)), (1, zR (ex jt)), (2, zI f), (3, zI i), (4, zI n)], [], (tW a F B K S V))) rfl trivial ?_
          refine zg_lv [(0, zR (a 2)), (1, zR (ex jt)), (2, zI f), (3, zI i), (4, zI n), (5, zI (k + 1))] (by intro q hq; simp only [List.mem_cons, List.not_mem_nil, or_false] at hq ⊢; rcases hq with rfl | rfl | rfl | rfl | rfl | rfl <;> simp) ?_
          exact ih (k + 1) (by omega) (by omega) (by omega) hf hfn g0 (fun k9 q1 q2 => by
            rcases (show k9 < k ∨ k9 = k by omega) with h | rfl
            · exact h4 k9 q1 h
            · exact g2)
        · simp only [x_ncd] at g2
          have htb := tb_rng (B := B) (F 0) (i + k)
          have hzx := ztx_at jt (f + k).toNat
          refine zg_blk pok2 X 1 [] (S' := (63, [(0, zR (a 2)), (1, zR (ex jt)), (2, zI f), (3, zI i), (4, zI n), (5, zI k)], [zI 0], (tW a F B K S V))) rfl trivial ?_
          refine zg_retb X hR rfl rfl (by decide) (by decide) (by first | exact Or.inl rfl | exact Or.inr rfl) ?_
          refine Or.inr ⟨fun h => ?_, rfl, rfl⟩
          exact g2 (h.2.2.2 k (by omega) (by omega))
  refine zg_blk pok2 X 1 [] (S' := (1, [(0, zR (a 2)), (1, zR (ex jt)), (2, zI f), (3, zI i), (4, zI n)], [zI f], (tW a F B K S V))) rfl trivial ?_
  refine zg_if X 28 rfl rfl (by unfold zin; omega) (fun g1 => ?_) (fun g1 => ?_)
  · simp only [x_cnd] at g1
    have hzx := ztx_at jt (f + n).toNat
    refine zg_blk pok2 X 1 [] (S' := (29, [(0, zR (a 2)), (1, zR (ex jt)), (2, zI f), (3, zI i), (4, zI n)], [zI 0], (tW a F B K S V))) rfl trivial ?_
    refine zg_retb X hR rfl rfl (by decide) (by decide) (by first | exact Or.inl rfl | exact Or.inr rfl) ?_
    refine Or.inr ⟨fun h => ?_, rfl, rfl⟩
    have q1 := h.1
    have q2 := h.2.1
    have q3 := h.2.2.1
    omega
  · simp only [x_ncd] at g1
    have hzx := ztx_at jt (f + n).toNat
    refine zg_blk pok2 X 4 [] (S' := (9, [(0, zR (a 2)), (1, zR (ex jt)), (2, zI f), (3, zI i), (4, zI n)], [zR (ex jt), zI (f + n)], (tW a F B K S V))) rfl trivial ?_
    refine zg_len X (j := jt) (n := tn) rfl hjt rfl (Nat.le_of_ble_eq_true rfl) (by decide) (by decide) (by decide) (by decide) ?_
    refine zg_icmp X 28 rfl rfl (by unfold zin; omega) (by unfold zin; omega) (fun g2 => ?_) (fun g2 => ?_)
    · simp only [x_cnd] at g2
      have hzx := ztx_at jt (f + n).toNat
      refine zg_blk pok2 X 1 [] (S' := (29, [(0, zR (a 2)), (1, zR (ex jt)), (2, zI f), (3, zI i), (4, zI n)], [zI 0], (tW a F B K S V))) rfl trivial ?_
      refine zg_retb X hR rfl rfl (by decide) (by decide) (by first | exact Or.inl rfl | exact Or.inr rfl) ?_
      refine Or.inr ⟨fun h => ?_, rfl, rfl⟩
      have q1 := h.1
      have q2 := h.2.1
      have q3 := h.2.2.1
      omega
    · simp only [x_ncd] at g2
      have hzx := ztx_at jt (f + n).toNat
      refine zg_blk pok2 X 4 [] (S' := (20, [(0, zR (a 2)), (1, zR (ex jt)), (2, zI f), (3, zI i), (4, zI n)], [zI (f + n), zR (ex jt)], (tW a F B K S V))) rfl trivial ?_
      refine zg_chr X (j := jt) (n := tn) rfl hjt rfl (Nat.le_of_ble_eq_true rfl) (by decide) (by decide) (by decide) (by decide) (by omega) ?_
      refine zg_blk pok2 X 1 [] (S' := (25, [(0, zR (a 2)), (1, zR (ex jt)), (2, zI f), (3, zI i), (4, zI n)], [zI 32, zI ((ztx jt).getD ((f + n).toNat) 0)], (tW a F B K S V))) rfl trivial ?_
      refine zg_icmp X 30 rfl rfl (by unfold zin; omega) (by unfold zin; omega) (fun g3 => ?_) (fun g3 => ?_)
      · simp only [x_cnd] at g3
        have hzx := ztx_at jt (f + n).toNat
        refine zg_blk pok2 X 2 [] (S' := (33, [(5, zI 0), (0, zR (a 2)), (1, zR (ex jt)), (2, zI f), (3, zI i), (4, zI n)], [], (tW a F B K S V))) rfl trivial ?_
        refine zg_lv [(0, zR (a 2)), (1, zR (ex jt)), (2, zI f), (3, zI i), (4, zI n), (5, zI 0)] (by intro q hq; simp only [List.mem_cons, List.not_mem_nil, or_false] at hq ⊢; rcases hq with rfl | rfl | rfl | rfl | rfl | rfl <;> simp) ?_
        exact loop 1000 0 (by omega) (by omega) (by omega) (by omega) (by omega) (by omega) (fun k9 q1 q2 => by omega)
      · simp only [x_ncd] at g3
        have hzx := ztx_at jt (f + n).toNat
        refine zg_blk pok2 X 1 [] (S' := (29, [(0, zR (a 2)), (1, zR (ex jt)), (2, zI f), (3, zI i), (4, zI n)], [zI 0], (tW a F B K S V))) rfl trivial ?_
        refine zg_retb X hR rfl rfl (by decide) (by decide) (by first | exact Or.inl rfl | exact Or.inr rfl) ?_
        refine Or.inr ⟨fun h => ?_, rfl, rfl⟩
        have q1 := h.1
        have q2 := h.2.1
        have q3 := h.2.2.1
        omega
set_option maxRecDepth 4000 in
theorem zj_X10_wordIn : PR2[31]? = some mt2_X10_wordIn := rfl
theorem zm_wordIn {jt tn : Nat} {i n : Int} (hjt : z_txt jt = some tn) (hB : ∀ k, -128 ≤ B k ∧ B k ≤ 127) (hn : 0 ≤ F 0 ∧ F 0 ≤ 940) (hi : 0 ≤ i ∧ i ≤ 940) (hn9 : 0 ≤ n ∧ n ≤ 940) : ZMet (EWX xs) D cy l ex mt2_X10_wordIn (6, 0, 0, 185) (tW a F B K S V) [zR (a 2), zR (ex jt), zI i, zI n] (fun z Y => (∃ w, 0 ≤ w ∧ (w + 1) * 8 ≤ (tn : Int) ∧ SpA (tb B (F 0)) jt tn (w * 8) i n ∧ z = some (zI w) ∧ Y = (tW a F B K S V)) ∨ ((∀ w, 0 ≤ w → (w + 1) * 8 ≤ (tn : Int) → ¬ SpA (tb B (F 0)) jt tn (w * 8) i n) ∧ z = some (zI (-1)) ∧ Y = (tW a F B K S V))) := by
  obtain ⟨mok, tok, ow⟩ := pok2.1 _ _ zj_X10_wordIn
  refine met_ofz EWX_ok mok tok ow (Nat.le_of_ble_eq_true rfl) (fun r p e s m args below meth c0 A Q X hR => ?_)
  have htn := (z_txt_ok hjt).1
  have loop : ∀ (t : Nat) (w : Int), 0 ≤ w → w ≤ 100 → 100 - w < t → (∀ w9, 0 ≤ w9 → w9 < w → (w9 + 1) * 8 ≤ tn → ¬ SpA (tb B (F 0)) jt tn (w9 * 8) i n) → ZG D cy r mt2_X10_wordIn p l e (rmR (6, 0, 0, 185)) s m args below meth c0 A Q 0 0 (3, [(0, zR (a 2)), (1, zR (ex jt)), (2, zI i), (3, zI n), (4, zI w)], [], (tW a F B K S V)) := by
    intro t
    induction t with
    | zero => intro w h1 h2 h3; omega
    | succ t ih =>
      intro w h1 h2 h3 h4
      refine zg_blk pok2 X 6 [] (S' := (11, [(0, zR (a 2)), (1, zR (ex jt)), (2, zI i), (3, zI n), (4, zI w)], [zR (ex jt), zI ((w + 1) * 8)], (tW a F B K S V))) rfl trivial ?_
      refine zg_len X (j := jt) (n := tn) rfl hjt rfl (Nat.le_of_ble_eq_true rfl) (by decide) (by decide) (by decide) (by decide) ?_
      refine zg_icmp X 41 rfl rfl (by unfold zin; omega) (by unfold zin; omega) (fun g1 => ?_) (fun g1 => ?_)
      · simp only [x_cnd] at g1
        refine zg_blk pok2 X 1 [] (S' := (42, [(0, zR (a 2)), (1, zR (ex jt)), (2, zI i), (3, zI n), (4, zI w)], [zI (-1)], (tW a F B K S V))) rfl trivial ?_
        refine zg_reti X hR rfl rfl (by decide) (by decide) ?_
        exact Or.inr ⟨fun w9 q1 q2 => h4 w9 q1 (by omega) q2, rfl, rfl⟩
      · simp only [x_ncd] at g1
        refine zg_blk pok2 X 7 [] (S' := (26, [(0, zR (a 2)), (1, zR (ex jt)), (2, zI i), (3, zI n), (4, zI w)], [zI n, zI i, zI (w * 8), zR (ex jt), zR (a 2)], (tW a F B K S V))) rfl trivial ?_
        refine zg_callV pok2 EWX_ok X 2 (vas := [zR (ex jt), zI (w * 8), zI i, zI n]) (vr := []) (Y1 := (tW a F B K S V)) (Y2 := []) rfl rfl (Or.inl rfl) zj_X10_isSpelled rfl rfl rfl rfl (Nat.le_of_ble_eq_true rfl) rfl (zm_isSpelled hjt hB hn (by omega) (by omega) (by omega)) ⟨by decide, by decide, by decide, by decide⟩ (fun z9 Y9 hz => ?_)
        rcases hz with ⟨hs, rfl, rfl⟩ | ⟨hs, rfl, rfl⟩
        · refine zg_if X 35 rfl rfl (by unfold zin; omega) (fun g2 => ?_) (fun g2 => ?_)
          · exact absurd (show (1 : Int) = (0 : Int) from g2) (by decide)
          · simp only [x_ncd] at g2
            refine zg_blk pok2 X 1 [] (S' := (34, [(0, zR (a 2)), (1, zR (ex jt)), (2, zI i), (3, zI n), (4, zI w)], [zI w], (tW a F B K S V))) rfl trivial ?_
            refine zg_reti X hR rfl rfl (by decide) (by decide) ?_
            exact Or.inl ⟨w, by omega, by omega, hs, rfl, rfl⟩
        · refine zg_if X 35 rfl rfl (by unfold zin; omega) (fun g3 => ?_) (fun g3 => ?_)
          · simp only [x_cnd] at g3
            refine zg_blk pok2 X 2 [] (S' := (3, [(4, zI (w + 1)), (0, zR (a 2)), (1, zR (ex jt)), (2, zI i), (3, zI n)], [], (tW a F B K S V))) rfl trivial ?_
            refine zg_lv [(0, zR (a 2)), (1, zR (ex jt)), (2, zI i), (3, zI n), (4, zI (w + 1))] (by intro q hq; simp only [List.mem_cons, List.not_mem_nil, or_false] at hq ⊢; rcases hq with rfl | rfl | rfl | rfl | rfl <;> simp) ?_
            exact ih (w + 1) (by omega) (by omega) (by omega) (fun w9 q1 q2 q3 => by
              rcases (show w9 < w ∨ w9 = w by omega) with h | rfl
              · exact h4 w9 q1 h q3
              · exact hs)
          · exact absurd (show ¬ (0 : Int) = (0 : Int) from g3) (by decide)
  refine zg_blk pok2 X 2 [] (S' := (3, [(4, zI 0), (0, zR (a 2)), (1, zR (ex jt)), (2, zI i), (3, zI n)], [], (tW a F B K S V))) rfl trivial ?_
  refine zg_lv [(0, zR (a 2)), (1, zR (ex jt)), (2, zI i), (3, zI n), (4, zI 0)] (by intro q hq; simp only [List.mem_cons, List.not_mem_nil, or_false] at hq ⊢; rcases hq with rfl | rfl | rfl | rfl | rfl <;> simp) ?_
  exact loop 1000 0 (by omega) (by omega) (by omega) (fun w9 q1 q2 => by omega)
set_option maxRecDepth 4000 in
theorem zj_X10_wordNumber : PR2[32]? = some mt2_X10_wordNumber := rfl
theorem zm_wordNumber {i n : Int} (hB : ∀ k, -128 ≤ B k ∧ B k ≤ 127) (hn : 0 ≤ F 0 ∧ F 0 ≤ 940) (hi : 0 ≤ i ∧ i ≤ 940) (hn9 : 0 ≤ n ∧ n ≤ 940) : ZMet (EWX xs) D cy l ex mt2_X10_wordNumber (7, 0, 0, 209) (tW a F B K S V) [zR (a 2), zI i, zI n] (fun z Y => (∃ w, 0 ≤ w ∧ w < 29 ∧ Sp29 (tb B (F 0)) i n w ∧ z = some (zI w) ∧ Y = (tW a F B K S V)) ∨ ((∀ w, ¬ Sp29 (tb B (F 0)) i n w) ∧ z = some (zI (-1)) ∧ Y = (tW a F B K S V))) := by
  obtain ⟨mok, tok, ow⟩ := pok2.1 _ _ zj_X10_wordNumber
  refine met_ofz EWX_ok mok tok ow (Nat.le_of_ble_eq_true rfl) (fun r p e s m args below meth c0 A Q X hR => ?_)
  refine zg_blk pok2 X 1 [] (S' := (1, [(0, zR (a 2)), (1, zI i), (2, zI n)], [zR (a 2)], (tW a F B K S V))) rfl trivial ?_
  refine zg_ldt X (j := 10) rfl rfl rfl ?_
  refine zg_blk pok2 X 2 [] (S' := (5, [(0, zR (a 2)), (1, zI i), (2, zI n)], [zI n, zI i, zR (ex 10), zR (a 2)], (tW a F B K S V))) rfl trivial ?_
  refine zg_callV pok2 EWX_ok X 2 (vas := [zR (ex 10), zI i, zI n]) (vr := []) (Y1 := (tW a F B K S V)) (Y2 := []) rfl rfl (Or.inl rfl) zj_X10_wordIn rfl rfl rfl rfl (Nat.le_of_ble_eq_true rfl) rfl (zm_wordIn (jt := 10) rfl hB hn (by omega) (by omega)) ⟨by decide, by decide, by decide, by decide⟩ (fun z9 Y9 hz => ?_)
  rcases hz with ⟨w, hw1, hw2, hs, rfl, rfl⟩ | ⟨hs1, rfl, rfl⟩
  · refine zg_blk pok2 X 3 [] (S' := (11, [(3, zI w), (0, zR (a 2)), (1, zI i), (2, zI n)], [zI (-1), zI w], (tW a F B K S V))) rfl trivial ?_
    refine zg_icmp X 16 rfl rfl (by unfold zin; omega) (by unfold zin; omega) (fun g1 => ?_) (fun g1 => ?_)
    · simp only [x_cnd] at g1
      exfalso
      omega
    · simp only [x_ncd] at g1
      refine zg_blk pok2 X 1 [] (S' := (15, [(3, zI w), (0, zR (a 2)), (1, zI i), (2, zI n)], [zI w], (tW a F B K S V))) rfl trivial ?_
      refine zg_reti X hR rfl rfl (by decide) (by decide) ?_
      exact Or.inl ⟨w, by omega, by omega, Or.inl ⟨by omega, by omega, hs⟩, rfl, rfl⟩
  · refine zg_blk pok2 X 3 [] (S' := (11, [(3, zI (-1)), (0, zR (a 2)), (1, zI i), (2, zI n)], [zI (-1), zI (-1)], (tW a F B K S V))) rfl trivial ?_
    refine zg_icmp X 16 rfl rfl (by unfold zin; omega) (by unfold zin; omega) (fun g2 => ?_) (fun g2 => ?_)
    · simp only [x_cnd] at g2
      refine zg_blk pok2 X 1 [] (S' := (17, [(3, zI (-1)), (0, zR (a 2)), (1, zI i), (2, zI n)], [zR (a 2)], (tW a F B K S V))) rfl trivial ?_
      refine zg_ldt X (j := 11) rfl rfl rfl ?_
      refine zg_blk pok2 X 2 [] (S' := (21, [(3, zI (-1)), (0, zR (a 2)), (1, zI i), (2, zI n)], [zI n, zI i, zR (ex 11), zR (a 2)], (tW a F B K S V))) rfl trivial ?_
      refine zg_callV pok2 EWX_ok X 2 (vas := [zR (ex 11), zI i, zI n]) (vr := []) (Y1 := (tW a F B K S V)) (Y2 := []) rfl rfl (Or.inl rfl) zj_X10_wordIn rfl rfl rfl rfl (Nat.le_of_ble_eq_true rfl) rfl (zm_wordIn (jt := 11) rfl hB hn (by omega) (by omega)) ⟨by decide, by decide, by decide, by decide⟩ (fun z9 Y9 hz => ?_)
      rcases hz with ⟨w, hw1, hw2, hs, rfl, rfl⟩ | ⟨hs2, rfl, rfl⟩
      · refine zg_blk pok2 X 3 [] (S' := (27, [(3, zI w), (0, zR (a 2)), (1, zI i), (2, zI n)], [zI (-1), zI w], (tW a F B K S V))) rfl trivial ?_
        refine zg_icmp X 35 rfl rfl (by unfold zin; omega) (by unfold zin; omega) (fun g3 => ?_) (fun g3 => ?_)
        · simp only [x_cnd] at g3
          exfalso
          omega
        · simp only [x_ncd] at g3
          refine zg_blk pok2 X 3 [] (S' := (34, [(3, zI w), (0, zR (a 2)), (1, zI i), (2, zI n)], [zI (11 + w)], (tW a F B K S V))) rfl trivial ?_
          refine zg_reti X hR rfl rfl (by decide) (by decide) ?_
          exact Or.inl ⟨11 + w, by omega, by omega, Or.inr (Or.inl ⟨by omega, by omega, by rw [show 11 + w - 11 = w by omega]; exact hs⟩), rfl, rfl⟩
      · refine zg_blk pok2 X 3 [] (S' := (27, [(3, zI (-1)), (0, zR (a 2)), (1, zI i), (2, zI n)], [zI (-1), zI (-1)], (tW a F B K S V))) rfl trivial ?_
        refine zg_icmp X 35 rfl rfl (by unfold zin; omega) (by unfold zin; omega) (fun g4 => ?_) (fun g4 => ?_)
        · simp only [x_cnd] at g4
          refine zg_blk pok2 X 1 [] (S' := (36, [(3, zI (-1)), (0, zR (a 2)), (1, zI i), (2, zI n)], [zR (a 2)], (tW a F B K S V))) rfl trivial ?_
          refine zg_ldt X (j := 12) rfl rfl rfl ?_
          refine zg_blk pok2 X 2 [] (S' := (40, [(3, zI (-1)), (0, zR (a 2)), (1, zI i), (2, zI n)], [zI n, zI i, zR (ex 12), zR (a 2)], (tW a F B K S V))) rfl trivial ?_
          refine zg_callV pok2 EWX_ok X 2 (vas := [zR (ex 12), zI i, zI n]) (vr := []) (Y1 := (tW a F B K S V)) (Y2 := []) rfl rfl (Or.inl rfl) zj_X10_wordIn rfl rfl rfl rfl (Nat.le_of_ble_eq_true rfl) rfl (zm_wordIn (jt := 12) rfl hB hn (by omega) (by omega)) ⟨by decide, by decide, by decide, by decide⟩ (fun z9 Y9 hz => ?_)
          rcases hz with ⟨w, hw1, hw2, hs, rfl, rfl⟩ | ⟨hs3, rfl, rfl⟩
          · refine zg_blk pok2 X 3 [] (S' := (46, [(3, zI w), (0, zR (a 2)), (1, zI i), (2, zI n)], [zI (-1), zI w], (tW a F B K S V))) rfl trivial ?_
            refine zg_icmp X 53 rfl rfl (by unfold zin; omega) (by unfold zin; omega) (fun g5 => ?_) (fun g5 => ?_)
            · simp only [x_cnd] at g5
              refine zg_blk pok2 X 3 [] (S' := (57, [(3, zI w), (0, zR (a 2)), (1, zI i), (2, zI n)], [zI (18 + w)], (tW a F B K S V))) rfl trivial ?_
              refine zg_reti X hR rfl rfl (by decide) (by decide) ?_
              exact Or.inl ⟨18 + w, by omega, by omega, Or.inr (Or.inr ⟨by omega, by omega, by rw [show 18 + w - 18 = w by omega]; exact hs⟩), rfl, rfl⟩
            · simp only [x_ncd] at g5
              exfalso
              omega
          · refine zg_blk pok2 X 3 [] (S' := (46, [(3, zI (-1)), (0, zR (a 2)), (1, zI i), (2, zI n)], [zI (-1), zI (-1)], (tW a F B K S V))) rfl trivial ?_
            refine zg_icmp X 53 rfl rfl (by unfold zin; omega) (by unfold zin; omega) (fun g6 => ?_) (fun g6 => ?_)
            · exact absurd (show ¬ (-1 : Int) = (-1 : Int) from g6) (by decide)
            · simp only [x_ncd] at g6
              refine zg_blk pok2 X 2 [] (S' := (57, [(3, zI (-1)), (0, zR (a 2)), (1, zI i), (2, zI n)], [zI (-1)], (tW a F B K S V))) rfl trivial ?_
              refine zg_reti X hR rfl rfl (by decide) (by decide) ?_
              refine Or.inr ⟨fun w h => ?_, rfl, rfl⟩
              rcases h with ⟨q1, q2, q3⟩ | ⟨q1, q2, q3⟩ | ⟨q1, q2, q3⟩
              · exact hs1 w q1 (by omega) q3
              · exact hs2 (w - 11) (by omega) (by omega) q3
              · exact hs3 (w - 18) (by omega) (by omega) q3
        · exact absurd (show ¬ (-1 : Int) = (-1 : Int) from g4) (by decide)
    · exact absurd (show ¬ (-1 : Int) = (-1 : Int) from g2) (by decide)
end ZU
