/-! the class's city: how it is told what a text says (written by wip/p4/g5.py) -/
def cW (c : Nat → Nat) (G CN NM MK TP PP CO KN : Nat → Int) : ZW := [(c 0, .inl (1, [zR (c 1), zR (c 2), zR (c 3), zR (c 4), zR (c 5), zR (c 6), zR (c 7), zI (G 0), zI (G 1)])), (c 1, .inr (.inl (0, 8, CN))), (c 2, .inr (.inr (40, NM))), (c 3, .inr (.inl (0, 8, MK))), (c 4, .inr (.inl (0, 8, TP))), (c 5, .inr (.inl (0, 6, PP))), (c 6, .inr (.inl (0, 6, CO))), (c 7, .inr (.inl (0, 6, KN)))]
def fnd (CN NM : Nat → Int) (key : Int) : Int := if lkS CN NM 0 key = -1 then (if lkS CN NM 1 key = -1 then (if lkS CN NM 2 key = -1 then (if lkS CN NM 3 key = -1 then -1 else 30 + lkS CN NM 3 key) else 20 + lkS CN NM 2 key) else 10 + lkS CN NM 1 key) else lkS CN NM 0 key
/-- the text's fields at a token, no fault; with a fault -/
def FA (K S V F : Nat → Int) (idx : Nat) : Nat → Int := zup (zup (zup (zup F 2 (idx : Int)) 3 (K idx)) 4 (S idx)) 5 (V idx)
def fd (F : Nat → Int) (kd pl : Int) : Prop := F 6 = kd ∧ ¬ kd = 0 ∧ F 7 = pl ∧ F 3 = 0 ∧ -2147483648 ≤ kd ∧ kd < 2147483648
theorem lk_rng (f : Nat → Int) (key : Int) : ∀ n : Nat, -1 ≤ lk f key n ∧ lk f key n < (n : Int) := by
  intro n
  induction n with
  | zero => exact ⟨Int.le_refl (-1), by show (-1 : Int) < 0; decide⟩
  | succ n ih =>
    simp only [lk]
    split
    · omega
    · split <;> omega
theorem lk_more {f : Nat → Int} {key : Int} {n : Nat} (h : 0 ≤ lk f key n) : ∀ m : Nat, lk f key (n + m) = lk f key n := by
  intro m
  induction m with
  | zero => rfl
  | succ m ih =>
    show lk f key (n + m + 1) = _
    simp only [lk]
    rw [ih, if_pos h]
theorem lk_here {f : Nat → Int} {key : Int} {i n : Nat} (hn : lk f key i = -1) (hf : f i = key) (h : i < n) : lk f key n = i := by
  have h1 : lk f key (i + 1) = i := by
    simp only [lk]
    rw [if_neg (by omega), if_pos hf]
  obtain ⟨m, rfl⟩ : ∃ m, n = i + 1 + m := ⟨n - (i + 1), by omega⟩
  rw [lk_more (by omega), h1]
theorem lk_on {f : Nat → Int} {key : Int} {i : Nat} (hn : lk f key i = -1) (hf : ¬ f i = key) : lk f key (i + 1) = -1 := by
  simp only [lk]
  rw [if_neg (by omega), if_neg hf]
/-- two rows that agree on what is sought -/
theorem lk_congr {f g : Nat → Int} {x y : Int} : ∀ {n : Nat}, (∀ i, i < n → (f i = x ↔ g i = y)) → lk f x n = lk g y n := by
  intro n
  induction n with
  | zero => intro _; rfl
  | succ n ih =>
    intro h
    simp only [lk]
    rw [ih (fun i hi => h i (by omega))]
    have h1 := h n (by omega)
    by_cases q : f n = x
    · rw [if_pos q, if_pos (h1.mp q)]
    · rw [if_neg q, if_neg (fun w => q (h1.mpr w))]
theorem lk_none {f : Nat → Int} {key : Int} : ∀ {n : Nat}, lk f key n = -1 → ∀ i, i < n → ¬ f i = key := by
  intro n
  induction n with
  | zero => intro _ i hi; omega
  | succ n ih =>
    intro h i hi hf
    simp only [lk] at h
    split at h
    · omega
    · rename_i h1
      have hr := lk_rng f key n
      split at h
      · omega
      · rename_i h2
        rcases (show i < n ∨ i = n by omega) with q | rfl
        · exact ih (by omega) i q hf
        · exact h2 hf
theorem lk_some {f : Nat → Int} {key : Int} : ∀ {n : Nat}, ¬ lk f key n = -1 → f (lk f key n).toNat = key := by
  intro n
  induction n with
  | zero => intro h; exact absurd rfl h
  | succ n ih =>
    intro h
    simp only [lk] at h ⊢
    split
    · rename_i h1
      exact ih (by omega)
    · rename_i h1
      rw [if_neg h1] at h
      split
      · rename_i h2
        rw [Int.toNat_natCast]
        exact h2
      · rename_i h2
        rw [if_neg h2] at h
        exact absurd rfl h
theorem FA_step {K S V F : Nat → Int} {idx : Nat} (h6 : F 6 = 0) (h : (idx : Int) + 1 < F 1) : stepF K S V (FA K S V F idx) = FA K S V F (idx + 1) := by
  have e1 : FA K S V F idx 6 = F 6 := rfl
  have e2 : FA K S V F idx 2 = (idx : Int) := rfl
  have e3 : FA K S V F idx 1 = F 1 := rfl
  unfold stepF
  rw [if_pos ⟨by rw [e1]; exact h6, by rw [e2, e3]; exact h⟩, e2, show ((idx : Int) + 1).toNat = idx + 1 by omega]
  unfold FA
  rw [show (((idx + 1 : Nat)) : Int) = (idx : Int) + 1 by omega]
  funext j
  unfold zup
  rcases j with _ | _ | _ | _ | _ | _ | j <;> rfl
theorem FA_fail {K S V F : Nat → Int} {idx : Nat} {m : Int} (h6 : F 6 = 0) (hm : ¬ m = 0) (hm2 : -2147483648 ≤ m ∧ m < 2147483648) : fd (failF m (FA K S V F idx)) m (S idx) := by
  have e1 : FA K S V F idx 6 = F 6 := rfl
  unfold failF
  rw [if_pos (by rw [e1]; exact h6)]
  exact ⟨rfl, hm, rfl, rfl, hm2⟩
theorem fd_fail {F : Nat → Int} {kd pl m : Int} (h : fd F kd pl) : fd (failF m F) kd pl := by
  obtain ⟨h1, h2, h3, h4, h5⟩ := h
  unfold failF
  rw [if_neg (by omega)]
  exact ⟨h1, h2, h3, rfl, h5⟩
theorem fd_step {K S V F : Nat → Int} {kd pl : Int} (h : fd F kd pl) : stepF K S V F = F := by
  obtain ⟨h1, h2, h3, h4, h5⟩ := h
  unfold stepF
  rw [if_neg (by omega)]
theorem lkS_rng {CN NM : Nat → Int} {s : Nat} {key : Int} (h : 0 ≤ CN s ∧ CN s ≤ 10) : -1 ≤ lkS CN NM s key ∧ lkS CN NM s key < 10 ∧ lkS CN NM s key < CN s ∨ lkS CN NM s key = -1 := by
  have h1 := lk_rng (nmS NM s) key (CN s).toNat
  unfold lkS
  omega
section ZC
variable {xs : Nat → Int32} {D : va_G} {cy : Nat → ClassId} {l : Launch} {ex : Nat → Nat} {a c : Nat → Nat} {F B K S V G CN NM MK TP PP CO KN : Nat → Int} {Y0 : ZW}
set_option maxRecDepth 4000 in
theorem zj_X1_find : PR2[211]? = some mt2_X1_find := rfl
theorem zm_find {key : Int} (hCN : ∀ s, s < 4 → 0 ≤ CN s ∧ CN s ≤ 10) (hNM : ∀ k, zin64 (NM k)) (hkey : zin64 key) : ZMet (EWX xs) D cy l ex mt2_X1_find (0, 0, 0, 0) (tW a F B K S V ++ cW c G CN NM MK TP PP CO KN) [zR (c 0), zL key] (fun z Y => z = some (zI (fnd CN NM key)) ∧ Y = (tW a F B K S V ++ cW c G CN NM MK TP PP CO KN)) := by
  obtain ⟨mok, tok, ow⟩ := pok2.1 _ _ zj_X1_find
  refine met_ofz EWX_ok mok tok ow (Nat.le_of_ble_eq_true rfl) (fun r p0 e0 s0 m0 ar0 be0 me0 c0 A0 Q0 X hR => ?_)
  have hcn : ∀ s, s < 4 → 0 ≤ CN s ∧ CN s ≤ 10 := hCN
  have cn0 := hcn 0 (by omega)
  have cn1 := hcn 1 (by omega)
  have cn2 := hcn 2 (by omega)
  have cn3 := hcn 3 (by omega)
  have o4 : ∀ (hn0 : lkS CN NM 0 key = -1) (hn1 : lkS CN NM 1 key = -1) (hn2 : lkS CN NM 2 key = -1) (hn3 : lkS CN NM 3 key = -1) , ZG D cy r mt2_X1_find p0 l e0 (rmR (0, 0, 0, 0)) s0 m0 ar0 be0 me0 c0 A0 Q0 0 0 (2, [(0, zR (c 0)), (1, zL key), (3, zI 4)], [], (tW a F B K S V ++ cW c G CN NM MK TP PP CO KN)) := by
    intro hn0 hn1 hn2 hn3
    refine zg_blk pok2 X 2 [] (S' := (4, [(0, zR (c 0)), (1, zL key), (3, zI 4)], [zI 4, zI 4], ((tW a F B K S V) ++ (cW c G CN NM MK TP PP CO KN)))) rfl trivial ?_
    refine zg_icmp X 65 rfl rfl (by unfold zin; omega) (by unfold zin; omega) (fun g1 => ?_) (fun g1 => ?_)
    · simp only [x_cnd] at g1
      refine zg_blk pok2 X 1 [] (S' := (66, [(0, zR (c 0)), (1, zL key), (3, zI 4)], [zI (-1)], ((tW a F B K S V) ++ (cW c G CN NM MK TP PP CO KN)))) rfl trivial ?_
      refine zg_reti X hR rfl rfl (by decide) (by decide) ?_
      refine ⟨?_, rfl⟩
      unfold fnd
      rw [if_pos hn0, if_pos hn1, if_pos hn2, if_pos hn3]
    · exact absurd (show (4 : Int) < (4 : Int) from g1) (by decide)
  have o3 : ∀ (hn0 : lkS CN NM 0 key = -1) (hn1 : lkS CN NM 1 key = -1) (hn2 : lkS CN NM 2 key = -1) , ZG D cy r mt2_X1_find p0 l e0 (rmR (0, 0, 0, 0)) s0 m0 ar0 be0 me0 c0 A0 Q0 0 0 (2, [(0, zR (c 0)), (1, zL key), (3, zI 3)], [], (tW a F B K S V ++ cW c G CN NM MK TP PP CO KN)) := by
    intro hn0 hn1 hn2
    have loop : ∀ (t i : Nat), (i : Int) ≤ CN 3 → CN 3 - (i : Int) < t → lk (nmS NM 3) key i = -1 → ZG D cy r mt2_X1_find p0 l e0 (rmR (0, 0, 0, 0)) s0 m0 ar0 be0 me0 c0 A0 Q0 0 0 (10, [(0, zR (c 0)), (1, zL key), (3, zI 3), (4, zI (i : Int))], [], (tW a F B K S V ++ cW c G CN NM MK TP PP CO KN)) := by
      intro t
      induction t with
      | zero => intro i h1 h2; omega
      | succ t ih =>
        intro i h1 h3 h4
        have hlc := zlcmp_in (NM (30 + (i : Int)).toNat) key
        refine zg_blk pok2 X 5 [6, 7] (S' := (18, [(0, zR (c 0)), (1, zL key), (3, zI 3), (4, zI (i : Int))], [zI (CN 3), zI (i : Int)], ((tW a F B K S V) ++ (cW c G CN NM MK TP PP CO KN)))) rfl ⟨rfl, rfl, rfl, (show zidx 3 8 from by unfold zidx; omega), trivial⟩ ?_
        refine zg_icmp X 59 rfl rfl (by unfold zin; omega) (by unfold zin; omega) (fun g1 => ?_) (fun g1 => ?_)
        · simp only [x_cnd] at g1
          refine zg_blk pok2 X 2 [] (S' := (2, [(3, zI 4), (0, zR (c 0)), (1, zL key), (4, zI (i : Int))], [], ((tW a F B K S V) ++ (cW c G CN NM MK TP PP CO KN)))) rfl trivial ?_
          refine zg_lv [(0, zR (c 0)), (1, zL key), (3, zI 4)] (by intro q hq; simp only [List.mem_cons, List.not_mem_nil, or_false] at hq ⊢; rcases hq with rfl | rfl | rfl <;> simp) ?_
          exact o4 hn0 hn1 hn2 (by unfold lkS; rw [show (CN 3).toNat = i by omega]; exact h4)
        · simp only [x_ncd] at g1
          refine zg_blk pok2 X 2 [] (S' := (25, [(0, zR (c 0)), (1, zL key), (3, zI 3), (4, zI (i : Int))], [zI 10, zI (i : Int)], ((tW a F B K S V) ++ (cW c G CN NM MK TP PP CO KN)))) rfl trivial ?_
          refine zg_icmp X 59 rfl rfl (by unfold zin; omega) (by unfold zin; omega) (fun g2 => ?_) (fun g2 => ?_)
          · simp only [x_cnd] at g2
            exfalso
            omega
          · simp only [x_ncd] at g2
            refine zg_blk pok2 X 10 [6, 8] (S' := (42, [(0, zR (c 0)), (1, zL key), (3, zI 3), (4, zI (i : Int))], [zI (zlcmp (NM ((30 + (i : Int)).toNat)) key)], ((tW a F B K S V) ++ (cW c G CN NM MK TP PP CO KN)))) rfl ⟨rfl, rfl, (show zidx (30 + (i : Int)) 40 from by unfold zidx; omega), trivial⟩ ?_
            refine zg_if X 53 rfl rfl (by unfold zin; omega) (fun g3 => ?_) (fun g3 => ?_)
            · simp only [x_cnd] at g3
              rw [zlcmp_eq (hNM _) hkey] at g3
              refine zg_blk pok2 X 2 [] (S' := (10, [(4, zI ((i : Int) + 1)), (0, zR (c 0)), (1, zL key), (3, zI 3)], [], ((tW a F B K S V) ++ (cW c G CN NM MK TP PP CO KN)))) rfl trivial ?_
              have ih9 := ih (i + 1) (by omega) (by omega) (lk_on h4 (by intro q; apply g3; unfold nmS at q; rw [show (30 + (i : Int)).toNat = 3 * 10 + i by omega]; exact q))
              rw [show (((i + 1 : Nat)) : Int) = (i : Int) + 1 by omega] at ih9
              refine zg_lv _ ?_ ih9
              intro q hq
              simp only [List.mem_cons, List.not_mem_nil, or_false] at hq ⊢
              rcases hq with rfl | rfl | rfl | rfl <;> simp
            · simp only [x_ncd] at g3
              rw [zlcmp_eq (hNM _) hkey] at g3
              refine zg_blk pok2 X 5 [] (S' := (52, [(0, zR (c 0)), (1, zL key), (3, zI 3), (4, zI (i : Int))], [zI (30 + (i : Int))], ((tW a F B K S V) ++ (cW c G CN NM MK TP PP CO KN)))) rfl trivial ?_
              refine zg_reti X hR rfl rfl (by decide) (by decide) ?_
              have e9 : lkS CN NM 3 key = (i : Int) := lk_here h4 (by unfold nmS; rw [show 3 * 10 + i = (30 + (i : Int)).toNat by omega]; exact g3) (by omega)
              refine ⟨?_, rfl⟩
              unfold fnd
              rw [if_pos hn0, if_pos hn1, if_pos hn2, if_neg (show ¬ lkS CN NM 3 key = -1 by omega), e9]
    refine zg_blk pok2 X 2 [] (S' := (4, [(0, zR (c 0)), (1, zL key), (3, zI 3)], [zI 4, zI 3], ((tW a F B K S V) ++ (cW c G CN NM MK TP PP CO KN)))) rfl trivial ?_
    refine zg_icmp X 65 rfl rfl (by unfold zin; omega) (by unfold zin; omega) (fun g1 => ?_) (fun g1 => ?_)
    · exact absurd (show (4 : Int) ≤ (3 : Int) from g1) (by decide)
    · simp only [x_ncd] at g1
      refine zg_blk pok2 X 2 [] (S' := (10, [(4, zI 0), (0, zR (c 0)), (1, zL key), (3, zI 3)], [], ((tW a F B K S V) ++ (cW c G CN NM MK TP PP CO KN)))) rfl trivial ?_
      refine zg_lv [(0, zR (c 0)), (1, zL key), (3, zI 3), (4, zI 0)] (by intro q hq; simp only [List.mem_cons, List.not_mem_nil, or_false] at hq ⊢; rcases hq with rfl | rfl | rfl | rfl <;> simp) ?_
      exact loop 1000 0 (by omega) (by omega) rfl
  have o2 : ∀ (hn0 : lkS CN NM 0 key = -1) (hn1 : lkS CN NM 1 key = -1) , ZG D cy r mt2_X1_find p0 l e0 (rmR (0, 0, 0, 0)) s0 m0 ar0 be0 me0 c0 A0 Q0 0 0 (2, [(0, zR (c 0)), (1, zL key), (3, zI 2)], [], (tW a F B K S V ++ cW c G CN NM MK TP PP CO KN)) := by
    intro hn0 hn1
    have loop : ∀ (t i : Nat), (i : Int) ≤ CN 2 → CN 2 - (i : Int) < t → lk (nmS NM 2) key i = -1 → ZG D cy r mt2_X1_find p0 l e0 (rmR (0, 0, 0, 0)) s0 m0 ar0 be0 me0 c0 A0 Q0 0 0 (10, [(0, zR (c 0)), (1, zL key), (3, zI 2), (4, zI (i : Int))], [], (tW a F B K S V ++ cW c G CN NM MK TP PP CO KN)) := by
      intro t
      induction t with
      | zero => intro i h1 h2; omega
      | succ t ih =>
        intro i h1 h3 h4
        have hlc := zlcmp_in (NM (20 + (i : Int)).toNat) key
        refine zg_blk pok2 X 5 [6, 7] (S' := (18, [(0, zR (c 0)), (1, zL key), (3, zI 2), (4, zI (i : Int))], [zI (CN 2), zI (i : Int)], ((tW a F B K S V) ++ (cW c G CN NM MK TP PP CO KN)))) rfl ⟨rfl, rfl, rfl, (show zidx 2 8 from by unfold zidx; omega), trivial⟩ ?_
        refine zg_icmp X 59 rfl rfl (by unfold zin; omega) (by unfold zin; omega) (fun g1 => ?_) (fun g1 => ?_)
        · simp only [x_cnd] at g1
          refine zg_blk pok2 X 2 [] (S' := (2, [(3, zI 3), (0, zR (c 0)), (1, zL key), (4, zI (i : Int))], [], ((tW a F B K S V) ++ (cW c G CN NM MK TP PP CO KN)))) rfl trivial ?_
          refine zg_lv [(0, zR (c 0)), (1, zL key), (3, zI 3)] (by intro q hq; simp only [List.mem_cons, List.not_mem_nil, or_false] at hq ⊢; rcases hq with rfl | rfl | rfl <;> simp) ?_
          exact o3 hn0 hn1 (by unfold lkS; rw [show (CN 2).toNat = i by omega]; exact h4)
        · simp only [x_ncd] at g1
          refine zg_blk pok2 X 2 [] (S' := (25, [(0, zR (c 0)), (1, zL key), (3, zI 2), (4, zI (i : Int))], [zI 10, zI (i : Int)], ((tW a F B K S V) ++ (cW c G CN NM MK TP PP CO KN)))) rfl trivial ?_
          refine zg_icmp X 59 rfl rfl (by unfold zin; omega) (by unfold zin; omega) (fun g2 => ?_) (fun g2 => ?_)
          · simp only [x_cnd] at g2
            exfalso
            omega
          · simp only [x_ncd] at g2
            refine zg_blk pok2 X 10 [6, 8] (S' := (42, [(0, zR (c 0)), (1, zL key), (3, zI 2), (4, zI (i : Int))], [zI (zlcmp (NM ((20 + (i : Int)).toNat)) key)], ((tW a F B K S V) ++ (cW c G CN NM MK TP PP CO KN)))) rfl ⟨rfl, rfl, (show zidx (20 + (i : Int)) 40 from by unfold zidx; omega), trivial⟩ ?_
            refine zg_if X 53 rfl rfl (by unfold zin; omega) (fun g3 => ?_) (fun g3 => ?_)
            · simp only [x_cnd] at g3
              rw [zlcmp_eq (hNM _) hkey] at g3
              refine zg_blk pok2 X 2 [] (S' := (10, [(4, zI ((i : Int) + 1)), (0, zR (c 0)), (1, zL key), (3, zI 2)], [], ((tW a F B K S V) ++ (cW c G CN NM MK TP PP CO KN)))) rfl trivial ?_
              have ih9 := ih (i + 1) (by omega) (by omega) (lk_on h4 (by intro q; apply g3; unfold nmS at q; rw [show (20 + (i : Int)).toNat = 2 * 10 + i by omega]; exact q))
              rw [show (((i + 1 : Nat)) : Int) = (i : Int) + 1 by omega] at ih9
              refine zg_lv _ ?_ ih9
              intro q hq
              simp only [List.mem_cons, List.not_mem_nil, or_false] at hq ⊢
              rcases hq with rfl | rfl | rfl | rfl <;> simp
            · simp only [x_ncd] at g3
              rw [zlcmp_eq (hNM _) hkey] at g3
              refine zg_blk pok2 X 5 [] (S' := (52, [(0, zR (c 0)), (1, zL key), (3, zI 2), (4, zI (i : Int))], [zI (20 + (i : Int))], ((tW a F B K S V) ++ (cW c G CN NM MK TP PP CO KN)))) rfl trivial ?_
              refine zg_reti X hR rfl rfl (by decide) (by decide) ?_
              have e9 : lkS CN NM 2 key = (i : Int) := lk_here h4 (by unfold nmS; rw [show 2 * 10 + i = (20 + (i : Int)).toNat by omega]; exact g3) (by omega)
              refine ⟨?_, rfl⟩
              unfold fnd
              rw [if_pos hn0, if_pos hn1, if_neg (show ¬ lkS CN NM 2 key = -1 by omega), e9]
    refine zg_blk pok2 X 2 [] (S' := (4, [(0, zR (c 0)), (1, zL key), (3, zI 2)], [zI 4, zI 2], ((tW a F B K S V) ++ (cW c G CN NM MK TP PP CO KN)))) rfl trivial ?_
    refine zg_icmp X 65 rfl rfl (by unfold zin; omega) (by unfold zin; omega) (fun g1 => ?_) (fun g1 => ?_)
    · exact absurd (show (4 : Int) ≤ (2 : Int) from g1) (by decide)
    · simp only [x_ncd] at g1
      refine zg_blk pok2 X 2 [] (S' := (10, [(4, zI 0), (0, zR (c 0)), (1, zL key), (3, zI 2)], [], ((tW a F B K S V) ++ (cW c G CN NM MK TP PP CO KN)))) rfl trivial ?_
      refine zg_lv [(0, zR (c 0)), (1, zL key), (3, zI 2), (4, zI 0)] (by intro q hq; simp only [List.mem_cons, List.not_mem_nil, or_false] at hq ⊢; rcases hq with rfl | rfl | rfl | rfl <;> simp) ?_
      exact loop 1000 0 (by omega) (by omega) rfl
  have o1 : ∀ (hn0 : lkS CN NM 0 key = -1) , ZG D cy r mt2_X1_find p0 l e0 (rmR (0, 0, 0, 0)) s0 m0 ar0 be0 me0 c0 A0 Q0 0 0 (2, [(0, zR (c 0)), (1, zL key), (3, zI 1)], [], (tW a F B K S V ++ cW c G CN NM MK TP PP CO KN)) := by
    intro hn0
    have loop : ∀ (t i : Nat), (i : Int) ≤ CN 1 → CN 1 - (i : Int) < t → lk (nmS NM 1) key i = -1 → ZG D cy r mt2_X1_find p0 l e0 (rmR (0, 0, 0, 0)) s0 m0 ar0 be0 me0 c0 A0 Q0 0 0 (10, [(0, zR (c 0)), (1, zL key), (3, zI 1), (4, zI (i : Int))], [], (tW a F B K S V ++ cW c G CN NM MK TP PP CO KN)) := by
      intro t
      induction t with
      | zero => intro i h1 h2; omega
      | succ t ih =>
        intro i h1 h3 h4
        have hlc := zlcmp_in (NM (10 + (i : Int)).toNat) key
        refine zg_blk pok2 X 5 [6, 7] (S' := (18, [(0, zR (c 0)), (1, zL key), (3, zI 1), (4, zI (i : Int))], [zI (CN 1), zI (i : Int)], ((tW a F B K S V) ++ (cW c G CN NM MK TP PP CO KN)))) rfl ⟨rfl, rfl, rfl, (show zidx 1 8 from by unfold zidx; omega), trivial⟩ ?_
        refine zg_icmp X 59 rfl rfl (by unfold zin; omega) (by unfold zin; omega) (fun g1 => ?_) (fun g1 => ?_)
        · simp only [x_cnd] at g1
          refine zg_blk pok2 X 2 [] (S' := (2, [(3, zI 2), (0, zR (c 0)), (1, zL key), (4, zI (i : Int))], [], ((tW a F B K S V) ++ (cW c G CN NM MK TP PP CO KN)))) rfl trivial ?_
          refine zg_lv [(0, zR (c 0)), (1, zL key), (3, zI 2)] (by intro q hq; simp only [List.mem_cons, List.not_mem_nil, or_false] at hq ⊢; rcases hq with rfl | rfl | rfl <;> simp) ?_
          exact o2 hn0 (by unfold lkS; rw [show (CN 1).toNat = i by omega]; exact h4)
        · simp only [x_ncd] at g1
          refine zg_blk pok2 X 2 [] (S' := (25, [(0, zR (c 0)), (1, zL key), (3, zI 1), (4, zI (i : Int))], [zI 10, zI (i : Int)], ((tW a F B K S V) ++ (cW c G CN NM MK TP PP CO KN)))) rfl trivial ?_
          refine zg_icmp X 59 rfl rfl (by unfold zin; omega) (by unfold zin; omega) (fun g2 => ?_) (fun g2 => ?_)
          · simp only [x_cnd] at g2
            exfalso
            omega
          · simp only [x_ncd] at g2
            refine zg_blk pok2 X 10 [6, 8] (S' := (42, [(0, zR (c 0)), (1, zL key), (3, zI 1), (4, zI (i : Int))], [zI (zlcmp (NM ((10 + (i : Int)).toNat)) key)], ((tW a F B K S V) ++ (cW c G CN NM MK TP PP CO KN)))) rfl ⟨rfl, rfl, (show zidx (10 + (i : Int)) 40 from by unfold zidx; omega), trivial⟩ ?_
            refine zg_if X 53 rfl rfl (by unfold zin; omega) (fun g3 => ?_) (fun g3 => ?_)
            · simp only [x_cnd] at g3
              rw [zlcmp_eq (hNM _) hkey] at g3
              refine zg_blk pok2 X 2 [] (S' := (10, [(4, zI ((i : Int) + 1)), (0, zR (c 0)), (1, zL key), (3, zI 1)], [], ((tW a F B K S V) ++ (cW c G CN NM MK TP PP CO KN)))) rfl trivial ?_
              have ih9 := ih (i + 1) (by omega) (by omega) (lk_on h4 (by intro q; apply g3; unfold nmS at q; rw [show (10 + (i : Int)).toNat = 1 * 10 + i by omega]; exact q))
              rw [show (((i + 1 : Nat)) : Int) = (i : Int) + 1 by omega] at ih9
              refine zg_lv _ ?_ ih9
              intro q hq
              simp only [List.mem_cons, List.not_mem_nil, or_false] at hq ⊢
              rcases hq with rfl | rfl | rfl | rfl <;> simp
            · simp only [x_ncd] at g3
              rw [zlcmp_eq (hNM _) hkey] at g3
              refine zg_blk pok2 X 5 [] (S' := (52, [(0, zR (c 0)), (1, zL key), (3, zI 1), (4, zI (i : Int))], [zI (10 + (i : Int))], ((tW a F B K S V) ++ (cW c G CN NM MK TP PP CO KN)))) rfl trivial ?_
              refine zg_reti X hR rfl rfl (by decide) (by decide) ?_
              have e9 : lkS CN NM 1 key = (i : Int) := lk_here h4 (by unfold nmS; rw [show 1 * 10 + i = (10 + (i : Int)).toNat by omega]; exact g3) (by omega)
              refine ⟨?_, rfl⟩
              unfold fnd
              rw [if_pos hn0, if_neg (show ¬ lkS CN NM 1 key = -1 by omega), e9]
    refine zg_blk pok2 X 2 [] (S' := (4, [(0, zR (c 0)), (1, zL key), (3, zI 1)], [zI 4, zI 1], ((tW a F B K S V) ++ (cW c G CN NM MK TP PP CO KN)))) rfl trivial ?_
    refine zg_icmp X 65 rfl rfl (by unfold zin; omega) (by unfold zin; omega) (fun g1 => ?_) (fun g1 => ?_)
    · exact absurd (show (4 : Int) ≤ (1 : Int) from g1) (by decide)
    · simp only [x_ncd] at g1
      refine zg_blk pok2 X 2 [] (S' := (10, [(4, zI 0), (0, zR (c 0)), (1, zL key), (3, zI 1)], [], ((tW a F B K S V) ++ (cW c G CN NM MK TP PP CO KN)))) rfl trivial ?_
      refine zg_lv [(0, zR (c 0)), (1, zL key), (3, zI 1), (4, zI 0)] (by intro q hq; simp only [List.mem_cons, List.not_mem_nil, or_false] at hq ⊢; rcases hq with rfl | rfl | rfl | rfl <;> simp) ?_
      exact loop 1000 0 (by omega) (by omega) rfl
  have o0 : ZG D cy r mt2_X1_find p0 l e0 (rmR (0, 0, 0, 0)) s0 m0 ar0 be0 me0 c0 A0 Q0 0 0 (2, [(0, zR (c 0)), (1, zL key), (3, zI 0)], [], (tW a F B K S V ++ cW c G CN NM MK TP PP CO KN)) := by
    have loop : ∀ (t i : Nat), (i : Int) ≤ CN 0 → CN 0 - (i : Int) < t → lk (nmS NM 0) key i = -1 → ZG D cy r mt2_X1_find p0 l e0 (rmR (0, 0, 0, 0)) s0 m0 ar0 be0 me0 c0 A0 Q0 0 0 (10, [(0, zR (c 0)), (1, zL key), (3, zI 0), (4, zI (i : Int))], [], (tW a F B K S V ++ cW c G CN NM MK TP PP CO KN)) := by
      intro t
      induction t with
      | zero => intro i h1 h2; omega
      | succ t ih =>
        intro i h1 h3 h4
        have hlc := zlcmp_in (NM (0 + (i : Int)).toNat) key
        refine zg_blk pok2 X 5 [6, 7] (S' := (18, [(0, zR (c 0)), (1, zL key), (3, zI 0), (4, zI (i : Int))], [zI (CN 0), zI (i : Int)], ((tW a F B K S V) ++ (cW c G CN NM MK TP PP CO KN)))) rfl ⟨rfl, rfl, rfl, (show zidx 0 8 from by unfold zidx; omega), trivial⟩ ?_
        refine zg_icmp X 59 rfl rfl (by unfold zin; omega) (by unfold zin; omega) (fun g1 => ?_) (fun g1 => ?_)
        · simp only [x_cnd] at g1
          refine zg_blk pok2 X 2 [] (S' := (2, [(3, zI 1), (0, zR (c 0)), (1, zL key), (4, zI (i : Int))], [], ((tW a F B K S V) ++ (cW c G CN NM MK TP PP CO KN)))) rfl trivial ?_
          refine zg_lv [(0, zR (c 0)), (1, zL key), (3, zI 1)] (by intro q hq; simp only [List.mem_cons, List.not_mem_nil, or_false] at hq ⊢; rcases hq with rfl | rfl | rfl <;> simp) ?_
          exact o1 (by unfold lkS; rw [show (CN 0).toNat = i by omega]; exact h4)
        · simp only [x_ncd] at g1
          refine zg_blk pok2 X 2 [] (S' := (25, [(0, zR (c 0)), (1, zL key), (3, zI 0), (4, zI (i : Int))], [zI 10, zI (i : Int)], ((tW a F B K S V) ++ (cW c G CN NM MK TP PP CO KN)))) rfl trivial ?_
          refine zg_icmp X 59 rfl rfl (by unfold zin; omega) (by unfold zin; omega) (fun g2 => ?_) (fun g2 => ?_)
          · simp only [x_cnd] at g2
            exfalso
            omega
          · simp only [x_ncd] at g2
            refine zg_blk pok2 X 10 [6, 8] (S' := (42, [(0, zR (c 0)), (1, zL key), (3, zI 0), (4, zI (i : Int))], [zI (zlcmp (NM ((0 + (i : Int)).toNat)) key)], ((tW a F B K S V) ++ (cW c G CN NM MK TP PP CO KN)))) rfl ⟨rfl, rfl, (show zidx (0 + (i : Int)) 40 from by unfold zidx; omega), trivial⟩ ?_
            refine zg_if X 53 rfl rfl (by unfold zin; omega) (fun g3 => ?_) (fun g3 => ?_)
            · simp only [x_cnd] at g3
              rw [zlcmp_eq (hNM _) hkey] at g3
              refine zg_blk pok2 X 2 [] (S' := (10, [(4, zI ((i : Int) + 1)), (0, zR (c 0)), (1, zL key), (3, zI 0)], [], ((tW a F B K S V) ++ (cW c G CN NM MK TP PP CO KN)))) rfl trivial ?_
              have ih9 := ih (i + 1) (by omega) (by omega) (lk_on h4 (by intro q; apply g3; unfold nmS at q; rw [show (0 + (i : Int)).toNat = 0 * 10 + i by omega]; exact q))
              rw [show (((i + 1 : Nat)) : Int) = (i : Int) + 1 by omega] at ih9
              refine zg_lv _ ?_ ih9
              intro q hq
              simp only [List.mem_cons, List.not_mem_nil, or_false] at hq ⊢
              rcases hq with rfl | rfl | rfl | rfl <;> simp
            · simp only [x_ncd] at g3
              rw [zlcmp_eq (hNM _) hkey] at g3
              refine zg_blk pok2 X 5 [] (S' := (52, [(0, zR (c 0)), (1, zL key), (3, zI 0), (4, zI (i : Int))], [zI (0 + (i : Int))], ((tW a F B K S V) ++ (cW c G CN NM MK TP PP CO KN)))) rfl trivial ?_
              refine zg_reti X hR rfl rfl (by decide) (by decide) ?_
              have e9 : lkS CN NM 0 key = (i : Int) := lk_here h4 (by unfold nmS; rw [show 0 * 10 + i = (0 + (i : Int)).toNat by omega]; exact g3) (by omega)
              refine ⟨?_, rfl⟩
              unfold fnd
              rw [if_neg (show ¬ lkS CN NM 0 key = -1 by omega), e9]
              simp
    refine zg_blk pok2 X 2 [] (S' := (4, [(0, zR (c 0)), (1, zL key), (3, zI 0)], [zI 4, zI 0], ((tW a F B K S V) ++ (cW c G CN NM MK TP PP CO KN)))) rfl trivial ?_
    refine zg_icmp X 65 rfl rfl (by unfold zin; omega) (by unfold zin; omega) (fun g1 => ?_) (fun g1 => ?_)
    · exact absurd (show (4 : Int) ≤ (0 : Int) from g1) (by decide)
    · simp only [x_ncd] at g1
      refine zg_blk pok2 X 2 [] (S' := (10, [(4, zI 0), (0, zR (c 0)), (1, zL key), (3, zI 0)], [], ((tW a F B K S V) ++ (cW c G CN NM MK TP PP CO KN)))) rfl trivial ?_
      refine zg_lv [(0, zR (c 0)), (1, zL key), (3, zI 0), (4, zI 0)] (by intro q hq; simp only [List.mem_cons, List.not_mem_nil, or_false] at hq ⊢; rcases hq with rfl | rfl | rfl | rfl <;> simp) ?_
      exact loop 1000 0 (by omega) (by omega) rfl
  refine zg_blk pok2 X 2 [] (S' := (2, [(3, zI 0), (0, zR (c 0)), (1, zL key)], [], ((tW a F B K S V) ++ (cW c G CN NM MK TP PP CO KN)))) rfl trivial ?_
  refine zg_lv [(0, zR (c 0)), (1, zL key), (3, zI 0)] (by intro q hq; simp only [List.mem_cons, List.not_mem_nil, or_false] at hq ⊢; rcases hq with rfl | rfl | rfl <;> simp) ?_
  exact o0
end ZC
