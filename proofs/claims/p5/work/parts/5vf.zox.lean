/-! the z engine: what lies outside; texts, rows, makers -/
theorem jm_charL2 {l : Launch} {q av N i : Nat} {f : Nat → Int32} (hi : i < N) (hn : N < 2 ^ 31) : Met l yJ1_charAt_3b067 (Cond.code yJ1_charAt_3b067 cJ1_charAt_3b067 2 (some .char) :: BIG) (rmR (3, 0, 0, 110)) (va_Pc [.ref av, .int (nI i)] (JB q av N f)) (va_Qi (fun r (_ : Unit) => r = f i &&& 255) (fun _ _ => True) jF) 0 0 jF := by
  refine jm_met (by decide +kernel) (Nat.le_of_ble_eq_true rfl) ?_
  intro p e s m below meth c Q ls hx hb hml hown hbig hB hlv ret
  have hB0 := hB
  obtain ⟨h1, h2, h3, h4, h5, h6⟩ := hB
  have hlv : lv_has ls 2 [(0, .ref av), (1, .int (nI i))] := hlv
  refine lv_iload_n hx hb dJ_charL_0 rfl (lv_at hlv 1 rfl) ?_
  refine lv_aload_n hx hb dJ_charL_1 rfl (lv_at hlv 0 rfl) ?_
  refine va_tlen hx hb h6 va_S.rf (v := nI N) rfl (pc := 2) dJ_charL_2 ?_
  refine jm_runSv (A := jF) (vs := [.int (nI i), .int (nI N)]) (rest := []) (pc := 3) (i := 9) (n := 2) (jm_chk (l := l) (q := q) (av := av) (f := f) hi hn) (fun U g mk a h => h.calling) (fun U hU hW => hB0.warm hW hU va_S.rf) (h_at_ok (pos := 544) (by decide +kernel)) (h_at_ok (pos := 129) (by decide +kernel)) (h_at_ok (pos := 542) (by decide +kernel)) (h_at_ok (pos := 543) (by decide +kernel)) (by decide +kernel) (by decide +kernel) (by decide +kernel) rfl hx hb hml hown hbig hlv.1 (Nat.le_of_ble_eq_true rfl) (by decide) (by decide) (by decide) (by decide) (by decide +kernel) va_S.rf (fun H1 locs1 hk hS1 => ?_)
  refine lv_aload_n hx hb dJ_charL_6 rfl (lv_at hlv 0 rfl) ?_
  refine lv_iload_n hx hb dJ_charL_7 rfl (lv_at hlv 1 rfl) ?_
  refine va_tb hx hb h6 hS1 (vp_in_nI hi hn) (v := .int (f i)) (by rw [nI_clamp (by omega)]) (pc := 8) dJ_charL_8 ?_
  refine lv_sipush (v := 255) hx hb (pc := 9) dJ_charL_9 (by decide) ?_
  refine lv_iand hx hb (pc := 12) dJ_charL_12 ?_
  refine lv_i2c hx hb (pc := 13) dJ_charL_13 (sc_c2 (f i)) ?_
  exact ret _ _ 14 ls _ hS1 (sc_nar _) rfl (by decide +kernel)
theorem jm_charAt2 {l : Launch} {q av N i : Nat} {f : Nat → Int32} (hi : i < N) (hn : N < 2 ^ 31) : Met l yJ0_charAt_5068e (Cond.code yJ0_charAt_5068e cJ0_charAt_5068e 2 (some .char) :: BIG) (rmR (4, 0, 0, 139)) (va_Pc [.ref q, .int (nI i)] (JB q av N f)) (va_Qi (fun r (_ : Unit) => r = f i &&& 255) (fun _ _ => True) jF) 0 0 jF := by
  refine jm_met (by decide +kernel) (Nat.le_of_ble_eq_true rfl) ?_
  intro p e s m below meth c Q ls hx hb hml hown hbig hB hlv ret
  have hB0 := hB
  obtain ⟨h1, h2, h3, h4, h5, h6⟩ := hB
  have hlv : lv_has ls 2 [(0, .ref q), (1, .int (nI i))] := hlv
  refine lv_aload_n hx hb dJ_charAt_0 rfl (lv_at hlv 0 rfl) ?_
  refine jm_runV (A := jF) (vs := []) (rest := []) (pc := 1) (i := 492) (n := 0) (q := q) (jm_isLatin1 (l := l) (q := q) (av := av) (N := N) (f := f)) (fun U g mk a h => h.calling) (fun U hU hW => hB0.warm hW hU va_S.rf) (h_at_ok (pos := 538) (by decide +kernel)) (h_at_ok (pos := 129) (by decide +kernel)) (h_at_ok (pos := 535) (by decide +kernel)) (h_at_ok (pos := 536) (by decide +kernel)) (h_at_ok (pos := 537) (by decide +kernel)) (by decide +kernel) (by decide +kernel) (by decide +kernel) rfl ?_ hx hb hml hown hbig hlv.1 (Nat.le_of_ble_eq_true rfl) (by decide) (by decide) (by decide) (by decide) (by decide +kernel) va_S.rf (fun r H1 locs1 hr hk hS1 => ?_)
  · obtain ⟨cell, a1, a2, a3, -⟩ := h3
    exact ⟨cell, a1, a2, a3⟩
  · have hr : r = 1 := hr
    subst hr
    refine lv_if_eq hx hb dJ_charAt_4 (tgt := 16) (by decide) (fun h => absurd h (by decide)) (fun _ => ?_)
    refine lv_aload_n hx hb dJ_charAt_7 rfl (lv_at hlv 0 rfl) ?_
    refine vk_getf hx hb h5 hS1 hown (hbig _ (h_at_ok (pos := 2020) (by decide +kernel))) (fun _ => j_same) dJ_charAt_8 ?_
    refine lv_iload_n hx hb dJ_charAt_11 rfl (lv_at hlv 1 rfl) ?_
    refine jm_runS (A := jF) (vs := [.ref av, .int (nI i)]) (rest := []) (pc := 12) (i := 495) (n := 2) (jm_charL2 (l := l) (q := q) (f := f) hi hn) (fun U g mk a h => h.calling) (fun U hU hW => hB0.warm hW hU hS1) (h_at_ok (pos := 541) (by decide +kernel)) (h_at_ok (pos := 130) (by decide +kernel)) (h_at_ok (pos := 539) (by decide +kernel)) (h_at_ok (pos := 540) (by decide +kernel)) (by decide +kernel) (by decide +kernel) (by decide +kernel) rfl hx hb hml hown hbig hlv.1 (Nat.le_of_ble_eq_true rfl) (by decide) (by decide) (by decide) (by decide) (by decide +kernel) hS1 (fun r H2 locs2 hr hk2 hS2 => ?_)
    have e2 : narrow .char (.int r) = .int r := by
      have hr0 : r = f i &&& 255 := hr
      have hr9 := jc_tab (f i)
      rw [← hr0] at hr9
      obtain ⟨k, e1, e2, e3⟩ := en_nn hr9.1
      rw [e1]
      exact (pk_charN (by omega)).1
    exact ret _ _ 15 ls r hS2 e2 hr (by decide +kernel)
theorem z_a255 {z : Int} (h1 : 0 ≤ z) (h2 : z ≤ 127) : Int32.ofInt z &&& 255 = Int32.ofInt z := by
  have key : ∀ k : Nat, k < 128 → Int32.ofInt (k : Int) &&& 255 = Int32.ofInt (k : Int) := by decide +kernel
  have e : z = ((z.toNat : Nat) : Int) := by omega
  rw [e]
  exact key _ (by omega)
theorem ztx_rng : ∀ (j : Nat), (∀ b ∈ ztx j, 0 ≤ b ∧ b ≤ 127) := by
  intro j
  unfold ztx
  split
  · decide +kernel
  · decide +kernel
  · decide +kernel
  · intro b h
    cases h
theorem ztx_at (j i : Nat) : 0 ≤ (ztx j).getD i 0 ∧ (ztx j).getD i 0 ≤ 127 := by
  rw [List.getD_eq_getElem?_getD]
  cases h : (ztx j)[i]? with
  | none => exact ⟨by decide, by decide⟩
  | some b => exact ztx_rng j b (List.mem_of_getElem? h)
section ZOX
variable {D : va_G} {cy : Nat → ClassId} {r : va_W} {ex : Nat → Nat} {M : MT} {own : String} {xs : Nat → Int32}
variable {p : Program} {l : Launch} {e : Env} {R : Room} {s : State} {m : MethodId} {args : Array Value} {below : List Frame} {meth : Method} {c : Code} {A : Nat → Prop} {Q : State → Prop} {rm : RMt} {cb sb N K : Nat} {pc : Nat} {lv : List (Nat × ZV)} {st : List ZV} {Y : ZW}
theorem zg_gst (X : Cx OW2 (EWX xs) D cy ex M own p R s m args meth c A rm cb sb) {i j : Nat} (hat : x_at (mT M) pc = some (.getstatic i, 3)) (hj : z_gs i = some j) (hM : mO M = 2)
    (k : ZG D cy r M p l e R s m args below meth c A Q N K (pc + 3, lv, .inr (.inr (some (ex j))) :: st, Y)) : ZG D cy r M p l e R s m args below meth c A Q N K (pc, lv, st, Y) := by
  have hd := x_dec X hat
  obtain ⟨x1, x2, x3, x4, x5, x6, x7, x8, x9, x10, x11⟩ := X
  intro H locs ls a1 a2 a3 a4
  rw [hM] at x4
  have e0 := own_2 x4
  subst e0
  obtain ⟨nm, row, h1, h2⟩ := z_gs_ok hj
  obtain ⟨g1, g2⟩ := x10.2.1 _ h1
  exact va_getsN x1 x2 g1 a4 x5 (va_Nw.use rfl (x7.2.1 _ h2)) (fun _ => j_same) hd (k H locs ls a1 a2 a3 a4)
theorem zg_rld (X : Cx OW2 (EWX xs) D cy ex M own p R s m args meth c A rm cb sb) {j : Nat} {a : Int} {row : List Int} (hat : x_at (mT M) pc = some (.iaload, 1)) (hj : z_row j = some row) (ha : 0 ≤ a ∧ a < 4)
    (k : ZG D cy r M p l e R s m args below meth c A Q N K (pc + 1, lv, .inl (row.getD a.toNat 0) :: st, Y)) : ZG D cy r M p l e R s m args below meth c A Q N K (pc, lv, .inl a :: .inr (.inr (some (ex j))) :: st, Y) := by
  have hd := x_dec X hat
  obtain ⟨x1, x2, x3, x4, x5, x6, x7, x8, x9, x10, x11⟩ := X
  intro H locs ls a1 a2 a3 a4
  obtain ⟨⟨nm, hin⟩, hb9⟩ := z_row_ok hj
  obtain ⟨t1, t2⟩ := x10.2.1 _ hin
  exact va_ti x1 x2 t2 a4 (z_vin ⟨ha.1, ha.2, by omega⟩) (v := .int (Int32.ofInt (row.getD a.toNat 0))) (by rw [z_tn ha.1 (by omega)]) hd (k H locs ls a1 a2 a3 a4)
theorem zg_ldt (X : Cx OW2 (EWX xs) D cy ex M own p R s m args meth c A rm cb sb) {i j : Nat} (hat : x_at (mT M) pc = some (.ldc i, 2)) (hj : z_ld i = some j) (hM : mO M = 11)
    (k : ZG D cy r M p l e R s m args below meth c A Q N K (pc + 2, lv, .inr (.inr (some (ex j))) :: st, Y)) : ZG D cy r M p l e R s m args below meth c A Q N K (pc, lv, st, Y) := by
  have hd := x_dec X hat
  obtain ⟨x1, x2, x3, x4, x5, x6, x7, x8, x9, x10, x11⟩ := X
  intro H locs ls a1 a2 a3 a4
  rw [hM] at x4
  have e0 := own_11 x4
  subst e0
  obtain ⟨tx, N, h1⟩ := z_ld_ok hj
  obtain ⟨g1, g2⟩ := x10.2.2.1 _ h1
  exact va_ldcS x1 x2 x5 g1 hd (k H locs ls a1 a2 a3 a4)
theorem zg_len (X : Cx OW2 (EWX xs) D cy ex M own p R s m args meth c A rm cb sb) {j n : Nat} (hat : x_at (mT M) pc = some (.invokevirtual 96, 3)) (hj : z_txt j = some n) (hM : mO M = 11) (hc8 : z_cats st ≤ 8) (h3 : 3 ≤ rm.1) (h80 : 80 ≤ rm.2.2.2) (hN : N ≤ cb + rm.2.1) (hK : K ≤ sb + rm.2.2.1)
    (k : ZG D cy r M p l e R s m args below meth c A Q N K (pc + 3, lv, .inl (n : Int) :: st, Y)) : ZG D cy r M p l e R s m args below meth c A Q N K (pc, lv, .inr (.inr (some (ex j))) :: st, Y) := by
  have hd := x_dec X hat
  obtain ⟨x1, x2, x3, x4, x5, x6, x7, x8, x9, x10, x11, x12, x13, x14⟩ := X
  intro H locs ls a1 a2 a3 a4
  rw [hM] at x4
  have e0 := own_11 x4
  subst e0
  obtain ⟨hN9, i, tx, hin⟩ := z_txt_ok hj
  obtain ⟨t1, av, f, hf, t2⟩ := x10.2.2.1 _ hin
  refine jm_runV (vs := []) (rest := st.map zv) (i := 96) (n := 0) (jm_length (l := l) (q := ex j) (av := av) (N := n) (f := f) (by omega)) (fun U g mk a h => h.calling) (fun U hU hW => t2.jb hW hU a4) (h_at_ok (pos := 520) (by decide +kernel)) (h_at_ok (pos := 129) (by decide +kernel)) (h_at_ok (pos := 517) (by decide +kernel)) (h_at_ok (pos := 518) (by decide +kernel)) (h_at_ok (pos := 519) (by decide +kernel)) (by decide +kernel) (by decide +kernel) (by decide +kernel) rfl ?_ x1 x2 x3 x5 x6 a1.1 (by show x_cats (st.map zv) ≤ 8; rw [z_cats_ok]; exact hc8) (by omega) (by omega) (by omega) (by omega) hd a4 (fun r9 H1 locs1 hr hk hS1 => ?_)
  · obtain ⟨cell, c1, c2, c3, -⟩ := t2.2.2.1.kept a4.2.1
    exact ⟨cell, c1, c2, c3⟩
  · have hr : r9 = nI n := hr
    subst hr
    have e9 : nI n = Int32.ofInt (n : Int) := (fa_eq _ _).mpr (by rw [nI_toInt (by omega), en_o32 (by omega) (by omega)])
    rw [e9]
    exact k H1 locs1 ls a1 (fun k9 q9 hq9 => (a2 k9 q9 hq9).kept (hk q9.1 (a2 k9 q9 hq9).lt)) a3 hS1
theorem zg_chr (X : Cx OW2 (EWX xs) D cy ex M own p R s m args meth c A rm cb sb) {j n : Nat} {a : Int} (hat : x_at (mT M) pc = some (.invokevirtual 105, 3)) (hj : z_txt j = some n) (hM : mO M = 11) (hc8 : z_cats st ≤ 8) (h3 : 5 ≤ rm.1) (h80 : 160 ≤ rm.2.2.2) (hN : N ≤ cb + rm.2.1) (hK : K ≤ sb + rm.2.2.1) (ha : 0 ≤ a ∧ a < (n : Int))
    (k : ZG D cy r M p l e R s m args below meth c A Q N K (pc + 3, lv, .inl ((ztx j).getD a.toNat 0) :: st, Y)) : ZG D cy r M p l e R s m args below meth c A Q N K (pc, lv, .inl a :: .inr (.inr (some (ex j))) :: st, Y) := by
  have hd := x_dec X hat
  obtain ⟨x1, x2, x3, x4, x5, x6, x7, x8, x9, x10, x11, x12, x13, x14⟩ := X
  intro H locs ls a1 a2 a3 a4
  rw [hM] at x4
  have e0 := own_11 x4
  subst e0
  obtain ⟨hN9, i, tx, hin⟩ := z_txt_ok hj
  obtain ⟨t1, av, f, hf, t2⟩ := x10.2.2.1 _ hin
  have ea : Int32.ofInt a = nI a.toNat := (fa_eq _ _).mpr (by rw [nI_toInt (by omega), en_o32 (by omega) (by omega)]; omega)
  have hk9 : ZG D cy r M p l e R s m args below meth c A Q N K (pc, lv, .inl a :: .inr (.inr (some (ex j))) :: st, Y) = XG D M p l e R s m args below meth c A Q N K (pc, zl lv, .int (nI a.toNat) :: .ref (ex j) :: st.map zv, zw cy Y ++ r) := by
    rw [← ea]
    rfl
  suffices hs : XG D M p l e R s m args below meth c A Q N K (pc, zl lv, .int (nI a.toNat) :: .ref (ex j) :: st.map zv, zw cy Y ++ r) by
    rw [← hk9] at hs
    exact hs H locs ls a1 a2 a3 a4
  clear hk9
  intro H locs ls a1 a2 a3 a4
  refine jm_runV (vs := [.int (nI a.toNat)]) (rest := st.map zv) (i := 105) (n := 1) (jm_charAt2 (l := l) (q := ex j) (av := av) (N := n) (f := f) (i := a.toNat) (by omega) (by omega)) (fun U g mk a h => h.calling) (fun U hU hW => t2.jb hW hU a4) (h_at_ok (pos := 534) (by decide +kernel)) (h_at_ok (pos := 129) (by decide +kernel)) (h_at_ok (pos := 531) (by decide +kernel)) (h_at_ok (pos := 532) (by decide +kernel)) (h_at_ok (pos := 533) (by decide +kernel)) (by decide +kernel) (by decide +kernel) (by decide +kernel) rfl ?_ x1 x2 x3 x5 x6 a1.1 (by show x_cats (st.map zv) ≤ 8; rw [z_cats_ok]; exact hc8) (by omega) (by omega) (by omega) (by omega) hd a4 (fun r9 H1 locs1 hr hk hS1 => ?_)
  · obtain ⟨cell, c1, c2, c3, -⟩ := t2.2.2.1.kept a4.2.1
    exact ⟨cell, c1, c2, c3⟩
  · have hr : r9 = f a.toNat &&& 255 := hr
    rw [hf, z_a255 (ztx_at j a.toNat).1 (ztx_at j a.toNat).2] at hr
    subst hr
    exact k H1 locs1 ls a1 (fun k9 q9 hq9 => (a2 k9 q9 hq9).kept (hk q9.1 (a2 k9 q9 hq9).lt)) a3 hS1
end ZOX
