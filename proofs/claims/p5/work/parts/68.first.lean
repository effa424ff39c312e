/-! the law's first state: made by the first engine, told by kinds -/
def CF1 : List AC := [.inr (10, [aR 1, aR 3, aR 7, aR 22, aR 29, aR 31, aR 37, aR 40, aR 42, aR 43, aR 44, aR 45, aI 0, aN, aI 0, aI (-1), aI (-1), aI (-1)]), .inr (8, [aR 2, aI 0]), .inl (1, 940, aI 0, []), .inr (9, [aR 1, aR 4, aR 5, aR 6, aI 0, aI 0, aI 0, aI 0, aL 0 0, aI 0, aI 0]), .inl (0, 941, aI 0, []), .inl (0, 941, aI 0, []), .inl (3, 941, aL 0 0, []), .inr (6, [aR 8, aR 16, aR 17, aR 18, aR 19, aR 20, aR 21, aI 0, aI 0, aI 0]), .inr (1, [aR 9, aR 10, aR 11, aR 12, aR 13, aR 14, aR 15, aI 0, aI 0]), .inl (0, 8, aI 0, [(7, aI 5), (6, aI 2), (5, aI 1), (4, aI 3)]), .inl (3, 40, aL 0 0, []), .inl (0, 8, aI 0, []), .inl (0, 8, aI 0, []), .inl (0, 6, aI 0, []), .inl (0, 6, aI 0, []), .inl (0, 6, aI 0, []), .inl (0, 8, aI 0, []), .inl (0, 8, aI 0, []), .inl (0, 8, aI 0, []), .inl (0, 6, aI 0, []), .inl (0, 6, aI 0, []), .inl (0, 6, aI 0, []), .inr (6, [aR 8, aR 23, aR 24, aR 25, aR 26, aR 27, aR 28, aI 0, aI 0, aI 0]), .inl (0, 8, aI 0, []), .inl (0, 8, aI 0, []), .inl (0, 8, aI 0, []), .inl (0, 6, aI 0, []), .inl (0, 6, aI 0, []), .inl (0, 6, aI 0, []), .inr (4, [aR 30, aI 0, aI 0]), .inl (4, 9, aN, []), .inr (0, [aR 32, aR 33, aR 34, aR 35, aI 0, aR 36]), .inl (0, 40, aI 0, []), .inl (0, 40, aI 0, []), .inl (0, 40, aI 0, []), .inl (0, 40, aI 0, []), .inl (0, 4, aI 0, [(3, aI (-1)), (2, aI (-1)), (1, aI (-1)), (0, aI (-1))]), .inr (5, [aR 38, aR 39]), .inl (0, 8, aI 0, [(7, aI (-1)), (6, aI (-1)), (5, aI (-1)), (4, aI (-1)), (3, aI (-1)), (2, aI (-1)), (1, aI (-1)), (0, aI (-1))]), .inl (0, 10, aI 0, []), .inr (2, [aR 41, aI (-1), aI (-1)]), .inl (0, 8, aI 0, []), .inr (3, [aI 0]), .inl (4, 2, aN, []), .inl (5, 2, aN, []), .inl (1, 96, aI 0, []), .inr (11, [aI 0, aR 47, aI 0, aI 0, aI 0, aI 0, aR 48, aR 49, aR 50, aR 51, aR 52, aI 0, aI 0, aI 0, aI 0, aI 0, aI 0, aL 0 0, aI 0, aI 0, aI 0, aR 53, aR 54, aI 0, aI 0, aI 0, aI 0, aI 0, aI 0, aI 0, aI 0, aI 0, aI 0, aR 55, aR 56, aR 57, aI 0, aR 58, aI 0, aI 0, aI 0, aR 59, aI 0, aR 60, aI 0, aI 0, aI 0, aI 0, aI 0, aR 61, aR 62, aR 63, aR 64]), .inl (1, 940, aI 0, []), .inl (0, 269, aI 0, [(7, aI 5), (6, aI 2), (5, aI 1), (4, aI 3)]), .inl (0, 43, aI 0, [(7, aI 5), (6, aI 2), (5, aI 1), (4, aI 3)]), .inl (0, 160, aI 0, []), .inl (3, 56, aL 0 0, []), .inl (3, 29, aL 0 0, [(28, aL 121450625394034 121450625394034), (27, aL 474080961892 474080961892), (26, aL 469786323827 469786323827), (25, aL 2003399784 2003399784), (24, aL 24948 24948), (23, aL 6840691 6840691), (22, aL 1819242085 1819242085), (21, aL 27973166868030820 27973166868030820), (20, aL 7237492 7237492), (19, aL 6385252 6385252), (18, aL 28530 28530), (17, aL 6578553 6578553), (16, aL 119182682386035 119182682386035), (15, aL 1886745715 1886745715), (14, aL 123623812527219 123623812527219), (13, aL 474080961907 474080961907), (12, aL 1634954099 1634954099), (11, aL 1735353715 1735353715), (10, aL 1717662580 1717662580), (9, aL 2002872165 2002872165), (8, aL 1835627621 1835627621), (7, aL 1718185573 1718185573), (6, aL 461414299507 461414299507), (5, aL 28832984742848366 28832984742848366), (4, aL 123581014175598 123581014175598), (3, aL 26995 26995), (2, aL 499967946343 499967946343), (1, aL 1835102827 1835102827), (0, aL 482854658917 482854658917)]), .inl (0, 360, aI 0, []), .inl (0, 45, aI 0, []), .inl (0, 10, aI 0, []), .inl (0, 8, aI 0, []), .inl (0, 8, aI 0, []), .inl (1, 96, aI 0, []), .inl (0, 4, aI 0, []), .inl (0, 45, aI 0, []), .inl (2, 45, aI 0, []), .inl (0, 538, aI 0, []), .inl (3, 56, aL 0 0, []), .inl (2, 2, aI 0, []), .inl (3, 1, aL 0 0, [])]
def KAP : List Nat := [0, 1, 2, 3, 4, 5, 6, 44, 51, 52, 53, 54, 55, 56, 57, 58, 45, 46, 47, 48, 49, 50, 85, 86, 87, 88, 89, 90, 91, 7, 8, 9, 10, 11, 12, 13, 14, 15, 16, 17, 18, 19, 20, 21, 22, 23, 25, 26, 27, 28, 29, 30, 31, 32, 33, 34, 35, 36, 37, 38, 39, 40, 41, 42, 43, 24]
def mt1_law : MT := (yL_law, code, 7, some .boolean, (12, 0, 1, 99), (2048, 601024, 7293034, 84000), tb1_law)
def ST23 : ST := (23, [(4, aI 0), (3, aR 65), (2, aR 46), (1, aR 0), (0, aS)], [], [], CF1, 66, 7071)
def first_chk : Bool := match e_run PRG1 RTB1 [ST23] 30000 true false mt1_law tb1_law (0, [(0, aS)], [], [], [], 0, 0) with | some [] => true | _ => false
set_option maxRecDepth 1000000 in
theorem first_ok : first_chk = true := by decide +kernel
theorem first_run : e_run PRG1 RTB1 [ST23] 30000 true false mt1_law tb1_law (0, [(0, aS)], [], [], [], 0, 0) = some [] := by
  have h := first_ok
  unfold first_chk at h
  split at h
  · rename_i e0
    exact e0
  · cases h
theorem td1_law : d_chkL code tb1_law = true := by decide +kernel
theorem tok1_law : TOK OW2 mt1_law := by
  refine ⟨fun q hq => ?_, fun h => absurd h (by decide)⟩
  have h1 := List.all_eq_true.mp td1_law q hq
  split at h1
  · rename_i r hr
    have h1 := of_decide_eq_true h1
    show decode code q.1 = _
    rw [hr, h1]
  · cases h1
set_option maxRecDepth 1000000 in
theorem kap_fit : w_fit T2 KAP 1000 CF1 = true := by decide +kernel
theorem kap_uq : ∀ i i' : Fin 66, KAP.getD i.val 0 < 51 → KAP.getD i.val 0 = KAP.getD i'.val 0 → i = i' := by decide +kernel
theorem kap_al : ∀ κ : Fin 51, κ.val ∈ KAP := by decide +kernel
theorem kap_len : KAP.length = 66 := rfl
section FIRST
variable {cy : Nat → ClassId} {ν : Nat → Int} {b : Nat} {ws : va_W}
theorem first_pool (hW : gW ν b cy CF1 ws) : hpool T2 cy ((alw ws).zip KAP ++ [(b, 1000)]) KAP ws := by
  have hf := kap_fit
  unfold w_fit at hf
  simp only [Bool.and_eq_true] at hf
  have hl := beq3 hf.1
  have hl2 : KAP.length = ws.length := by rw [hl, hW.1]
  have hz : ∀ (i κ q : Nat), KAP[i]? = some κ → (alw ws)[i]? = some q → (q, κ) ∈ (alw ws).zip KAP ++ [(b, 1000)] := fun i κ q h1 h2 => List.mem_append_left _ (List.mem_of_getElem? (i := i) (List.getElem?_zip_eq_some.mpr ⟨h2, h1⟩))
  refine ⟨hl2, fun i κ hi => ?_, fun q κ d hq hd => ?_, fun i i' κ hκ h1 h2 => ?_, fun κ hκ => ?_⟩
  · have h1 := List.all_eq_true.mp hf.2 i (List.mem_range.mpr (List.getElem?_eq_some_iff.mp hi).1)
    rw [hi] at h1
    split at h1
    · rename_i κ' c' e1 e2
      cases e1
      obtain ⟨q, e, g1, g2⟩ := hW.2 i c' e2
      have g3 : (alw ws)[i]? = some q := by rw [List.getElem?_map, g1]; rfl
      obtain ⟨d, d1, d2⟩ := c_fit_ok (AK := (alw ws).zip KAP ++ [(b, 1000)]) hz (List.mem_append_right _ List.mem_cons_self) g2 h1
      exact ⟨q, e, d, g1, d1, d2, hz i κ q hi g3⟩
    · cases h1
  · rcases List.mem_append.mp hq with hq | hq
    · obtain ⟨i, hi⟩ := List.mem_iff_getElem?.mp hq
      obtain ⟨h1, h2⟩ := List.getElem?_zip_eq_some.mp hi
      rw [List.getElem?_map] at h1
      cases h3 : ws[i]? with
      | none => rw [h3] at h1; cases h1
      | some x =>
        rw [h3] at h1
        have h1 : x.1 = q := Option.some.inj h1
        exact ⟨i, x.2, h2, by rw [h3, ← h1]⟩
    · have hq := List.mem_singleton.mp hq
      cases hq
      have h9 : T2.1[1000]? = none := by decide +kernel
      rw [h9] at hd
      cases hd
  · have hκ : κ < 51 := hκ
    have l1 := (List.getElem?_eq_some_iff.mp h1).1
    have l2 := (List.getElem?_eq_some_iff.mp h2).1
    rw [kap_len] at l1 l2
    have e1 : KAP.getD i 0 = κ := by rw [List.getD_eq_getElem?_getD, h1]; rfl
    have e2 : KAP.getD i' 0 = κ := by rw [List.getD_eq_getElem?_getD, h2]; rfl
    have := kap_uq ⟨i, l1⟩ ⟨i', l2⟩ (by show KAP.getD i 0 < 51; rw [e1]; exact hκ) (by show KAP.getD i 0 = KAP.getD i' 0; rw [e1, e2])
    exact congrArg Fin.val this
  · exact List.mem_iff_getElem?.mp (kap_al ⟨κ, hκ⟩)
theorem first_cell {i κ n j : Nat} {d : AV} {x : List (Nat × AV)} {v : Int} (hW : gW ν b cy CF1 ws) (hu : κ < 51) (hi : KAP[i]? = some κ) (hc : CF1[i]? = some (.inl (0, n, d, x))) (hj : j < n) (hg : e_get d x j = aI v) : cint (c_cu KAP ws) κ j = v := by
  obtain ⟨q, e, g1, g2⟩ := hW.2 i _ hc
  have h1 := c_cu_one (T := T2) (cy := cy) (I := ([], (alw ws).zip KAP ++ [(b, 1000)], fun _ => 0)) (z := j) (first_pool hW) hu hi g1
  rcases g2 with ⟨-, f, rfl, g3⟩ | ⟨h0, -⟩ | ⟨h0, -⟩
  · unfold cint
    rw [h1]
    simp only [cval, if_pos hj]
    have g4 := g3 j hj
    rw [hg] at g4
    obtain ⟨y, e1, y1, y2⟩ := g4
    cases e1
    omega
  · cases h0
  · omega
theorem gvs_at9 {al : List Nat} : ∀ (fs : List AV) (vs : List Value) (j : Nat) (a : AV), gvs ν al b fs vs → fs[j]? = some a → ∃ v, vs[j]? = some v ∧ gv ν al b a v := by
  intro fs
  induction fs with
  | nil => intro vs j a _ h; simp at h
  | cons x r ih =>
    intro vs j a h1 h2
    match vs, h1 with
    | v :: vs', ⟨g1, g2⟩ =>
      match j with
      | 0 => simp only [List.getElem?_cons_zero, Option.some.injEq] at h2; subst h2; exact ⟨v, rfl, g1⟩
      | j + 1 => simp only [List.getElem?_cons_succ] at h2 ⊢; exact ih vs' j a g2 h2
theorem first_obj {i κ ci j : Nat} {fs : List AV} {v : Int} (hW : gW ν b cy CF1 ws) (hu : κ < 51) (hi : KAP[i]? = some κ) (hc : CF1[i]? = some (.inr (ci, fs))) (hg : fs[j]? = some (aI v)) : cint (c_cu KAP ws) κ j = v := by
  obtain ⟨q, e, g1, g2⟩ := hW.2 i _ hc
  have h1 := c_cu_one (T := T2) (cy := cy) (I := ([], (alw ws).zip KAP ++ [(b, 1000)], fun _ => 0)) (z := j) (first_pool hW) hu hi g1
  obtain ⟨vs, rfl, g3⟩ := g2
  obtain ⟨v9, w1, x, rfl, w2, w3⟩ := gvs_at9 fs vs j _ g3 hg
  unfold cint
  rw [h1]
  simp only [cval, w1]
  omega
theorem first_nul {i κ n j : Nat} (hW : gW ν b cy CF1 ws) (hu : κ < 51) (hi : KAP[i]? = some κ) (hc : CF1[i]? = some (.inl (4, n, aN, []))) (hj : j < n) : c_cu KAP ws κ j = some .null := by
  obtain ⟨q, e, g1, g2⟩ := hW.2 i _ hc
  have h1 := c_cu_one (T := T2) (cy := cy) (I := ([], (alw ws).zip KAP ++ [(b, 1000)], fun _ => 0)) (z := j) (first_pool hW) hu hi g1
  rcases g2 with ⟨h0, -⟩ | ⟨h0, -⟩ | ⟨-, f, rfl, g3⟩
  · omega
  · cases h0
  · rw [h1]
    simp only [cval, if_pos hj]
    have g4 : va_rf (f j) = .null := g3 j hj
    rw [g4]
theorem first_bit {i κ n j : Nat} {d : AV} {x : List (Nat × AV)} {v : Int} (hW : gW ν b cy CF1 ws) (hu : κ < 51) (hi : KAP[i]? = some κ) (hc : CF1[i]? = some (.inl (2, n, d, x))) (hj : j < n) (hg : e_get d x j = aI v) : cint (c_cu KAP ws) κ j = v := by
  obtain ⟨q, e, g1, g2⟩ := hW.2 i _ hc
  have h1 := c_cu_one (T := T2) (cy := cy) (I := ([], (alw ws).zip KAP ++ [(b, 1000)], fun _ => 0)) (z := j) (first_pool hW) hu hi g1
  rcases g2 with ⟨-, f, rfl, g3⟩ | ⟨h0, -⟩ | ⟨h0, -⟩
  · unfold cint
    rw [h1]
    simp only [cval, if_pos hj]
    have g4 := g3 j hj
    rw [hg] at g4
    obtain ⟨y, e1, y1, y2⟩ := g4
    cases e1
    omega
  · cases h0
  · omega
def XL31 : List (Nat × AV) := [(28, aL 121450625394034 121450625394034), (27, aL 474080961892 474080961892), (26, aL 469786323827 469786323827), (25, aL 2003399784 2003399784), (24, aL 24948 24948), (23, aL 6840691 6840691), (22, aL 1819242085 1819242085), (21, aL 27973166868030820 27973166868030820), (20, aL 7237492 7237492), (19, aL 6385252 6385252), (18, aL 28530 28530), (17, aL 6578553 6578553), (16, aL 119182682386035 119182682386035), (15, aL 1886745715 1886745715), (14, aL 123623812527219 123623812527219), (13, aL 474080961907 474080961907), (12, aL 1634954099 1634954099), (11, aL 1735353715 1735353715), (10, aL 1717662580 1717662580), (9, aL 2002872165 2002872165), (8, aL 1835627621 1835627621), (7, aL 1718185573 1718185573), (6, aL 461414299507 461414299507), (5, aL 28832984742848366 28832984742848366), (4, aL 123581014175598 123581014175598), (3, aL 26995 26995), (2, aL 499967946343 499967946343), (1, aL 1835102827 1835102827), (0, aL 482854658917 482854658917)]
set_option maxRecDepth 100000 in
theorem rv_e {j : Nat} (hj : j < 29) : e_get (aL 0 0) XL31 j = aL (RVk j) (RVk j) := by
  have h : (List.range 29).all (fun j => @decide (e_get (aL 0 0) XL31 j = aL (RVk j) (RVk j)) (dAV _ _)) = true := by decide +kernel
  exact of_decide_eq_true (List.all_eq_true.mp h j (List.mem_range.mpr hj))
theorem first_byt {i κ n j : Nat} {d : AV} {x : List (Nat × AV)} {v : Int} (hW : gW ν b cy CF1 ws) (hu : κ < 51) (hi : KAP[i]? = some κ) (hc : CF1[i]? = some (.inl (1, n, d, x))) (hj : j < n) (hg : e_get d x j = aI v) : cint (c_cu KAP ws) κ j = v := by
  obtain ⟨q, e, g1, g2⟩ := hW.2 i _ hc
  have h1 := c_cu_one (T := T2) (cy := cy) (I := ([], (alw ws).zip KAP ++ [(b, 1000)], fun _ => 0)) (z := j) (first_pool hW) hu hi g1
  rcases g2 with ⟨-, f, rfl, g3⟩ | ⟨h0, -⟩ | ⟨h0, -⟩
  · unfold cint
    rw [h1]
    simp only [cval, if_pos hj]
    have g4 := g3 j hj
    rw [hg] at g4
    obtain ⟨y, e1, y1, y2⟩ := g4
    cases e1
    omega
  · cases h0
  · omega
theorem first_lng {i κ n j : Nat} {d : AV} {x : List (Nat × AV)} {v : Int} (hW : gW ν b cy CF1 ws) (hu : κ < 51) (hi : KAP[i]? = some κ) (hc : CF1[i]? = some (.inl (3, n, d, x))) (hj : j < n) (hg : e_get d x j = aL v v) : c_cu KAP ws κ j = some (.long (Int64.ofInt v)) := by
  obtain ⟨q, e, g1, g2⟩ := hW.2 i _ hc
  have h1 := c_cu_one (T := T2) (cy := cy) (I := ([], (alw ws).zip KAP ++ [(b, 1000)], fun _ => 0)) (z := j) (first_pool hW) hu hi g1
  rcases g2 with ⟨h0, -⟩ | ⟨-, f, rfl, g3⟩ | ⟨h0, -⟩
  · omega
  · rw [h1]
    simp only [cval, if_pos hj]
    have g4 := g3 j hj
    rw [hg] at g4
    obtain ⟨y, e1, y1, y2⟩ := g4
    cases e1
    have e2 : (f j).toInt = v := by omega
    rw [← e2, z_oTL]
  · omega
theorem first_ky {i κ q j : Nat} {e : va_E} (hW : gW ν b cy CF1 ws) (h8 : ∀ i', i' < i → KAP[i']? ≠ some κ) (hκ : κ < 100) (hi : KAP[i]? = some κ) (hw : ws[i]? = some (q, e)) : c_cu KAP ws (ky q κ) j = cval e j := by
  rw [c_cu_ky (hp_100 (T := T2) suok2.1 (first_pool hW)) hκ, c_fa_of hi hw (fun i' hlt h9 => h8 i' hlt h9.1)]
theorem first_city (hW : gW ν b cy CF1 ws) : ∃ qc : Nat, c_cu KAP ws 44 0 = some (.ref qc) ∧ cGood (c_cu KAP ws) qc (fun s => cint (c_cu KAP ws) 27 s) (fun k => c_cu KAP ws 30 k) := by
  have n51 : ∀ k : Fin 8, KAP[k.val]? ≠ some 51 := by decide +kernel
  have n52 : ∀ k : Fin 9, KAP[k.val]? ≠ some 52 := by decide +kernel
  have n53 : ∀ k : Fin 10, KAP[k.val]? ≠ some 53 := by decide +kernel
  obtain ⟨q7, e7, w7, vs7, rfl, g7⟩ := hW.2 7 _ rfl
  obtain ⟨q8, e8, w8, vs8, rfl, g8⟩ := hW.2 8 _ rfl
  obtain ⟨q9, e9, w9, g9⟩ := hW.2 9 _ rfl
  obtain ⟨q10, e10, w10, g10⟩ := hW.2 10 _ rfl
  obtain ⟨v7, x7, qc, y7, rfl⟩ := gvs_at9 _ vs7 0 _ g7 rfl
  obtain ⟨v8, x8, qn, y8, rfl⟩ := gvs_at9 _ vs8 0 _ g8 rfl
  obtain ⟨v8b, x8b, qm, y8b, rfl⟩ := gvs_at9 _ vs8 1 _ g8 rfl
  have a7 : (alw ws)[8]? = some q8 := by rw [List.getElem?_map, w8]; rfl
  have a8 : (alw ws)[9]? = some q9 := by rw [List.getElem?_map, w9]; rfl
  have a9 : (alw ws)[10]? = some q10 := by rw [List.getElem?_map, w10]; rfl
  rw [a7] at y7
  cases y7
  rw [a8] at y8
  cases y8
  rw [a9] at y8b
  cases y8b
  have h1 := c_cu_one (T := T2) (cy := cy) (I := ([], (alw ws).zip KAP ++ [(b, 1000)], fun _ => 0)) (κ := 44) (z := 0) (first_pool hW) (by decide) rfl w7
  have hcn : ∀ s, s < 4 → cn0 s = cint (c_cu KAP ws) 27 s := by
    intro s hs
    rw [first_cell (i := 48) (κ := 27) (n := 269) (d := aI 0) (x := [(7, aI 5), (6, aI 2), (5, aI 1), (4, aI 3)]) (v := 0) hW (by omega) rfl rfl (by omega) (by
      rcases (show s = 0 ∨ s = 1 ∨ s = 2 ∨ s = 3 by omega) with rfl | rfl | rfl | rfl <;> rfl)]
    rcases (show s = 0 ∨ s = 1 ∨ s = 2 ∨ s = 3 by omega) with rfl | rfl | rfl | rfl <;> rfl
  refine ⟨q8, by rw [h1]; exact x7, q9, q10, z0, 0, by rw [first_ky (κ := 51) hW (fun i' h => n51 ⟨i', h⟩) (by decide) rfl w8]; exact x8, by rw [first_ky (κ := 51) hW (fun i' h => n51 ⟨i', h⟩) (by decide) rfl w8]; exact x8b, fun s hs => ?_, fun k hk => ?_, INV_congr hcn INV_0, fun s i hs hi => ?_⟩
  · rcases g9 with ⟨-, f, rfl, g3⟩ | ⟨h0, -⟩ | ⟨h0, -⟩
    · have hv : ∃ v : Int, e_get (aI 0) [(7, aI 5), (6, aI 2), (5, aI 1), (4, aI 3)] s = aI v := by
        rcases (show s = 0 ∨ s = 1 ∨ s = 2 ∨ s = 3 ∨ s = 4 ∨ s = 5 ∨ s = 6 ∨ s = 7 by omega) with rfl | rfl | rfl | rfl | rfl | rfl | rfl | rfl <;> exact ⟨_, rfl⟩
      obtain ⟨v, hv⟩ := hv
      have g4 := g3 s hs
      rw [hv] at g4
      obtain ⟨y, e1, y1, y2⟩ := g4
      cases e1
      refine ⟨f s, by rw [first_ky (κ := 52) hW (fun i' h => n52 ⟨i', h⟩) (by decide) rfl w9]; simp only [cval, if_pos hs], ?_⟩
      show _ = cint (c_cu KAP ws) 27 s
      rw [first_cell (i := 48) (κ := 27) (n := 269) (d := aI 0) (x := [(7, aI 5), (6, aI 2), (5, aI 1), (4, aI 3)]) (v := v) hW (by omega) rfl rfl (by omega) hv]
      omega
    · cases h0
    · omega
  · rcases g10 with ⟨h0, -⟩ | ⟨-, f, rfl, g3⟩ | ⟨h0, -⟩
    · omega
    · rw [first_ky (κ := 53) hW (fun i' h => n53 ⟨i', h⟩) (by decide) rfl w10]
      simp only [cval, if_pos hk]
      rw [gl_eq (g3 k hk)]
      rfl
    · omega
  · have h9 : (i : Int) < cint (c_cu KAP ws) 27 s := hi
    rw [← hcn s hs] at h9
    exfalso
    rcases (show s = 0 ∨ s = 1 ∨ s = 2 ∨ s = 3 by omega) with rfl | rfl | rfl | rfl
    · have h9 : (i : Int) < 0 := h9
      omega
    · have h9 : (i : Int) < 0 := h9
      omega
    · have h9 : (i : Int) < 0 := h9
      omega
    · have h9 : (i : Int) < 0 := h9
      omega
theorem first_hs {ex : Nat → Nat} (hW : gW ν b cy CF1 ws) : HS T2 FPX cy ([], (alw ws).zip KAP ++ [(b, 1000)], ex) KAP ws (0, [], [], FA6) := by
  refine ⟨first_pool hW, ⟨rfl, fun k q h => by simp [f_lk] at h⟩, (fun f hf => (by cases hf)), fun f hf => ?_⟩
  have c27 : ∀ j, j < 4 ∨ j = 88 → cint (c_cu KAP ws) 27 j = 0 := fun j hj => first_cell (i := 48) (n := 269) (d := aI 0) (x := [(7, aI 5), (6, aI 2), (5, aI 1), (4, aI 3)]) hW (by omega) rfl rfl (by omega) (by
    rcases (show j = 0 ∨ j = 1 ∨ j = 2 ∨ j = 3 ∨ j = 88 by omega) with rfl | rfl | rfl | rfl | rfl <;> rfl)
  have c41 : ∀ j, j < 538 → cint (c_cu KAP ws) 41 j = 0 := fun j hj => first_cell (i := 62) (n := 538) (d := aI 0) (x := []) hW (by omega) rfl rfl hj rfl
  simp only [FA6, List.mem_cons, List.not_mem_nil, or_false] at hf
  rcases hf with rfl | rfl | rfl | rfl | rfl | rfl | rfl | rfl | rfl | rfl | rfl | rfl | rfl | rfl | rfl | rfl
  · exact ⟨[], rfl, rfl, Or.inl (by rw [c27 3 (by omega)]; omega)⟩
  · exact ⟨[], rfl, rfl, Or.inl (by rw [c41 3 (by omega)]; omega)⟩
  · exact ⟨[], rfl, rfl, Or.inl (by rw [c41 272 (by omega)]; omega)⟩
  · exact ⟨[], rfl, rfl, 0, by rw [c41 88 (by omega)]; decide, by rw [c41 88 (by omega)]; rfl⟩
  · exact ⟨[], rfl, rfl, 0, by rw [c41 357 (by omega)]; decide, by rw [c41 357 (by omega)]; rfl⟩
  · exact ⟨[], rfl, rfl, 0, by rw [c27 88 (by omega)]; decide, by rw [c27 88 (by omega)]; rfl⟩
  · exact ⟨[], rfl, rfl, by rw [first_obj (i := 1) (κ := 1) (j := 1) (v := 0) hW (by omega) rfl rfl rfl, first_obj (i := 46) (κ := 25) (j := 2) (v := 0) hW (by omega) rfl rfl rfl]⟩
  · exact ⟨[], rfl, rfl, iff_of_true (first_nul (i := 43) (n := 2) hW (by omega) rfl rfl (by omega)) (first_bit (i := 64) (n := 2) (d := aI 0) (x := []) hW (by omega) rfl rfl (by omega) rfl)⟩
  · exact ⟨[], rfl, rfl, iff_of_true (first_nul (i := 43) (n := 2) hW (by omega) rfl rfl (by omega)) (first_bit (i := 64) (n := 2) (d := aI 0) (x := []) hW (by omega) rfl rfl (by omega) rfl)⟩
  · exact ⟨[], rfl, rfl, fun j hj => by rw [first_byt (i := 2) (κ := 2) (n := 940) (d := aI 0) (x := []) (v := 0) hW (by omega) rfl rfl hj rfl, first_byt (i := 47) (κ := 26) (n := 940) (d := aI 0) (x := []) (v := 0) hW (by omega) rfl rfl hj rfl]⟩
  · exact ⟨[], rfl, rfl, fun j hj => first_lng (i := 52) (κ := 31) (n := 29) (d := aL 0 0) (x := XL31) hW (by omega) rfl rfl hj (rv_e hj)⟩
  · exact ⟨[], rfl, rfl, first_city hW⟩
  · obtain ⟨qc, z1, -⟩ := first_city hW
    exact ⟨[], rfl, rfl, qc, z1, fun i hi _ => by rw [first_obj (i := 29) (κ := 7) (j := 2) (v := 0) hW (by omega) rfl rfl rfl] at hi; omega⟩
  · exact ⟨[], rfl, rfl, Or.inl (first_nul (i := 43) (n := 2) hW (by omega) rfl rfl (by omega))⟩
  · exact ⟨[], rfl, rfl, Or.inl (first_nul (i := 43) (n := 2) hW (by omega) rfl rfl (by omega))⟩
  · exact ⟨[], rfl, rfl, by rw [first_obj (i := 0) (κ := 0) (j := 14) (v := 0) hW (by omega) rfl rfl rfl, first_obj (i := 46) (κ := 25) (j := 15) (v := 0) hW (by omega) rfl rfl rfl]⟩
end FIRST
section FIRST2
variable {D : va_G} {cy : Nat → ClassId} {xs : Nat → Int32} {ex : Nat → Nat}
variable {p : Program} {l : Launch} {e : Env} {s : State} {m : MethodId} {args : Array Value} {below : List Frame} {meth : Method} {c : Code} {A : Nat → Prop} {Q : State → Prop}
theorem law_first (hSP : SPA xs D cy l SPL.length) (hHP : HPM xs D cy l) (hx : p.tables.exec = Jvm.exec) (hb : c.code = code) (hml : c.maxLocals = 7) (hown : s.vm.findClass RL = some m.cls) (hbig : ∀ w ∈ BIG, w.before args s = true) (hKK : KK D cy s) (hA : ∀ q, s.heap.size ≤ q → A q) (hEW : EWX xs ex A s) (hL : ex 1 ≤ 3072)
    (hret : ∀ (H : Heap) (locs : List Loc) (ls : Array Slot), va_S A s.heap H locs → W p l e room_1 s m args below meth c H locs 601024 7293034 Q (F0 m 1470 ls [.int 1])) {ls : Array Slot} (hlv : lv_has ls 7 [(0, .ref (ex 0))]) : W p l e room_1 s m args below meth c s.heap [] 0 0 Q (F0 m 0 ls []) := by
  have X : Ctx OW2 D cy (fun _ => 0) (ex 0) mt1_law RL p (mRm mt1_law) s m args meth c A false := ⟨hx, hb, hml, rfl, hown, hbig, hKK, hA, fun h => absurd h (by decide), rfl, tok1_law, fun h => by cases h⟩
  have s0 : Safe D cy (fun _ => 0) (ex 0) [] [] mt1_law p l e (mRm mt1_law) s m args below meth c A Q (0, [(0, aS)], [], [], [], 0, 0) := by
    refine e_sound pok1 30000 true false mt1_law tb1_law _ [] first_run tok1_law.1 [] RL p e _ s m args below meth c A Q X (fun o h => by cases h) (fun _ S' h => ?_)
    have h := List.mem_singleton.mp h
    subst h
    intro H locs ls9 lv vs ws a1 a2 a3 a4 a5 a6
    have hn := gvs_nil a3
    subst hn
    match lv, a2 with
    | [(b4, v4), (b3, v3), (b2, v2), (b1, v1), (b0, v0)], ⟨⟨e4, g4⟩, ⟨e3, g3⟩, ⟨e2, g2⟩, ⟨e1, g1⟩, ⟨e0, g0⟩, _⟩ =>
      simp only at e0 e1 e2 e3 e4 g0 g1 g2 g3 g4
      subst e0
      subst e1
      subst e2
      subst e3
      subst e4
      obtain ⟨hW, hP, hD, hS⟩ := a5
      have g0 : v0 = .ref (ex 0) := g0
      subst g0
      obtain ⟨q1, k1, rfl⟩ := g1
      obtain ⟨q2, k2, rfl⟩ := g2
      obtain ⟨q3, k3, rfl⟩ := g3
      obtain ⟨y, rfl, y1, y2⟩ := g4
      have ey : y = nI (6 * 0) := (fa_eq _ _).mpr (by rw [nI_toInt (by omega)]; omega)
      subst ey
      have mem : ∀ (i κ q : Nat), KAP[i]? = some κ → (alw ws)[i]? = some q → hv ([], (alw ws).zip KAP ++ [(ex 0, 1000)], ex) (bP κ true none) (.ref q) := fun i κ q h1 h2 => ⟨Or.inr ⟨q, List.mem_append_left _ (List.mem_of_getElem? (i := i) (List.getElem?_zip_eq_some.mpr ⟨h2, h1⟩)), rfl⟩, fun k h9 => by cases h9⟩
      exact law_loop hSP hHP hx hb hml hown hbig hKK hA hEW hL hret 513 0 rfl ((alw ws).zip KAP ++ [(ex 0, 1000)]) KAP ws H locs ls9 (.ref q1) (.ref q2) (.ref q3) 0 [] [] (lv_sub a1 [4, 3, 2, 1, 0] rfl) (mem 0 0 q1 rfl k1) (mem 46 25 q2 rfl k2) (mem 65 24 q3 rfl k3) (first_hs hW) hP hD hS
  exact s0 s.heap [] ls [(0, .ref (ex 0))] [] [] hlv ⟨⟨rfl, rfl⟩, trivial⟩ trivial (fun k q h => by simp at h) ⟨⟨rfl, fun i c h => by simp at h⟩, fun k q h => by simp at h, ⟨fun i j p q h => by simp at h, fun k q h => by simp at h⟩, va_S.rf⟩ ⟨[], rfl⟩
end FIRST2
