/-! the law's call of sentence: the worlds of both, one step (written by wip/p39/h1.py) -/
section SS1
variable {cy : Nat → ClassId} {ks ks1 : List Nat} {wp wp1 : va_W} {AK : List (Nat × Nat)}
set_option maxHeartbeats 4000000 in
theorem ref_world2 {I : IN} {F : FS} {v : Value} (h : HS T2 FPX cy I ks wp F) (hx : hv I (bP 25 true none) v) : ∃ (m : Nat → Nat) (F0 B SS HH NR RV RD ST : Nat → Int), v = .ref (m 0) ∧ allz cy ks wp [25, 26, 27, 28, 30, 31, 29, 39] (rW m F0 B SS HH NR RV ++ qW m RD ST) ∧ (∀ k, -128 ≤ B k ∧ B k ≤ 127) ∧ (0 ≤ F0 2 ∧ F0 2 ≤ 940) ∧ cint (c_cu ks wp) 25 2 = F0 2 ∧ (∀ j, j < 940 → cint (c_cu ks wp) 26 j = B j) ∧ (∀ j, j < 29 → c_cu ks wp 31 j = some (.long (Int64.ofInt (RV j)))) ∧ (∀ q, zin64 (RV q)) ∧ (∀ q, zin64 (NR q)) ∧ ∀ q, zin (SS q) := by
  have hp := h.1
  rcases hx.1 with ⟨h9, -⟩ | ⟨x, mx, rfl⟩
  · cases h9
  obtain ⟨ix, ex, kx, wx, tx⟩ := hp_ref (κ := 25) (d := .inr (11, [.inl (0, 1), .inr (.inr (26, true)), .inl (0, 940), .inl (0, 940), .inl (0, 940), .inl (0, 940), .inr (.inr (27, true)), .inr (.inr (28, true)), .inr (.inr (29, true)), .inr (.inr (30, true)), .inr (.inr (31, true)), .inl (0, 4), .inl (0, 940), .inl (0, 940), .inl ((-2147483648), 2147483647), .inl (0, 4), .inl (0, 940), .inr (.inl (0, 72057594037927935)), .inl ((-2147483648), 2147483647), .inl ((-2147483648), 2147483647), .inl (0, 15), .inr (.inr (32, true)), .inr (.inr (33, true)), .inl (0, 8), .inl ((-2147483648), 2147483647), .inl ((-2147483648), 2147483647), .inl ((-2147483648), 2147483647), .inl (0, 1), .inl (0, 1), .inl (0, 1), .inl ((-2147483648), 2147483647), .inl ((-2147483648), 2147483647), .inl (0, 1), .inr (.inr (34, true)), .inr (.inr (35, true)), .inr (.inr (36, true)), .inl (0, 1), .inr (.inr (37, true)), .inl (0, 96), .inl ((-2147483648), 2147483647), .inl (0, 40), .inr (.inr (38, true)), .inl (0, 1), .inr (.inr (39, true)), .inl (0, 40), .inl (0, 20), .inl (0, 40), .inl ((-2147483648), 2147483647), .inl (0, 1), .inr (.inr (40, true)), .inr (.inr (41, true)), .inr (.inr (42, true)), .inr (.inr (43, true))])) hp mx rfl
  obtain ⟨vs, rfl, s⟩ := kt_obj tx
  obtain ⟨x0, vs, rfl, bx0, s⟩ := hts_i s
  obtain ⟨x1, vs, rfl, mx1, s⟩ := hts_r s
  obtain ⟨x2, vs, rfl, bx2, s⟩ := hts_i s
  obtain ⟨x3, vs, rfl, bx3, s⟩ := hts_i s
  obtain ⟨x4, vs, rfl, bx4, s⟩ := hts_i s
  obtain ⟨x5, vs, rfl, bx5, s⟩ := hts_i s
  obtain ⟨x6, vs, rfl, mx6, s⟩ := hts_r s
  obtain ⟨x7, vs, rfl, mx7, s⟩ := hts_r s
  obtain ⟨x8, vs, rfl, mx8, s⟩ := hts_r s
  obtain ⟨x9, vs, rfl, mx9, s⟩ := hts_r s
  obtain ⟨x10, vs, rfl, mx10, s⟩ := hts_r s
  obtain ⟨x11, vs, rfl, bx11, s⟩ := hts_i s
  obtain ⟨x12, vs, rfl, bx12, s⟩ := hts_i s
  obtain ⟨x13, vs, rfl, bx13, s⟩ := hts_i s
  obtain ⟨x14, vs, rfl, bx14, s⟩ := hts_i s
  obtain ⟨x15, vs, rfl, bx15, s⟩ := hts_i s
  obtain ⟨x16, vs, rfl, bx16, s⟩ := hts_i s
  obtain ⟨x17, vs, rfl, s9⟩ := hts_l s
  have s := s9
  obtain ⟨x18, vs, rfl, bx18, s⟩ := hts_i s
  obtain ⟨x19, vs, rfl, bx19, s⟩ := hts_i s
  obtain ⟨x20, vs, rfl, bx20, s⟩ := hts_i s
  obtain ⟨x21, vs, rfl, mx21, s⟩ := hts_r s
  obtain ⟨x22, vs, rfl, mx22, s⟩ := hts_r s
  obtain ⟨x23, vs, rfl, bx23, s⟩ := hts_i s
  obtain ⟨x24, vs, rfl, bx24, s⟩ := hts_i s
  obtain ⟨x25, vs, rfl, bx25, s⟩ := hts_i s
  obtain ⟨x26, vs, rfl, bx26, s⟩ := hts_i s
  obtain ⟨x27, vs, rfl, bx27, s⟩ := hts_i s
  obtain ⟨x28, vs, rfl, bx28, s⟩ := hts_i s
  obtain ⟨x29, vs, rfl, bx29, s⟩ := hts_i s
  obtain ⟨x30, vs, rfl, bx30, s⟩ := hts_i s
  obtain ⟨x31, vs, rfl, bx31, s⟩ := hts_i s
  obtain ⟨x32, vs, rfl, bx32, s⟩ := hts_i s
  obtain ⟨x33, vs, rfl, mx33, s⟩ := hts_r s
  obtain ⟨x34, vs, rfl, mx34, s⟩ := hts_r s
  obtain ⟨x35, vs, rfl, mx35, s⟩ := hts_r s
  obtain ⟨x36, vs, rfl, bx36, s⟩ := hts_i s
  obtain ⟨x37, vs, rfl, mx37, s⟩ := hts_r s
  obtain ⟨x38, vs, rfl, bx38, s⟩ := hts_i s
  obtain ⟨x39, vs, rfl, bx39, s⟩ := hts_i s
  obtain ⟨x40, vs, rfl, bx40, s⟩ := hts_i s
  obtain ⟨x41, vs, rfl, mx41, s⟩ := hts_r s
  obtain ⟨x42, vs, rfl, bx42, s⟩ := hts_i s
  obtain ⟨x43, vs, rfl, mx43, s⟩ := hts_r s
  obtain ⟨x44, vs, rfl, bx44, s⟩ := hts_i s
  obtain ⟨x45, vs, rfl, bx45, s⟩ := hts_i s
  obtain ⟨x46, vs, rfl, bx46, s⟩ := hts_i s
  obtain ⟨x47, vs, rfl, bx47, s⟩ := hts_i s
  obtain ⟨x48, vs, rfl, bx48, s⟩ := hts_i s
  obtain ⟨x49, vs, rfl, mx49, s⟩ := hts_r s
  obtain ⟨x50, vs, rfl, mx50, s⟩ := hts_r s
  obtain ⟨x51, vs, rfl, mx51, s⟩ := hts_r s
  obtain ⟨x52, vs, rfl, mx52, s⟩ := hts_r s
  have s := hts_0 s
  subst s
  obtain ⟨ib, eb, kb, wb, tb⟩ := hp_ref (κ := 26) (d := .inl (1, 940, [(940, .inl ((-128), 127))])) hp mx1 rfl
  obtain ⟨fb, rfl, zb, yb⟩ := kt_arr tb (by decide)
  obtain ⟨is_, es_, ks_, ws_, ts_⟩ := hp_ref (κ := 27) (d := .inl (0, 269, [(1, .inl (0, 4)), (1, .inl (0, 10)), (1, .inl (0, 8)), (1, .inl (0, 6)), (4, .inl (0, 20)), (8, .inl (0, 3)), (8, .inl (0, 1023)), (6, .inl (0, 3)), (6, .inl (0, 99)), (1, .inl (0, 63)), (6, .inl (0, 1023)), (3, .inl ((-2147483648), 2147483647)), (8, .inl (0, 3)), (8, .inl (0, 6)), (8, .inl ((-2147483648), 2147483647)), (6, .inl (0, 3)), (6, .inl ((-2147483648), 2147483647)), (6, .inl (0, 1023)), (1, .inl (0, 40)), (180, .inl ((-2147483648), 2147483647))])) hp mx6 rfl
  obtain ⟨fs_, rfl, zs_, ys_⟩ := kt_arr ts_ (by decide)
  obtain ⟨ih, eh, kh, wh, th⟩ := hp_ref (κ := 28) (d := .inl (0, 43, [(1, .inl (0, 4)), (1, .inl (0, 10)), (1, .inl (0, 8)), (1, .inl (0, 6)), (4, .inl (0, 20)), (8, .inl (0, 3)), (8, .inl (0, 1023)), (6, .inl (0, 3)), (6, .inl (0, 99)), (1, .inl (0, 63)), (6, .inl (0, 1023))])) hp mx7 rfl
  obtain ⟨fh, rfl, zh, yh⟩ := kt_arr th (by decide)
  obtain ⟨inr, enr, knr, wnr, tnr⟩ := hp_ref (κ := 30) (d := .inl (3, 56, [(56, .inr (.inl (0, 72057594037927935)))])) hp mx9 rfl
  obtain ⟨fnr, rfl, znr⟩ := kt_arl tnr
  obtain ⟨ir, er, kr, wr, tr⟩ := hp_ref (κ := 31) (d := .inl (3, 29, [(29, .inr (.inl ((-9223372036854775808), 9223372036854775807)))])) hp mx10 rfl
  obtain ⟨fr, rfl, zr⟩ := kt_arl tr
  obtain ⟨ird, erd, krd, wrd, trd⟩ := hp_ref (κ := 29) (d := .inl (0, 160, [(160, .inl ((-2147483648), 2147483647))])) hp mx8 rfl
  obtain ⟨frd, rfl, zrd, yrd⟩ := kt_arr trd (by decide)
  obtain ⟨ist, est, kst, wst, tst⟩ := hp_ref (κ := 39) (d := .inl (0, 45, [(45, .inl ((-2147483648), 2147483647))])) hp mx43 rfl
  obtain ⟨fst9, rfl, zst, yst⟩ := kt_arr tst (by decide)
  refine ⟨(fun k => ([x, x1, 0, 0, 0, 0, x6, x7, x8, x9, x10, 0, 0, 0, 0, 0, 0, 0, 0, 0, 0, x21, x22, 0, 0, 0, 0, 0, 0, 0, 0, 0, 0, x33, x34, x35, 0, x37, 0, 0, 0, x41, 0, x43, 0, 0, 0, 0, 0, x49, x50, x51, x52] : List Nat).getD k 0), (fun k => ([x0, 0, x2, x3, x4, x5, 0, 0, 0, 0, 0, x11, x12, x13, x14, x15, x16, x17, x18, x19, x20, 0, 0, x23, x24, x25, x26, x27, x28, x29, x30, x31, x32, 0, 0, 0, x36, 0, x38, x39, x40, 0, x42, 0, x44, x45, x46, x47, x48, 0, 0, 0, 0] : List Int).getD k 0), cutB 940 fb, fs_, fh, fnr, fr, frd, fst9, rfl, ⟨hasz_o (fs := [zI x0, zR x1, zI x2, zI x3, zI x4, zI x5, zR x6, zR x7, zR x8, zR x9, zR x10, zI x11, zI x12, zI x13, zI x14, zI x15, zI x16, zL x17, zI x18, zI x19, zI x20, zR x21, zR x22, zI x23, zI x24, zI x25, zI x26, zI x27, zI x28, zI x29, zI x30, zI x31, zI x32, zR x33, zR x34, zR x35, zI x36, zR x37, zI x38, zI x39, zI x40, zR x41, zI x42, zR x43, zI x44, zI x45, zI x46, zI x47, zI x48, zR x49, zR x50, zR x51, zR x52]) kx wx, hasz_c kb wb, hasz_i ks_ ws_, hasz_i kh wh, hasz_l knr wnr, hasz_l kr wr, hasz_i krd wrd, hasz_i kst wst, trivial⟩, cut_byte (kt_byte yb zb), ⟨bx2.1, bx2.2.1⟩, ?_, fun j hj => ?_, fun j hj => ?_, zr, znr, zs_⟩
  · unfold cint
    rw [cu_at hp (by decide) kx wx]
    exact z_o32 bx2.2.2
  · unfold cint
    rw [cu_at hp (by decide) kb wb]
    simp only [cval]
    rw [if_pos hj, cutB_lt hj]
    exact z_o32 (zb j)
  · rw [cu_at hp (by decide) kr wr]
    simp only [cval]
    rw [if_pos hj]
    rfl
theorem allz_app : ∀ {κ1 κ2 : List Nat} {Y1 Y2 : ZW}, allz cy ks wp κ1 Y1 → allz cy ks wp κ2 Y2 → allz cy ks wp (κ1 ++ κ2) (Y1 ++ Y2) := by
  intro κ1
  induction κ1 with
  | nil =>
    intro κ2 Y1 Y2 h1 h2
    cases Y1 with
    | nil => exact h2
    | cons => exact absurd h1 id
  | cons κ r ih =>
    intro κ2 Y1 Y2 h1 h2
    cases Y1 with
    | nil => exact absurd h1 id
    | cons y Y => exact ⟨h1.1, ih h1.2 h2⟩
theorem allz_spl : ∀ {κ1 κ2 : List Nat} {Y1 Y2 : ZW}, κ1.length = Y1.length → allz cy ks wp (κ1 ++ κ2) (Y1 ++ Y2) → allz cy ks wp κ1 Y1 ∧ allz cy ks wp κ2 Y2 := by
  intro κ1
  induction κ1 with
  | nil =>
    intro κ2 Y1 Y2 hl h
    cases Y1 with
    | nil => exact ⟨trivial, h⟩
    | cons => simp at hl
  | cons κ r ih =>
    intro κ2 Y1 Y2 hl h
    cases Y1 with
    | nil => simp at hl
    | cons y Y =>
      obtain ⟨g1, g2⟩ := ih (κ2 := κ2) (Y1 := Y) (Y2 := Y2) (by simpa using hl) h.2
      exact ⟨⟨h.1, g1⟩, g2⟩
theorem zv_ref {v : ZV} {q : Nat} (h : zv v = .ref q) : v = zR q := by
  rcases v with x | x | (_ | x)
  · cases h
  · cases h
  · cases h
  · cases h
    rfl
/-- a city's cells, told exactly -/
theorem cls_city {qc : Nat} {g : Nat → Int} {b : Nat → Option Value} (hA : hap wp) (hp : hpool T2 cy AK ks wp) (hm : (qc, 51) ∈ AK) (hg : cGood (c_cu ks wp) qc g b) : ∃ (c : Nat → Nat) (G NM MK TP PP CO KN : Nat → Int) (x : Int), c 0 = qc ∧ allz cy ks wp [51, 52, 53, 54, 55, 56, 57, 58] (cW c G g NM MK TP PP CO KN) ∧ INV g NM x ∧ ∀ s i : Nat, s < 4 → (i : Int) < g s → (0 ≤ NM (s * 10 + i) ∧ NM (s * 10 + i) < 34359738368) ∧ b (bs s - 28 + i) = some (.long (Int64.ofInt (wd (NM (s * 10 + i))))) := by
  obtain ⟨qn, qm, NM, x, h1, h2, h3, h4, h5, h6⟩ := hg
  obtain ⟨i0, e0, k0, w0, t0⟩ := hp_ref (κ := 51) (d := .inr (1, [.inr (.inr (52, true)), .inr (.inr (53, true)), .inr (.inr (54, true)), .inr (.inr (55, true)), .inr (.inr (56, true)), .inr (.inr (57, true)), .inr (.inr (58, true)), .inl (0, 63), .inl (0, 255)])) hp hm rfl
  obtain ⟨vs, rfl, s⟩ := kt_obj t0
  obtain ⟨x1, vs, rfl, m1, s⟩ := hts_r s
  obtain ⟨x2, vs, rfl, m2, s⟩ := hts_r s
  obtain ⟨x3, vs, rfl, m3, s⟩ := hts_r s
  obtain ⟨x4, vs, rfl, m4, s⟩ := hts_r s
  obtain ⟨x5, vs, rfl, m5, s⟩ := hts_r s
  obtain ⟨x6, vs, rfl, m6, s⟩ := hts_r s
  obtain ⟨x7, vs, rfl, m7, s⟩ := hts_r s
  obtain ⟨g0, vs, rfl, b0, s⟩ := hts_i s
  obtain ⟨g1, vs, rfl, b1, s⟩ := hts_i s
  have s := hts_0 s
  subst s
  rw [cu_nm hA hp k0 w0] at h1 h2
  have e1 : x1 = qn := Value.ref.inj (Option.some.inj h1)
  have e2 : x2 = qm := Value.ref.inj (Option.some.inj h2)
  subst e1
  subst e2
  obtain ⟨i52, e52, k52, w52, t52⟩ := hp_ref (κ := 52) (d := .inl (0, 8, [(1, .inl (0, 4)), (1, .inl (0, 10)), (1, .inl (0, 8)), (1, .inl (0, 6)), (4, .inl ((-1), 20))])) hp m1 rfl
  obtain ⟨f52, rfl, z52, y52⟩ := kt_arr t52 (by decide)
  obtain ⟨i53, e53, k53, w53, t53⟩ := hp_ref (κ := 53) (d := .inl (3, 40, [(40, .inr (.inl ((-9223372036854775808), 9223372036854775807)))])) hp m2 rfl
  obtain ⟨f53, rfl, z53⟩ := kt_arl t53
  obtain ⟨i54, e54, k54, w54, t54⟩ := hp_ref (κ := 54) (d := .inl (0, 8, [(8, .inl (0, 1023))])) hp m3 rfl
  obtain ⟨f54, rfl, z54, y54⟩ := kt_arr t54 (by decide)
  obtain ⟨i55, e55, k55, w55, t55⟩ := hp_ref (κ := 55) (d := .inl (0, 8, [(8, .inl ((-1), 3))])) hp m4 rfl
  obtain ⟨f55, rfl, z55, y55⟩ := kt_arr t55 (by decide)
  obtain ⟨i56, e56, k56, w56, t56⟩ := hp_ref (κ := 56) (d := .inl (0, 6, [(6, .inl ((-1), 3))])) hp m5 rfl
  obtain ⟨f56, rfl, z56, y56⟩ := kt_arr t56 (by decide)
  obtain ⟨i57, e57, k57, w57, t57⟩ := hp_ref (κ := 57) (d := .inl (0, 6, [(6, .inl ((-1), 99))])) hp m6 rfl
  obtain ⟨f57, rfl, z57, y57⟩ := kt_arr t57 (by decide)
  obtain ⟨i58, e58, k58, w58, t58⟩ := hp_ref (κ := 58) (d := .inl (0, 6, [(6, .inl (0, 1023))])) hp m7 rfl
  obtain ⟨f58, rfl, z58, y58⟩ := kt_arr t58 (by decide)
  refine ⟨(fun k => ([qc, x1, x2, x3, x4, x5, x6, x7] : List Nat).getD k 0), (fun k => ([g0, g1] : List Int).getD k 0), NM, f54, f55, f56, f57, f58, x, rfl, ⟨hasz_o (fs := [zR x1, zR x2, zR x3, zR x4, zR x5, zR x6, zR x7, zI g0, zI g1]) k0 w0, ⟨i52, _, k52, w52, fun D H h => ?_⟩, ⟨i53, _, k53, w53, fun D H h => ?_⟩, hasz_i k54 w54, hasz_i k55 w55, hasz_i k56 w56, hasz_i k57 w57, hasz_i k58 w58, trivial⟩, h5, h6⟩
  · have h7 : H[x1]? = some (vp_cell (cy 0) (8, .inl (rI f52))) := h
    show H[x1]? = some (vp_cell (cy 0) (8, .inl (rI g)))
    rw [h7]
    refine congrArg some (arr_i (fun j hj => ?_))
    obtain ⟨y, y1, y2⟩ := h3 j hj
    rw [cu_nm hA hp k52 w52] at y1
    simp only [cval] at y1
    rw [if_pos hj] at y1
    have y3 : rI f52 j = y := Value.int.inj (Option.some.inj y1)
    rw [y3]
    show y = Int32.ofInt (g j)
    rw [← y2, z_oT]
  · have h7 : H[x2]? = some (vp_cell (cy 3) (40, .inr (.inl (rL f53)))) := h
    show H[x2]? = some (vp_cell (cy 3) (40, .inr (.inl (rL NM))))
    rw [h7]
    refine congrArg some (arr_l (fun j hj => ?_))
    have y1 := h4 j hj
    rw [cu_nm hA hp k53 w53] at y1
    simp only [cval] at y1
    rw [if_pos hj] at y1
    exact Value.long.inj (Option.some.inj y1)
theorem mt_senX {M' : MT} (h : PR2[72]? = some M') : M' = mt2_X11_sentence := Option.some.inj (h.symm.trans zj_X11_sentence)
theorem mt_senM {M' : MT} (h : PR2[189]? = some M') : M' = mt2_X12_sentence := Option.some.inj (h.symm.trans zj_X12_sentence)
end SS1
/-- the reference's sentence behind the class's, both answers dropped -/
def ox_sent5 (SP : List SPt) (DM : List (Nat × List Nat)) (lim : Nat) (wr : WR) (rm : RMt) (M : MT) (pc : Nat) (lo : List (Nat × BV)) (rest : List BV) (rw : Option (Nat × Nat)) (nc ns : Nat) (q : Option BV × FS) : Option (List SB) := match x_at (mT M) (pc + 3), x_at (mT M) (pc + 4), x_at (mT M) (pc + 5), f_find lo 2 with
  | some (.pop, 1), some (.aload_n k, 1), some (ins2, 3), some b => if (Nat.beq k.val 2 && bv_eq b (bP 25 true none)) = true then (match o_call SP DM lim wr rm M (pc + 5, lo, bP 25 true none :: rest, q.2, rw, nc, ns) ins2 3 with
    | some (j2, _, as2, rest2, sp2, L2) => if (Nat.beq j2 189 && (bvs_eq as2 [bP 25 true none] && (bvs_eq rest2 rest && (rm_eq (pR sp2) (3, 0, 0, 69) && o_off (pW sp2) [0])))) = true then some (L2.map (fun q2 => f_aftS (pc + 5, lo, bP 25 true none :: rest, q.2, rw, nc, ns) rest (pR sp2).2.1 (pR sp2).2.2.1 (o_add 106 [] q2))) else none
    | none => none) else none
  | _, _, _, _ => none
section SS2
variable {xs : Nat → Int32} {D : va_G} {cy : Nat → ClassId} {I0 : IN} {ks0 : List Nat} {wp0 : va_W} {wr : WR} {M : MT} {own : String}
variable {p : Program} {l : Launch} {e : Env} {R : Room} {s : State} {m : MethodId} {args : Array Value} {below : List Frame} {meth : Method} {c : Code} {A : Nat → Prop} {Q : State → Prop} {rm : RMt} {cb sb : Nat}
set_option maxHeartbeats 4000000 in
theorem s_sent {SP : List SPt} {DM : List (Nat × List Nat)} {lim : Nat} {S : SB} {ins : Instr} {len : Nat} {M' : MT} {rest : List BV} {sp : SPt} {L : List (Option BV × FS)} {y : List SB} (hSP : ∀ (i : Nat) (sp : SPt), i < lim → SP[i]? = some sp → SPOK T2 FPX (EWX xs) D cy l PR2 sp) (X : Cx OW2 (EWX xs) D cy I0.2.2 M own p R s m args meth c A rm cb sb)
    (h : o_call SP DM lim wr rm M S ins len = some (72, M', [bP 0 true none], rest, sp, L)) (hd : decode (mC M) S.1 = .ok (ins, len)) (q2 : pR sp = (28, 5, 166, 678)) (q3 : o_off (pW sp) [25, 26, 27, 30, 31] = true) (q4 : o_has S.2.2.2.1.2.2.2 77 [] = true) (q5 : o_has S.2.2.2.1.2.2.2 80 [] = true) (q6 : o_has S.2.2.2.1.2.2.2 81 [] = true) (q7 : o_has S.2.2.2.1.2.2.2 90 [] = true)
    (hy : o_cat (ox_sent5 SP DM lim wr rm M S.1 S.2.1 rest S.2.2.2.2.1 (S.2.2.2.2.2.1 + (pR sp).2.1) (S.2.2.2.2.2.2 + (pR sp).2.2.1)) L = some y)
    (k : ∀ S' ∈ y, Sf T2 FPX D cy I0 ks0 wp0 wr M p l e R s m args below meth c A Q cb sb S') : Sf T2 FPX D cy I0 ks0 wp0 wr M p l e R s m args below meth c A Q cb sb S := by
  obtain ⟨h1, cs, σ, htry, hL⟩ := o_call_ok h
  have hrw := f_call_rw h1
  intro I H locs ls lv vs ks wp raw a1 a2 a3 a4 a5 a6 a7 a8 a9 a10
  have e9 := hraw_none hrw a5
  subst e9
  rw [List.append_nil] at a6 a7
  refine s_xcall hSP X h1 hd htry hL a1 a3 a4 a6 a7 a8 a9 a10 (fun vas hv9 hP9 => ?_)
  have eM := mt_senX hP9
  subst eM
  obtain ⟨v0, vr5, rfl, g0, g5⟩ := hvs_cons hv9
  have g5 := hvs_nil g5
  subst g5
  obtain ⟨a, b, F0, B, K, S9, V, U, jd, sc, A1, A2, A3, A4, A5, A6, rfl, ha, hB, hn, e1, e2⟩ := cls_world a4 g0
  obtain ⟨-, qc, w44, wG⟩ := fact_at a4 q7
  obtain ⟨d4, d41, d42, d43⟩ := t2_44
  obtain ⟨i9, p9, e9, v9, k1, k2, k3, k4, k5⟩ := cell_any a4 (by decide) d41 d42 d43
  rw [w44] at k4
  cases k4
  obtain ⟨w, w1, hw⟩ := ht_ref k5
  cases hw
  obtain ⟨r6, v6, n6⟩ := vc6
  have z44 : c_cu ks wp 44 0 = some (zv sc) := has_ob (κ := 44) a4.1 (by decide) a6 rfl v6 (by omega) (by decide) ha.2.2.2.2.2.2.2.1 rfl
  rw [w44] at z44
  have esc := zv_ref (Option.some.inj z44).symm
  obtain ⟨c9, G, NM, MK, TP, PP, CO, KN, x9, hc0, hcz, hI, hnm⟩ := cls_city (fun i j p q h1 h2 e => a7.1 i j p q h1 h2 e) a4.1 w1 wG
  rw [← hc0] at esc
  subst esc
  obtain ⟨ha1, ha2⟩ := allz_spl (κ1 := [1, 2, 3, 4, 5, 6]) (κ2 := [0, 44, 45, 46, 47, 48, 49, 50, 7]) (Y1 := tW a F0 B K S9 V) (Y2 := oW a b U jd (zR (c9 0)) A1 A2 A3 A4 A5 A6) rfl ha
  refine ⟨rfl, [zR (b 0)], [1, 2, 3, 4, 5, 6] ++ [51, 52, 53, 54, 55, 56, 57, 58] ++ [0, 44, 45, 46, 47, 48, 49, 50, 7], tW a F0 B K S9 V ++ cW c9 G (fun s => cint (c_cu ks wp) 27 s) NM MK TP PP CO KN ++ oW a b U jd (zR (c9 0)) A1 A2 A3 A4 A5 A6, _, rfl, allz_app (allz_app ha1 hcz) ha2, by decide, by rw [q2]; exact zm_sentence hB hn hI, ?_⟩
  intro vr q r J H1 locs1 ks1 wp1 z Y1 c1 c2 c3 c4 c5 c6 c7 c8 c9' c10 c11 c12 c13 c14
  obtain ⟨kk, P, K9, S8, V9, F9, U9, jd9, ee, E9, E1, E2, E3, E4, t9, R9, hO, hs9, hn99, rfl, hU14, rfl⟩ := c4
  have f77 := fact_at a4 q4
  have f80 := fact_at a4 q5
  have f81 := fact_at a4 q6
  have w77 : cint (c_cu ks wp) 1 1 = cint (c_cu ks wp) 25 2 := f77.2
  have w80 : ∀ j : Nat, j < 940 → cint (c_cu ks wp) 2 j = cint (c_cu ks wp) 26 j := f80.2
  have w81 : ∀ j : Nat, j < 29 → c_cu ks wp 31 j = some (.long (Int64.ofInt (RVk j))) := f81.2
  have u25 : cint (c_cu ks1 wp1) 25 2 = F0 0 := by
    rw [← e1, w77]
    exact cint_eq (cint_un a4.1 c13 (by decide) q3 (by decide))
  have u26 : ∀ j, j < 940 → cint (c_cu ks1 wp1) 26 j = B j := by
    intro j hj
    rw [← e2 j hj, w80 j hj]
    exact cint_eq (cint_un a4.1 c13 (by decide) q3 (by decide))
  have u31 : ∀ j : Nat, j < 29 → c_cu ks1 wp1 31 j = some (.long (Int64.ofInt (RVk j))) := by
    intro j hj
    rw [cint_un (κ := 31) (j := j) a4.1 c13 (by decide) q3 (by decide)]
    exact w81 j hj
  have u27 : ∀ j : Nat, c_cu ks1 wp1 27 j = c_cu ks wp 27 j := fun j => cint_un a4.1 c13 (by decide) q3 (by decide)
  have u30 : ∀ j : Nat, c_cu ks1 wp1 30 j = c_cu ks wp 30 j := fun j => cint_un a4.1 c13 (by decide) q3 (by decide)
  have er : r = Int32.ofInt (sAns S8 (sFin K9 R9)) := Value.int.inj (Option.some.inj c3)
  obtain ⟨n9, hn9⟩ := sent_eq (K := K9) (V := V9) (CN := fun s => cint (c_cu ks wp) 27 s) (NM := NM) (t := t9) (by rw [hs9]; exact hn99)
  rw [hs9] at hn9
  have hA9 : sA K9 V9 (fun s => cint (c_cu ks wp) 27 s) NM n9 false [] 1 0 0 = sFin K9 R9 := by
    have h9 := hn9 0
    rw [Nat.zero_add] at h9
    exact h9
  have hR99 : ¬ (sFin K9 R9).1 = 99 := by
    unfold sFin
    split
    · split
      · exact hn99
      · show ¬ (1 : Int) = 99
        decide
    · exact hn99
  obtain ⟨yq, hyq, hyin⟩ := o_cat_ok hy q c2
  unfold ox_sent5 at hyq
  split at hyq
  · rename_i k2 ins2 b2 hat3 hat4 hat5 hfind
    split at hyq
    · rename_i w
      simp only [Bool.and_eq_true] at w
      have wk := beq3 w.1
      have wb := bv_eq_ok w.2
      subst wb
      split at hyq
      · rename_i j2 M2 as2 rest2 sp2 L2 hc2
        split at hyq
        · rename_i w2
          simp only [Bool.and_eq_true] at w2
          obtain ⟨t1, t2, t3, t4, t5⟩ := w2
          have t1 := beq3 t1
          have t2 := bvs_eq_ok t2
          have t3 := bvs_eq_ok t3
          have t4 := rm_eq_ok t4
          subst t1
          subst t2
          subst t3
          cases hyq
          obtain ⟨k1, cs2, σ2, htry2, hL2⟩ := o_call_ok hc2
          -- the reference's turn
          obtain ⟨ix, v2, hix, g2⟩ := f_find_ok (a2.xt c6) hfind
          obtain ⟨qm, rfl⟩ : ∃ qm, v2 = .ref qm := by
            rcases g2.1 with ⟨h9, -⟩ | ⟨qm, -, h9⟩
            · cases h9
            · exact ⟨qm, h9⟩
          refine lv_pop X.1 X.2.1 (x_dec X hat3) rfl ?_
          refine lv_aload_n X.1 X.2.1 (x_dec X hat4) wk (lv_at a1 ix hix) ?_
          have hd5 : decode (mC M) (S.1 + 3 + 1 + 1) = .ok (ins2, 3) := x_dec X hat5
          refine s_xcall (S := (S.1 + 5, S.2.1, bP 25 true none :: rest2, q.2, S.2.2.2.2.1, S.2.2.2.2.2.1 + (pR sp).2.1, S.2.2.2.2.2.2 + (pR sp).2.2.1)) hSP X k1 hd5 htry2 hL2 a1 (show hvs J (bP 25 true none :: rest2) (.ref qm :: vr) from ⟨g2, c1⟩) c7 c9' c10 c11 c12 c14 (fun vas2 hv2 hP2 => ?_)
          have eM2 := mt_senM hP2
          subst eM2
          obtain ⟨v3, vr6, rfl, g3, g6⟩ := hvs_cons hv2
          have g6 := hvs_nil g6
          subst g6
          obtain ⟨mm, F1, B1, SS, HH, NR, RV, RD, ST, rfl, ha3, hB2, hn2, d1, d2, d3, d4, d5, d6⟩ := ref_world2 c7 g3
          have eF : F1 2 = F0 0 := by rw [← d1, u25]
          have etb : tb B1 (F1 2) = tb B (F0 0) := by
            rw [eF]
            exact tb_same hn.2 (fun j hj => by rw [← d2 j hj, u26 j hj])
          obtain ⟨x30, hx30⟩ := t2_30
          have m30 : ∀ k : Nat, k < 56 → c_cu ks1 wp1 30 k = some (.long (Int64.ofInt (NR k))) := fun k hk => has_al (κ := 30) (n := 56) (f := NR) c7.1 (by decide) c9' hx30 hk ha3.2.2.2.2.1
          have m27 : ∀ j : Nat, j < 8 → cint (c_cu ks1 wp1) 27 j = SS j := by
            intro j hj
            unfold cint
            rw [has_ar (κ := 27) (t := 0) (n := 269) (f := SS) (j := j) c7.1 (by decide) c9' rfl (by decide) (by omega) ha3.2.2.1]
            exact z_o32 (d6 j)
          have hRK : RK SS NR (fun s => cint (c_cu ks wp) 27 s) NM := by
            refine ⟨fun s hs => ?_, fun s i hs hi => ?_, d5⟩
            · rw [← m27 s (by omega)]
              exact cint_eq (u27 s)
            · obtain ⟨r1, r2⟩ := hnm s i hs hi
              have hlt := bs_lt hI hs hi
              have r3 : c_cu ks wp 30 (bs s - 28 + i) = some (.long (Int64.ofInt (wd (NM (s * 10 + i))))) := r2
              rw [← u30, m30 _ (by omega)] at r3
              have r4 : Int64.ofInt (NR (bs s - 28 + i)) = Int64.ofInt (wd (NM (s * 10 + i))) := Value.long.inj (Option.some.inj r3)
              have r5 := wd_rng (NM (s * 10 + i))
              have r6 := congrArg Int64.toInt r4
              rw [z_o64 (d5 _), z_o64 ⟨by omega, by omega⟩] at r6
              exact ⟨r6, r1⟩
          refine ⟨rfl, [zR (mm 0)], _, _, _, rfl, ha3, by decide, by rw [t4]; exact zr_sentence hB2 hn2 (by rw [etb, eF]; exact hO) (rv_same d3 u31 d4) d4 hRK hI hA9 hR99, ?_⟩
          intro vr3 q9 r2 J2 H2 locs2 ks2 wp2 z2 Y2 b1 b2 b3 b4 b5 b6 b7 b8 b9 b10 b11 b12 b13 b14
          obtain ⟨rfl, F8, SS9, RD9, ST9, rfl, h815⟩ := b4
          have h106 : cint (c_cu ks2 wp2) 0 14 = cint (c_cu ks2 wp2) 25 15 := by
            obtain ⟨r10, v10, n10⟩ := vc10
            obtain ⟨r11, v11, n11⟩ := vc11c
            have s14 : c_cu ks1 wp1 0 14 = some (zv (zI (U9 14))) := aft_ob (κ := 0) c7.1 c13 (by decide) c9' rfl v10 (by omega) (by decide) ha2.1 (c5 19 _ rfl) rfl
            have s15 : c_cu ks2 wp2 25 15 = some (zv (zI (F8 15))) := aft_ob (κ := 25) b7.1 b13 (by decide) b9 rfl v11 (by omega) (by decide) ha3.1 (b5 0 _ rfl) rfl
            have u14 : c_cu ks2 wp2 0 14 = c_cu ks1 wp1 0 14 := cint_un c7.1 b13 (by decide) t5 (by decide)
            unfold cint
            rw [u14, s14, s15, hU14, h815]
          exact aft_W (S := (S.1 + 5, S.2.1, bP 25 true none :: rest2, q.2, S.2.2.2.2.1, S.2.2.2.2.2.1 + (pR sp).2.1, S.2.2.2.2.2.2 + (pR sp).2.2.1)) hrw (k _ (hyin _ (List.mem_map.mpr ⟨q9, b2, rfl⟩))) a1 (a2.xt (c6.tr b6)) b1 b8 (HS_add b7 ⟨[], rfl, rfl, h106⟩) b9 b10 b11 b12 b14
        · cases hyq
      · cases hyq
    · cases hyq
  · cases hyq
end SS2
