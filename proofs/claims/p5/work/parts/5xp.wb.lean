/-! the worlds of a text, a book, the reference: what their cells hold (written by wip/p5/p1.py) -/
theorem clong_of {cu : CUt} {κ j : Nat} {z : Int} (h : cu κ j = some (.long (Int64.ofInt z))) (hz : zin64 z) : clong cu κ j = z := by
  unfold clong
  rw [h]
  exact z_o64 hz
theorem cint_of {cu : CUt} {κ j : Nat} {z : Int} (h : cu κ j = some (.int (Int32.ofInt z))) (hz : zin z) : cint cu κ j = z := by
  unfold cint
  rw [h]
  exact z_o32 hz
theorem zin64_T (x : Int64) : zin64 x.toInt := by
  have h1 := Int64.le_toInt x
  have h2 := Int64.toInt_lt x
  exact ⟨by omega, by omega⟩
section WB1
variable {cy : Nat → ClassId} {ks : List Nat} {wp : va_W} {AK : List (Nat × Nat)}
theorem hts_l2 {lo hi : Int} {r : List BT} {vs : List Value} (h : hts AK (.inr (.inl (lo, hi)) :: r) vs) : ∃ (u : Int) (vs' : List Value), vs = .long (Int64.ofInt u) :: vs' ∧ zin64 u ∧ hts AK r vs' := by
  obtain ⟨u, vs', rfl, h2⟩ := hts_l h
  exact ⟨(Int64.ofInt u).toInt, vs', by rw [z_oTL], zin64_T _, h2⟩
/-- the text and its tape -/
theorem txt_world {I : IN} {F : FS} {v : Value} (h : HS T2 FPX cy I ks wp F) (hx : hv I (bP 3 true none) v) : ∃ (a : Nat → Nat) (F0 B K S V : Nat → Int), v = .ref (a 2) ∧ allz cy ks wp [1, 2, 3, 4, 5, 6] (tW a F0 B K S V) ∧ (∀ k, -128 ≤ B k ∧ B k ≤ 127) ∧ (0 ≤ F0 0 ∧ F0 0 ≤ 940) ∧ cint (c_cu ks wp) 1 1 = F0 0 ∧ (∀ j, j < 940 → cint (c_cu ks wp) 2 j = B j) ∧
    (cint (c_cu ks wp) 3 4 = F0 1 ∧ cint (c_cu ks wp) 3 5 = F0 2 ∧ cint (c_cu ks wp) 3 6 = F0 3 ∧ cint (c_cu ks wp) 3 7 = F0 4 ∧ clong (c_cu ks wp) 3 8 = F0 5 ∧ cint (c_cu ks wp) 3 9 = F0 6) ∧ ∀ j, j < 941 → cint (c_cu ks wp) 4 j = K j ∧ cint (c_cu ks wp) 5 j = S j ∧ clong (c_cu ks wp) 6 j = V j := by
  have hp := h.1
  rcases hx.1 with ⟨h9, -⟩ | ⟨x, mx, rfl⟩
  · cases h9
  obtain ⟨iq, eq, kq, wq, tq⟩ := hp_ref (κ := 3) (d := .inr (9, [.inr (.inr (1, true)), .inr (.inr (4, true)), .inr (.inr (5, true)), .inr (.inr (6, true)), .inl (0, 941), .inl ((-1), 940), .inl (0, 255), .inl (0, 940), .inr (.inl ((-9223372036854775808), 9223372036854775807)), .inl (0, 4), .inl (0, 940)])) hp mx rfl
  obtain ⟨vs, rfl, s⟩ := kt_obj tq
  obtain ⟨q0, vs, rfl, mq0, s⟩ := hts_r s
  obtain ⟨q1, vs, rfl, mq1, s⟩ := hts_r s
  obtain ⟨q2, vs, rfl, mq2, s⟩ := hts_r s
  obtain ⟨q3, vs, rfl, mq3, s⟩ := hts_r s
  obtain ⟨q4, vs, rfl, bq4, s⟩ := hts_i s
  obtain ⟨q5, vs, rfl, bq5, s⟩ := hts_i s
  obtain ⟨q6, vs, rfl, bq6, s⟩ := hts_i s
  obtain ⟨q7, vs, rfl, bq7, s⟩ := hts_i s
  obtain ⟨q8, vs, rfl, bq8, s⟩ := hts_l2 s
  obtain ⟨q9, vs, rfl, bq9, s⟩ := hts_i s
  obtain ⟨q10, vs, rfl, bq10, s⟩ := hts_i s
  have s := hts_0 s
  subst s
  obtain ⟨ip, ep, kp_, wp_, tp⟩ := hp_ref (κ := 1) (d := .inr (8, [.inr (.inr (2, true)), .inl (0, 940)])) hp mq0 rfl
  obtain ⟨vs, rfl, s⟩ := kt_obj tp
  obtain ⟨p0, vs, rfl, mp0, s⟩ := hts_r s
  obtain ⟨p1, vs, rfl, bp1, s⟩ := hts_i s
  have s := hts_0 s
  subst s
  obtain ⟨ipb, epb, kpb, wpb, tpb⟩ := hp_ref (κ := 2) (d := .inl (1, 940, [(940, .inl ((-128), 127))])) hp mp0 rfl
  obtain ⟨fpb, rfl, zpb, ypb⟩ := kt_arr tpb (by decide)
  obtain ⟨iqk, eqk, kqk, wqk, tqk⟩ := hp_ref (κ := 4) (d := .inl (0, 941, [(941, .inl (0, 255))])) hp mq1 rfl
  obtain ⟨fqk, rfl, zqk, yqk⟩ := kt_arr tqk (by decide)
  obtain ⟨iqs, eqs, kqs, wqs, tqs⟩ := hp_ref (κ := 5) (d := .inl (0, 941, [(941, .inl (0, 940))])) hp mq2 rfl
  obtain ⟨fqs, rfl, zqs, yqs⟩ := kt_arr tqs (by decide)
  obtain ⟨iqv, eqv, kqv, wqv, tqv⟩ := hp_ref (κ := 6) (d := .inl (3, 941, [(941, .inr (.inl ((-9223372036854775808), 9223372036854775807)))])) hp mq3 rfl
  obtain ⟨fqv, rfl, zqv⟩ := kt_arl tqv
  have c3 : ∀ (j : Nat) (z : Int), cval (.inr (9, [.ref q0, .ref q1, .ref q2, .ref q3, .int (Int32.ofInt q4), .int (Int32.ofInt q5), .int (Int32.ofInt q6), .int (Int32.ofInt q7), .long (Int64.ofInt q8), .int (Int32.ofInt q9), .int (Int32.ofInt q10)])) j = some (.int (Int32.ofInt z)) → zin z → cint (c_cu ks wp) 3 j = z := fun j z h hz => cint_of (by rw [cu_at hp (by decide) kq wq, h]) hz
  refine ⟨(fun k => ([q0, p0, x, q1, q2, q3] : List Nat).getD k 0), (fun k => ([p1, q4, q5, q6, q7, q8, q9, q10] : List Int).getD k 0), cutB 940 fpb, fqk, fqs, fqv, rfl, ⟨hasz_o (fs := [zR p0, zI p1]) kp_ wp_, hasz_c kpb wpb, hasz_o (fs := [zR q0, zR q1, zR q2, zR q3, zI q4, zI q5, zI q6, zI q7, zL q8, zI q9, zI q10]) kq wq, hasz_i kqk wqk, hasz_i kqs wqs, hasz_l kqv wqv, trivial⟩, cut_byte (kt_byte ypb zpb), ⟨bp1.1, bp1.2.1⟩, ?_, fun j hj => ?_, ⟨c3 4 q4 rfl bq4.2.2, c3 5 q5 rfl bq5.2.2, c3 6 q6 rfl bq6.2.2, c3 7 q7 rfl bq7.2.2, clong_of (by rw [cu_at hp (by decide) kq wq]; rfl) bq8, c3 9 q9 rfl bq9.2.2⟩, fun j hj => ⟨cint_of (by rw [cu_at hp (by decide) kqk wqk]; simp only [cval]; rw [if_pos hj]; rfl) (zqk j), cint_of (by rw [cu_at hp (by decide) kqs wqs]; simp only [cval]; rw [if_pos hj]; rfl) (zqs j), clong_of (by rw [cu_at hp (by decide) kqv wqv]; simp only [cval]; rw [if_pos hj]; rfl) (zqv j)⟩⟩
  · exact cint_of (by rw [cu_at hp (by decide) kp_ wp_]; rfl) bp1.2.2
  · refine cint_of ?_ (by rw [cutB_lt hj]; exact zpb j)
    rw [cu_at hp (by decide) kpb wpb]
    simp only [cval]
    rw [if_pos hj, cutB_lt hj]
    rfl
/-- the book -/
theorem book_world {I : IN} {F : FS} {v : Value} (h : HS T2 FPX cy I ks wp F) (hx : hv I (bP 9 true none) v) : ∃ (b : Nat → Nat) (LF W1 W2 W3 W4 : Nat → Int), v = .ref (b 0) ∧ allz cy ks wp [9, 10, 11, 12, 13] (kW b LF W1 W2 W3 W4) := by
  have hp := h.1
  rcases hx.1 with ⟨h9, -⟩ | ⟨x, mx, rfl⟩
  · cases h9
  obtain ⟨i0, e0, k0, w0, t0⟩ := hp_ref (κ := 9) (d := .inr (0, [.inr (.inr (10, true)), .inr (.inr (11, true)), .inr (.inr (12, true)), .inr (.inr (13, true)), .inl (0, 40), .inr (.inr (14, true))])) hp mx rfl
  obtain ⟨vs, rfl, s⟩ := kt_obj t0
  obtain ⟨x1, vs, rfl, m1, s⟩ := hts_r s
  obtain ⟨x2, vs, rfl, m2, s⟩ := hts_r s
  obtain ⟨x3, vs, rfl, m3, s⟩ := hts_r s
  obtain ⟨x4, vs, rfl, m4, s⟩ := hts_r s
  obtain ⟨g4, vs, rfl, b4, s⟩ := hts_i s
  obtain ⟨x5, vs, rfl, m5, s⟩ := hts_r s
  have s := hts_0 s
  subst s
  obtain ⟨i1, e1, k1, w1, t1⟩ := hp_ref (κ := 10) (d := .inl (0, 40, [(40, .inl (0, 17))])) hp m1 rfl
  obtain ⟨f1, rfl, z1, y1⟩ := kt_arr t1 (by decide)
  obtain ⟨i2, e2, k2, w2, t2⟩ := hp_ref (κ := 11) (d := .inl (0, 40, [(40, .inl ((-1), 5))])) hp m2 rfl
  obtain ⟨f2, rfl, z2, y2⟩ := kt_arr t2 (by decide)
  obtain ⟨i3, e3, k3, w3, t3⟩ := hp_ref (κ := 12) (d := .inl (0, 40, [(40, .inl ((-1), 60))])) hp m3 rfl
  obtain ⟨f3, rfl, z3, y3⟩ := kt_arr t3 (by decide)
  obtain ⟨i4, e4, k4, w4, t4⟩ := hp_ref (κ := 13) (d := .inl (0, 40, [(40, .inl (0, 1023))])) hp m4 rfl
  obtain ⟨f4, rfl, z4, y4⟩ := kt_arr t4 (by decide)
  exact ⟨(fun k => ([x, x1, x2, x3, x4, x5] : List Nat).getD k 0), (fun k => ([0, 0, 0, 0, g4] : List Int).getD k 0), f1, f2, f3, f4, rfl, hasz_o (fs := [zR x1, zR x2, zR x3, zR x4, zI g4, zR x5]) k0 w0, hasz_i k1 w1, hasz_i k2 w2, hasz_i k3 w3, hasz_i k4 w4, trivial⟩
set_option maxHeartbeats 4000000 in
theorem ref_world3 {I : IN} {F : FS} {v : Value} (h : HS T2 FPX cy I ks wp F) (hx : hv I (bP 25 true none) v) : ∃ (m : Nat → Nat) (F0 B SS HH NR RV RD ST : Nat → Int), v = .ref (m 0) ∧ allz cy ks wp [25, 26, 27, 28, 30, 31, 29, 39] (rW m F0 B SS HH NR RV ++ qW m RD ST) ∧ (∀ k, -128 ≤ B k ∧ B k ≤ 127) ∧ (0 ≤ F0 2 ∧ F0 2 ≤ 940) ∧ cint (c_cu ks wp) 25 2 = F0 2 ∧ (∀ j, j < 940 → cint (c_cu ks wp) 26 j = B j) ∧ (∀ j, j < 29 → c_cu ks wp 31 j = some (.long (Int64.ofInt (RV j)))) ∧ (∀ q, zin64 (RV q)) ∧ (∀ q, zin64 (NR q)) ∧ (∀ q, zin (SS q)) ∧ (cint (c_cu ks wp) 25 3 = F0 3 ∧ cint (c_cu ks wp) 25 4 = F0 4 ∧ cint (c_cu ks wp) 25 5 = F0 5 ∧ cint (c_cu ks wp) 25 11 = F0 11 ∧ cint (c_cu ks wp) 25 12 = F0 12 ∧ cint (c_cu ks wp) 25 14 = F0 14 ∧ cint (c_cu ks wp) 25 15 = F0 15 ∧ cint (c_cu ks wp) 25 40 = F0 40 ∧ c_cu ks wp 25 17 = some (.long (Int64.ofInt (F0 17))) ∧ zin64 (F0 17)) ∧ (∀ j, j < 8 → cint (c_cu ks wp) 27 j = SS j) ∧ ∀ j, j < 56 → c_cu ks wp 30 j = some (.long (Int64.ofInt (NR j))) := by
  have hp := h.1
  rcases hx.1 with ⟨h9, -⟩ | ⟨x, mx, rfl⟩
  · cases h9
  obtain ⟨ix, ex, kx, wx, tx⟩ := hp_ref (κ := 25) (d := .inr (11, [.inl (0, 1), .inr (.inr (26, true)), .inl (0, 940), .inl (0, 940), .inl (0, 940), .inl (0, 940), .inr (.inr (27, true)), .inr (.inr (28, true)), .inr (.inr (29, true)), .inr (.inr (30, true)), .inr (.inr (31, true)), .inl (0, 4), .inl (0, 940), .inl (0, 940), .inl ((-2147483648), 2147483647), .inl (0, 4), .inl (0, 940), .inr (.inl (0, 72057594037927935)), .inl ((-2147483648), 2147483647), .inl ((-2147483648), 2147483647), .inl (0, 15), .inr (.inr (32, true)), .inr (.inr (33, true)), .inl (0, 8), .inl ((-2147483648), 2147483647), .inl ((-2147483648), 2147483647), .inl ((-2147483648), 2147483647), .inl (0, 1), .inl (0, 1), .inl (0, 1), .inl ((-2147483648), 2147483647), .inl ((-2147483648), 2147483647), .inl (0, 1), .inr (.inr (34, true)), .inr (.inr (35, true)), .inr (.inr (36, true)), .inl (0, 1), .inr (.inr (37, true)), .inl (0, 96), .inl ((-2147483648), 2147483647), .inl (0, 40), .inr (.inr (38, true)), .inl (0, 1), .inr (.inr (39, true)), .inl (0, 40), .inl (0, 20), .inl (0, 40), .inl ((-2147483648), 2147483647), .inl (0, 1), .inr (.inr (40, true)), .inr (.inr (41, true)), .inr (.inr (42, true)), .inr (.inr (43, true))])) hp mx rfl
  obtain ⟨vs, rfl, s⟩ := kt_obj tx
  obtain ⟨x0, vs, rfl, bx0, s⟩ := hts_i s
  obtain ⟨x1, vs, rfl, mx1, s⟩ := hts_r s
  obtain ⟨x2, vs, rfl, bx2, s⟩ := hts_i s
  obtain ⟨x3, vs, rfl, bx3, s⟩ := hts_i s
  obtain ⟨x4, vs, rfl, bx4, s⟩ := hts_i s
  obtain ⟨x5, vs, rfl, bx5, s⟩ := hts_i s
  obtain ⟨x6, vs, rfl, mx6, s⟩ := hts_r s
  obtain ⟨x7, vs, rfl, mx7, s⟩ := hts_r s
  obtain ⟨x8, vs, rfl, mx8, s⟩ := hts_r s
  obtain ⟨x9, vs, rfl, mx9, s⟩ := hts_r s
  obtain ⟨x10, vs, rfl, mx10, s⟩ := hts_r s
  obtain ⟨x11, vs, rfl, bx11, s⟩ := hts_i s
  obtain ⟨x12, vs, rfl, bx12, s⟩ := hts_i s
  obtain ⟨x13, vs, rfl, bx13, s⟩ := hts_i s
  obtain ⟨x14, vs, rfl, bx14, s⟩ := hts_i s
  obtain ⟨x15, vs, rfl, bx15, s⟩ := hts_i s
  obtain ⟨x16, vs, rfl, bx16, s⟩ := hts_i s
  obtain ⟨x17, vs, rfl, bx17, s⟩ := hts_l2 s
  obtain ⟨x18, vs, rfl, bx18, s⟩ := hts_i s
  obtain ⟨x19, vs, rfl, bx19, s⟩ := hts_i s
  obtain ⟨x20, vs, rfl, bx20, s⟩ := hts_i s
  obtain ⟨x21, vs, rfl, mx21, s⟩ := hts_r s
  obtain ⟨x22, vs, rfl, mx22, s⟩ := hts_r s
  obtain ⟨x23, vs, rfl, bx23, s⟩ := hts_i s
  obtain ⟨x24, vs, rfl, bx24, s⟩ := hts_i s
  obtain ⟨x25, vs, rfl, bx25, s⟩ := hts_i s
  obtain ⟨x26, vs, rfl, bx26, s⟩ := hts_i s
  obtain ⟨x27, vs, rfl, bx27, s⟩ := hts_i s
  obtain ⟨x28, vs, rfl, bx28, s⟩ := hts_i s
  obtain ⟨x29, vs, rfl, bx29, s⟩ := hts_i s
  obtain ⟨x30, vs, rfl, bx30, s⟩ := hts_i s
  obtain ⟨x31, vs, rfl, bx31, s⟩ := hts_i s
  obtain ⟨x32, vs, rfl, bx32, s⟩ := hts_i s
  obtain ⟨x33, vs, rfl, mx33, s⟩ := hts_r s
  obtain ⟨x34, vs, rfl, mx34, s⟩ := hts_r s
  obtain ⟨x35, vs, rfl, mx35, s⟩ := hts_r s
  obtain ⟨x36, vs, rfl, bx36, s⟩ := hts_i s
  obtain ⟨x37, vs, rfl, mx37, s⟩ := hts_r s
  obtain ⟨x38, vs, rfl, bx38, s⟩ := hts_i s
  obtain ⟨x39, vs, rfl, bx39, s⟩ := hts_i s
  obtain ⟨x40, vs, rfl, bx40, s⟩ := hts_i s
  obtain ⟨x41, vs, rfl, mx41, s⟩ := hts_r s
  obtain ⟨x42, vs, rfl, bx42, s⟩ := hts_i s
  obtain ⟨x43, vs, rfl, mx43, s⟩ := hts_r s
  obtain ⟨x44, vs, rfl, bx44, s⟩ := hts_i s
  obtain ⟨x45, vs, rfl, bx45, s⟩ := hts_i s
  obtain ⟨x46, vs, rfl, bx46, s⟩ := hts_i s
  obtain ⟨x47, vs, rfl, bx47, s⟩ := hts_i s
  obtain ⟨x48, vs, rfl, bx48, s⟩ := hts_i s
  obtain ⟨x49, vs, rfl, mx49, s⟩ := hts_r s
  obtain ⟨x50, vs, rfl, mx50, s⟩ := hts_r s
  obtain ⟨x51, vs, rfl, mx51, s⟩ := hts_r s
  obtain ⟨x52, vs, rfl, mx52, s⟩ := hts_r s
  have s := hts_0 s
  subst s
  obtain ⟨ib, eb, kb, wb, tb⟩ := hp_ref (κ := 26) (d := .inl (1, 940, [(940, .inl ((-128), 127))])) hp mx1 rfl
  obtain ⟨fb, rfl, zb, yb⟩ := kt_arr tb (by decide)
  obtain ⟨is_, es_, ks_, ws_, ts_⟩ := hp_ref (κ := 27) (d := .inl (0, 269, [(1, .inl (0, 4)), (1, .inl (0, 10)), (1, .inl (0, 8)), (1, .inl (0, 6)), (4, .inl (0, 20)), (8, .inl (0, 3)), (8, .inl (0, 1023)), (6, .inl (0, 3)), (6, .inl (0, 99)), (1, .inl (0, 63)), (6, .inl (0, 1023)), (3, .inl ((-2147483648), 2147483647)), (8, .inl (0, 3)), (8, .inl (0, 6)), (8, .inl ((-2147483648), 2147483647)), (6, .inl (0, 3)), (6, .inl ((-2147483648), 2147483647)), (6, .inl (0, 1023)), (1, .inl (0, 40)), (180, .inl ((-2147483648), 2147483647))])) hp mx6 rfl
  obtain ⟨fs_, rfl, zs_, ys_⟩ := kt_arr ts_ (by decide)
  obtain ⟨ih, eh, kh, wh, th⟩ := hp_ref (κ := 28) (d := .inl (0, 43, [(1, .inl (0, 4)), (1, .inl (0, 10)), (1, .inl (0, 8)), (1, .inl (0, 6)), (4, .inl (0, 20)), (8, .inl (0, 3)), (8, .inl (0, 1023)), (6, .inl (0, 3)), (6, .inl (0, 99)), (1, .inl (0, 63)), (6, .inl (0, 1023))])) hp mx7 rfl
  obtain ⟨fh, rfl, zh, yh⟩ := kt_arr th (by decide)
  obtain ⟨inr, enr, knr, wnr, tnr⟩ := hp_ref (κ := 30) (d := .inl (3, 56, [(56, .inr (.inl (0, 72057594037927935)))])) hp mx9 rfl
  obtain ⟨fnr, rfl, znr⟩ := kt_arl tnr
  obtain ⟨ir, er, kr, wr, tr⟩ := hp_ref (κ := 31) (d := .inl (3, 29, [(29, .inr (.inl ((-9223372036854775808), 9223372036854775807)))])) hp mx10 rfl
  obtain ⟨fr, rfl, zr⟩ := kt_arl tr
  obtain ⟨ird, erd, krd, wrd, trd⟩ := hp_ref (κ := 29) (d := .inl (0, 160, [(160, .inl ((-2147483648), 2147483647))])) hp mx8 rfl
  obtain ⟨frd, rfl, zrd, yrd⟩ := kt_arr trd (by decide)
  obtain ⟨ist, est, kst, wst, tst⟩ := hp_ref (κ := 39) (d := .inl (0, 45, [(45, .inl ((-2147483648), 2147483647))])) hp mx43 rfl
  obtain ⟨fst9, rfl, zst, yst⟩ := kt_arr tst (by decide)
  refine ⟨(fun k => ([x, x1, 0, 0, 0, 0, x6, x7, x8, x9, x10, 0, 0, 0, 0, 0, 0, 0, 0, 0, 0, x21, x22, 0, 0, 0, 0, 0, 0, 0, 0, 0, 0, x33, x34, x35, 0, x37, 0, 0, 0, x41, 0, x43, 0, 0, 0, 0, 0, x49, x50, x51, x52] : List Nat).getD k 0), (fun k => ([x0, 0, x2, x3, x4, x5, 0, 0, 0, 0, 0, x11, x12, x13, x14, x15, x16, x17, x18, x19, x20, 0, 0, x23, x24, x25, x26, x27, x28, x29, x30, x31, x32, 0, 0, 0, x36, 0, x38, x39, x40, 0, x42, 0, x44, x45, x46, x47, x48, 0, 0, 0, 0] : List Int).getD k 0), cutB 940 fb, fs_, fh, fnr, fr, frd, fst9, rfl, ⟨hasz_o (fs := [zI x0, zR x1, zI x2, zI x3, zI x4, zI x5, zR x6, zR x7, zR x8, zR x9, zR x10, zI x11, zI x12, zI x13, zI x14, zI x15, zI x16, zL x17, zI x18, zI x19, zI x20, zR x21, zR x22, zI x23, zI x24, zI x25, zI x26, zI x27, zI x28, zI x29, zI x30, zI x31, zI x32, zR x33, zR x34, zR x35, zI x36, zR x37, zI x38, zI x39, zI x40, zR x41, zI x42, zR x43, zI x44, zI x45, zI x46, zI x47, zI x48, zR x49, zR x50, zR x51, zR x52]) kx wx, hasz_c kb wb, hasz_i ks_ ws_, hasz_i kh wh, hasz_l knr wnr, hasz_l kr wr, hasz_i krd wrd, hasz_i kst wst, trivial⟩, cut_byte (kt_byte yb zb), ⟨bx2.1, bx2.2.1⟩, ?_, fun j hj => ?_, fun j hj => ?_, zr, znr, zs_, ⟨cint_of (by rw [cu_at hp (by decide) kx wx]; rfl) bx3.2.2, cint_of (by rw [cu_at hp (by decide) kx wx]; rfl) bx4.2.2, cint_of (by rw [cu_at hp (by decide) kx wx]; rfl) bx5.2.2, cint_of (by rw [cu_at hp (by decide) kx wx]; rfl) bx11.2.2, cint_of (by rw [cu_at hp (by decide) kx wx]; rfl) bx12.2.2, cint_of (by rw [cu_at hp (by decide) kx wx]; rfl) bx14.2.2, cint_of (by rw [cu_at hp (by decide) kx wx]; rfl) bx15.2.2, cint_of (by rw [cu_at hp (by decide) kx wx]; rfl) bx40.2.2, by rw [cu_at hp (by decide) kx wx]; rfl, bx17⟩, fun j hj => cint_of (by rw [cu_at hp (by decide) ks_ ws_]; simp only [cval]; rw [if_pos (by omega)]; rfl) (zs_ j), fun j hj => by rw [cu_at hp (by decide) knr wnr]; simp only [cval]; rw [if_pos hj]; rfl⟩
  · unfold cint
    rw [cu_at hp (by decide) kx wx]
    exact z_o32 bx2.2.2
  · unfold cint
    rw [cu_at hp (by decide) kb wb]
    simp only [cval]
    rw [if_pos hj, cutB_lt hj]
    exact z_o32 (zb j)
  · rw [cu_at hp (by decide) kr wr]
    simp only [cval]
    rw [if_pos hj]
    rfl
end WB1
