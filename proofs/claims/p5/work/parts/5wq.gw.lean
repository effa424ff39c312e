/-! glue: the worlds of class and reference, out of what kinds say (written by wip/p4/g18.py) -/
section GL2
variable {cy : Nat → ClassId} {ks : List Nat} {wp : va_W} {AK : List (Nat × Nat)}
theorem hasz_o {κ i q ci : Nat} {fs : List ZV} (h1 : ks[i]? = some κ) (h2 : wp[i]? = some (q, .inr (ci, fs.map zv))) : hasz cy ks wp κ (q, .inl (ci, fs)) := ⟨i, _, h1, h2, fun _ _ h => h⟩
theorem hasz_i {κ i q t n : Nat} {f : Nat → Int} (h1 : ks[i]? = some κ) (h2 : wp[i]? = some (q, .inl (cy t, n, .inl (rI f)))) : hasz cy ks wp κ (q, .inr (.inl (t, n, f))) := ⟨i, _, h1, h2, fun _ _ h => h⟩
theorem hasz_l {κ i q n : Nat} {f : Nat → Int} (h1 : ks[i]? = some κ) (h2 : wp[i]? = some (q, .inl (cy 3, n, .inr (.inl (rL f))))) : hasz cy ks wp κ (q, .inr (.inr (n, f))) := ⟨i, _, h1, h2, fun _ _ h => h⟩
theorem hasz_c {κ i q t n : Nat} {f : Nat → Int} (h1 : ks[i]? = some κ) (h2 : wp[i]? = some (q, .inl (cy t, n, .inl (rI f)))) : hasz cy ks wp κ (q, .inr (.inl (t, n, cutB n f))) := ⟨i, _, h1, h2, fun _ _ h => cutB_at h⟩
theorem kt_byte {n : Nat} {lo hi : Int} {f : Nat → Int} (h : ∀ (j : Nat) (ty : BT), j < n → k_seg [(n, .inl (lo, hi))] j = some ty → ht AK ty (.int (Int32.ofInt (f j)))) (hz : ∀ j, zin (f j)) : ∀ j, j < n → lo ≤ f j ∧ f j ≤ hi := by
  intro j hj
  have h1 := h j (.inl (lo, hi)) hj (by simp only [k_seg]; rw [if_pos (decide_eq_true hj)])
  obtain ⟨x, e, h2, h3⟩ := h1
  cases e
  rw [z_o32 (hz j)] at h2 h3
  exact ⟨h2, h3⟩
theorem cut_byte {f : Nat → Int} (h : ∀ j, j < 940 → -128 ≤ f j ∧ f j ≤ 127) : ∀ j, -128 ≤ cutB 940 f j ∧ cutB 940 f j ≤ 127 := by
  intro j
  unfold cutB
  split
  · rename_i hj
    exact h j hj
  · exact ⟨by decide, by decide⟩
set_option maxRecDepth 8000 in
set_option maxHeartbeats 2000000 in
theorem cls_world {I : IN} {F : FS} {v : Value} (h : HS T2 FPX cy I ks wp F) (hx : hv I (bP 0 true none) v) : ∃ (a b : Nat → Nat) (F0 B K S V U : Nat → Int) (jd sc : ZV) (A1 A2 A3 A4 A5 A6 : Nat → Int), v = .ref (b 0) ∧ allz cy ks wp [1, 2, 3, 4, 5, 6, 0, 44, 45, 46, 47, 48, 49, 50, 7] (tW a F0 B K S V ++ oW a b U jd sc A1 A2 A3 A4 A5 A6) ∧ (∀ k, -128 ≤ B k ∧ B k ≤ 127) ∧ (0 ≤ F0 0 ∧ F0 0 ≤ 940) ∧ cint (c_cu ks wp) 1 1 = F0 0 ∧ (∀ j, j < 940 → cint (c_cu ks wp) 2 j = B j) := by
  have hp := h.1
  rcases hx.1 with ⟨h9, -⟩ | ⟨x, mx, rfl⟩
  · cases h9
  obtain ⟨ix, ex, kx, wx, tx⟩ := hp_ref (κ := 0) (d := .inr (10, [.inr (.inr (1, true)), .inr (.inr (3, true)), .inr (.inr (44, true)), .inr (.inr (85, true)), .inr (.inr (7, true)), .inr (.inr (9, true)), .inr (.inr (15, true)), .inr (.inr (18, true)), .inr (.inr (20, true)), .inr (.inr (21, true)), .inr (.inr (22, true)), .inr (.inr (23, true)), .inl (0, 96), .inr (.inr (59, false)), .inl (0, 4), .inl ((-2147483648), 2147483647), .inl ((-2147483648), 2147483647), .inl ((-2147483648), 2147483647)])) hp mx rfl
  obtain ⟨vs, rfl, s⟩ := kt_obj tx
  obtain ⟨x0, vs, rfl, mx0, s⟩ := hts_r s
  obtain ⟨x1, vs, rfl, mx1, s⟩ := hts_r s
  obtain ⟨x2, vs, rfl, mx2, s⟩ := hts_r s
  obtain ⟨x3, vs, rfl, mx3, s⟩ := hts_r s
  obtain ⟨x4, vs, rfl, mx4, s⟩ := hts_r s
  obtain ⟨x5, vs, rfl, mx5, s⟩ := hts_r s
  obtain ⟨x6, vs, rfl, mx6, s⟩ := hts_r s
  obtain ⟨x7, vs, rfl, mx7, s⟩ := hts_r s
  obtain ⟨x8, vs, rfl, mx8, s⟩ := hts_r s
  obtain ⟨x9, vs, rfl, mx9, s⟩ := hts_r s
  obtain ⟨x10, vs, rfl, mx10, s⟩ := hts_r s
  obtain ⟨x11, vs, rfl, mx11, s⟩ := hts_r s
  obtain ⟨x12, vs, rfl, bx12, s⟩ := hts_i s
  obtain ⟨x13, vs, rfl, s9⟩ := hts_n s
  have s := s9
  obtain ⟨x14, vs, rfl, bx14, s⟩ := hts_i s
  obtain ⟨x15, vs, rfl, bx15, s⟩ := hts_i s
  obtain ⟨x16, vs, rfl, bx16, s⟩ := hts_i s
  obtain ⟨x17, vs, rfl, bx17, s⟩ := hts_i s
  have s := hts_0 s
  subst s
  obtain ⟨ip, ep, kp_, wp_, tp⟩ := hp_ref (κ := 1) (d := .inr (8, [.inr (.inr (2, true)), .inl (0, 940)])) hp mx0 rfl
  obtain ⟨vs, rfl, s⟩ := kt_obj tp
  obtain ⟨p0, vs, rfl, mp0, s⟩ := hts_r s
  obtain ⟨p1, vs, rfl, bp1, s⟩ := hts_i s
  have s := hts_0 s
  subst s
  obtain ⟨ipb, epb, kpb, wpb, tpb⟩ := hp_ref (κ := 2) (d := .inl (1, 940, [(940, .inl ((-128), 127))])) hp mp0 rfl
  obtain ⟨fpb, rfl, zpb, ypb⟩ := kt_arr tpb (by decide)
  obtain ⟨iq, eq, kq, wq, tq⟩ := hp_ref (κ := 3) (d := .inr (9, [.inr (.inr (1, true)), .inr (.inr (4, true)), .inr (.inr (5, true)), .inr (.inr (6, true)), .inl (0, 941), .inl ((-1), 940), .inl (0, 255), .inl (0, 940), .inr (.inl ((-9223372036854775808), 9223372036854775807)), .inl (0, 4), .inl (0, 940)])) hp mx1 rfl
  obtain ⟨vs, rfl, s⟩ := kt_obj tq
  obtain ⟨q0, vs, rfl, mq0, s⟩ := hts_r s
  obtain ⟨q1, vs, rfl, mq1, s⟩ := hts_r s
  obtain ⟨q2, vs, rfl, mq2, s⟩ := hts_r s
  obtain ⟨q3, vs, rfl, mq3, s⟩ := hts_r s
  obtain ⟨q4, vs, rfl, bq4, s⟩ := hts_i s
  obtain ⟨q5, vs, rfl, bq5, s⟩ := hts_i s
  obtain ⟨q6, vs, rfl, bq6, s⟩ := hts_i s
  obtain ⟨q7, vs, rfl, bq7, s⟩ := hts_i s
  obtain ⟨q8, vs, rfl, s9⟩ := hts_l s
  have s := s9
  obtain ⟨q9, vs, rfl, bq9, s⟩ := hts_i s
  obtain ⟨q10, vs, rfl, bq10, s⟩ := hts_i s
  have s := hts_0 s
  subst s
  have u := hp_one hp (κ := 1) (d := .inr (8, [.inr (.inr (2, true)), .inl (0, 940)])) (by decide) mx0 mq0 rfl
  rw [← u] at wq
  obtain ⟨iqk, eqk, kqk, wqk, tqk⟩ := hp_ref (κ := 4) (d := .inl (0, 941, [(941, .inl (0, 255))])) hp mq1 rfl
  obtain ⟨fqk, rfl, zqk, yqk⟩ := kt_arr tqk (by decide)
  obtain ⟨iqs, eqs, kqs, wqs, tqs⟩ := hp_ref (κ := 5) (d := .inl (0, 941, [(941, .inl (0, 940))])) hp mq2 rfl
  obtain ⟨fqs, rfl, zqs, yqs⟩ := kt_arr tqs (by decide)
  obtain ⟨iqv, eqv, kqv, wqv, tqv⟩ := hp_ref (κ := 6) (d := .inl (3, 941, [(941, .inr (.inl ((-9223372036854775808), 9223372036854775807)))])) hp mq3 rfl
  obtain ⟨fqv, rfl, zqv⟩ := kt_arl tqv
  obtain ⟨ic, ec, kc, wc, tc⟩ := hp_ref (κ := 44) (d := .inr (6, [.inr (.inr (51, true)), .inr (.inr (45, true)), .inr (.inr (46, true)), .inr (.inr (47, true)), .inr (.inr (48, true)), .inr (.inr (49, true)), .inr (.inr (50, true)), .inl ((-2147483648), 2147483647), .inl ((-2147483648), 2147483647), .inl ((-2147483648), 2147483647)])) hp mx2 rfl
  obtain ⟨vs, rfl, s⟩ := kt_obj tc
  obtain ⟨c0, vs, rfl, mc0, s⟩ := hts_r s
  obtain ⟨c1, vs, rfl, mc1, s⟩ := hts_r s
  obtain ⟨c2, vs, rfl, mc2, s⟩ := hts_r s
  obtain ⟨c3, vs, rfl, mc3, s⟩ := hts_r s
  obtain ⟨c4, vs, rfl, mc4, s⟩ := hts_r s
  obtain ⟨c5, vs, rfl, mc5, s⟩ := hts_r s
  obtain ⟨c6, vs, rfl, mc6, s⟩ := hts_r s
  obtain ⟨c7, vs, rfl, bc7, s⟩ := hts_i s
  obtain ⟨c8, vs, rfl, bc8, s⟩ := hts_i s
  obtain ⟨c9, vs, rfl, bc9, s⟩ := hts_i s
  have s := hts_0 s
  subst s
  obtain ⟨ica, eca, kca, wca, tca⟩ := hp_ref (κ := 45) (d := .inl (0, 8, [(8, .inl ((-1), 3))])) hp mc1 rfl
  obtain ⟨fca, rfl, zca, yca⟩ := kt_arr tca (by decide)
  obtain ⟨icb, ecb, kcb, wcb, tcb⟩ := hp_ref (κ := 46) (d := .inl (0, 8, [(8, .inl ((-1), 5))])) hp mc2 rfl
  obtain ⟨fcb, rfl, zcb, ycb⟩ := kt_arr tcb (by decide)
  obtain ⟨icc, ecc, kcc, wcc, tcc⟩ := hp_ref (κ := 47) (d := .inl (0, 8, [(8, .inl ((-2147483648), 2147483647))])) hp mc3 rfl
  obtain ⟨fcc, rfl, zcc, ycc⟩ := kt_arr tcc (by decide)
  obtain ⟨icd, ecd, kcd, wcd, tcd⟩ := hp_ref (κ := 48) (d := .inl (0, 6, [(6, .inl ((-1), 3))])) hp mc4 rfl
  obtain ⟨fcd, rfl, zcd, ycd⟩ := kt_arr tcd (by decide)
  obtain ⟨ice, ece, kce, wce, tce⟩ := hp_ref (κ := 49) (d := .inl (0, 6, [(6, .inl ((-2147483648), 2147483647))])) hp mc5 rfl
  obtain ⟨fce, rfl, zce, yce⟩ := kt_arr tce (by decide)
  obtain ⟨icf, ecf, kcf, wcf, tcf⟩ := hp_ref (κ := 50) (d := .inl (0, 6, [(6, .inl (0, 1023))])) hp mc6 rfl
  obtain ⟨fcf, rfl, zcf, ycf⟩ := kt_arr tcf (by decide)
  obtain ⟨ig, eg, kg, wg, tg⟩ := hp_ref (κ := 7) (d := .inr (4, [.inr (.inr (8, true)), .inl (0, 8), .inl (0, 8)])) hp mx4 rfl
  obtain ⟨vs, rfl, s⟩ := kt_obj tg
  obtain ⟨g0, vs, rfl, mg0, s⟩ := hts_r s
  obtain ⟨g1, vs, rfl, bg1, s⟩ := hts_i s
  obtain ⟨g2, vs, rfl, bg2, s⟩ := hts_i s
  have s := hts_0 s
  subst s
  refine ⟨(fun k => ([x0, p0, x1, q1, q2, q3] : List Nat).getD k 0), (fun k => ([x, x2, c1, c2, c3, c4, c5, c6, x4, g0, 0, 0, 0, 0, 0, 0, 0, 0, 0, 0, 0, 0, 0, x3, 0, x5, x6, x7, x8, x9, x10, x11] : List Nat).getD k 0), (fun k => ([p1, q4, q5, q6, q7, q8, q9, q10] : List Int).getD k 0), cutB 940 fpb, fqk, fqs, fqv, (fun k => ([0, 0, 0, 0, 0, 0, 0, 0, 0, 0, 0, 0, x12, 0, x14, x15, x16, x17, 0, 0, 0, 0, 0, 0, 0, 0, 0, c7, c8, c9, 0, g1, g2] : List Int).getD k 0), x13, zR c0, fca, fcb, fcc, fcd, fce, fcf, rfl, ⟨hasz_o (fs := [zR p0, zI p1]) kp_ wp_, hasz_c kpb wpb, hasz_o (fs := [zR x0, zR q1, zR q2, zR q3, zI q4, zI q5, zI q6, zI q7, zL q8, zI q9, zI q10]) kq wq, hasz_i kqk wqk, hasz_i kqs wqs, hasz_l kqv wqv, hasz_o (fs := [zR x0, zR x1, zR x2, zR x3, zR x4, zR x5, zR x6, zR x7, zR x8, zR x9, zR x10, zR x11, zI x12, x13, zI x14, zI x15, zI x16, zI x17]) kx wx, hasz_o (fs := [zR c0, zR c1, zR c2, zR c3, zR c4, zR c5, zR c6, zI c7, zI c8, zI c9]) kc wc, hasz_i kca wca, hasz_i kcb wcb, hasz_i kcc wcc, hasz_i kcd wcd, hasz_i kce wce, hasz_i kcf wcf, hasz_o (fs := [zR g0, zI g1, zI g2]) kg wg, trivial⟩, cut_byte (kt_byte ypb zpb), ⟨bp1.1, bp1.2.1⟩, ?_, fun j hj => ?_⟩
  · unfold cint
    rw [cu_at hp (by decide) kp_ wp_]
    exact z_o32 bp1.2.2
  · unfold cint
    rw [cu_at hp (by decide) kpb wpb]
    simp only [cval]
    rw [if_pos hj, cutB_lt hj]
    exact z_o32 (zpb j)
set_option maxRecDepth 8000 in
set_option maxHeartbeats 4000000 in
theorem ref_world {I : IN} {F : FS} {v : Value} (h : HS T2 FPX cy I ks wp F) (hx : hv I (bP 25 true none) v) : ∃ (m : Nat → Nat) (F0 B SS HH NR RV : Nat → Int), v = .ref (m 0) ∧ allz cy ks wp [25, 26, 27, 28, 30, 31] (rW m F0 B SS HH NR RV) ∧ (∀ k, -128 ≤ B k ∧ B k ≤ 127) ∧ (0 ≤ F0 2 ∧ F0 2 ≤ 940) ∧ cint (c_cu ks wp) 25 2 = F0 2 ∧ (∀ j, j < 940 → cint (c_cu ks wp) 26 j = B j) ∧ (∀ j, j < 29 → c_cu ks wp 31 j = some (.long (Int64.ofInt (RV j)))) ∧ (∀ q, zin64 (RV q)) ∧ (∀ q, zin64 (NR q)) := by
  have hp := h.1
  rcases hx.1 with ⟨h9, -⟩ | ⟨x, mx, rfl⟩
  · cases h9
  obtain ⟨ix, ex, kx, wx, tx⟩ := hp_ref (κ := 25) (d := .inr (11, [.inl (0, 1), .inr (.inr (26, true)), .inl (0, 940), .inl (0, 940), .inl (0, 940), .inl (0, 940), .inr (.inr (27, true)), .inr (.inr (28, true)), .inr (.inr (29, true)), .inr (.inr (30, true)), .inr (.inr (31, true)), .inl (0, 4), .inl (0, 940), .inl (0, 940), .inl ((-2147483648), 2147483647), .inl (0, 4), .inl (0, 940), .inr (.inl (0, 72057594037927935)), .inl ((-2147483648), 2147483647), .inl ((-2147483648), 2147483647), .inl (0, 15), .inr (.inr (32, true)), .inr (.inr (33, true)), .inl (0, 8), .inl ((-2147483648), 2147483647), .inl ((-2147483648), 2147483647), .inl ((-2147483648), 2147483647), .inl (0, 1), .inl (0, 1), .inl (0, 1), .inl ((-2147483648), 2147483647), .inl ((-2147483648), 2147483647), .inl (0, 1), .inr (.inr (34, true)), .inr (.inr (35, true)), .inr (.inr (36, true)), .inl (0, 1), .inr (.inr (37, true)), .inl (0, 96), .inl ((-2147483648), 2147483647), .inl (0, 40), .inr (.inr (38, true)), .inl (0, 1), .inr (.inr (39, true)), .inl (0, 40), .inl (0, 20), .inl (0, 40), .inl ((-2147483648), 2147483647), .inl (0, 1), .inr (.inr (40, true)), .inr (.inr (41, true)), .inr (.inr (42, true)), .inr (.inr (43, true))])) hp mx rfl
  obtain ⟨vs, rfl, s⟩ := kt_obj tx
  obtain ⟨x0, vs, rfl, bx0, s⟩ := hts_i s
  obtain ⟨x1, vs, rfl, mx1, s⟩ := hts_r s
  obtain ⟨x2, vs, rfl, bx2, s⟩ := hts_i s
  obtain ⟨x3, vs, rfl, bx3, s⟩ := hts_i s
  obtain ⟨x4, vs, rfl, bx4, s⟩ := hts_i s
  obtain ⟨x5, vs, rfl, bx5, s⟩ := hts_i s
  obtain ⟨x6, vs, rfl, mx6, s⟩ := hts_r s
  obtain ⟨x7, vs, rfl, mx7, s⟩ := hts_r s
  obtain ⟨x8, vs, rfl, mx8, s⟩ := hts_r s
  obtain ⟨x9, vs, rfl, mx9, s⟩ := hts_r s
  obtain ⟨x10, vs, rfl, mx10, s⟩ := hts_r s
  obtain ⟨x11, vs, rfl, bx11, s⟩ := hts_i s
  obtain ⟨x12, vs, rfl, bx12, s⟩ := hts_i s
  obtain ⟨x13, vs, rfl, bx13, s⟩ := hts_i s
  obtain ⟨x14, vs, rfl, bx14, s⟩ := hts_i s
  obtain ⟨x15, vs, rfl, bx15, s⟩ := hts_i s
  obtain ⟨x16, vs, rfl, bx16, s⟩ := hts_i s
  obtain ⟨x17, vs, rfl, s9⟩ := hts_l s
  have s := s9
  obtain ⟨x18, vs, rfl, bx18, s⟩ := hts_i s
  obtain ⟨x19, vs, rfl, bx19, s⟩ := hts_i s
  obtain ⟨x20, vs, rfl, bx20, s⟩ := hts_i s
  obtain ⟨x21, vs, rfl, mx21, s⟩ := hts_r s
  obtain ⟨x22, vs, rfl, mx22, s⟩ := hts_r s
  obtain ⟨x23, vs, rfl, bx23, s⟩ := hts_i s
  obtain ⟨x24, vs, rfl, bx24, s⟩ := hts_i s
  obtain ⟨x25, vs, rfl, bx25, s⟩ := hts_i s
  obtain ⟨x26, vs, rfl, bx26, s⟩ := hts_i s
  obtain ⟨x27, vs, rfl, bx27, s⟩ := hts_i s
  obtain ⟨x28, vs, rfl, bx28, s⟩ := hts_i s
  obtain ⟨x29, vs, rfl, bx29, s⟩ := hts_i s
  obtain ⟨x30, vs, rfl, bx30, s⟩ := hts_i s
  obtain ⟨x31, vs, rfl, bx31, s⟩ := hts_i s
  obtain ⟨x32, vs, rfl, bx32, s⟩ := hts_i s
  obtain ⟨x33, vs, rfl, mx33, s⟩ := hts_r s
  obtain ⟨x34, vs, rfl, mx34, s⟩ := hts_r s
  obtain ⟨x35, vs, rfl, mx35, s⟩ := hts_r s
  obtain ⟨x36, vs, rfl, bx36, s⟩ := hts_i s
  obtain ⟨x37, vs, rfl, mx37, s⟩ := hts_r s
  obtain ⟨x38, vs, rfl, bx38, s⟩ := hts_i s
  obtain ⟨x39, vs, rfl, bx39, s⟩ := hts_i s
  obtain ⟨x40, vs, rfl, bx40, s⟩ := hts_i s
  obtain ⟨x41, vs, rfl, mx41, s⟩ := hts_r s
  obtain ⟨x42, vs, rfl, bx42, s⟩ := hts_i s
  obtain ⟨x43, vs, rfl, mx43, s⟩ := hts_r s
  obtain ⟨x44, vs, rfl, bx44, s⟩ := hts_i s
  obtain ⟨x45, vs, rfl, bx45, s⟩ := hts_i s
  obtain ⟨x46, vs, rfl, bx46, s⟩ := hts_i s
  obtain ⟨x47, vs, rfl, bx47, s⟩ := hts_i s
  obtain ⟨x48, vs, rfl, bx48, s⟩ := hts_i s
  obtain ⟨x49, vs, rfl, mx49, s⟩ := hts_r s
  obtain ⟨x50, vs, rfl, mx50, s⟩ := hts_r s
  obtain ⟨x51, vs, rfl, mx51, s⟩ := hts_r s
  obtain ⟨x52, vs, rfl, mx52, s⟩ := hts_r s
  have s := hts_0 s
  subst s
  obtain ⟨ib, eb, kb, wb, tb⟩ := hp_ref (κ := 26) (d := .inl (1, 940, [(940, .inl ((-128), 127))])) hp mx1 rfl
  obtain ⟨fb, rfl, zb, yb⟩ := kt_arr tb (by decide)
  obtain ⟨is_, es_, ks_, ws_, ts_⟩ := hp_ref (κ := 27) (d := .inl (0, 269, [(1, .inl (0, 4)), (1, .inl (0, 10)), (1, .inl (0, 8)), (1, .inl (0, 6)), (4, .inl (0, 20)), (8, .inl (0, 3)), (8, .inl (0, 1023)), (6, .inl (0, 3)), (6, .inl (0, 99)), (1, .inl (0, 63)), (6, .inl (0, 1023)), (3, .inl ((-2147483648), 2147483647)), (8, .inl (0, 3)), (8, .inl (0, 6)), (8, .inl ((-2147483648), 2147483647)), (6, .inl (0, 3)), (6, .inl ((-2147483648), 2147483647)), (6, .inl (0, 1023)), (1, .inl (0, 40)), (180, .inl ((-2147483648), 2147483647))])) hp mx6 rfl
  obtain ⟨fs_, rfl, zs_, ys_⟩ := kt_arr ts_ (by decide)
  obtain ⟨ih, eh, kh, wh, th⟩ := hp_ref (κ := 28) (d := .inl (0, 43, [(1, .inl (0, 4)), (1, .inl (0, 10)), (1, .inl (0, 8)), (1, .inl (0, 6)), (4, .inl (0, 20)), (8, .inl (0, 3)), (8, .inl (0, 1023)), (6, .inl (0, 3)), (6, .inl (0, 99)), (1, .inl (0, 63)), (6, .inl (0, 1023))])) hp mx7 rfl
  obtain ⟨fh, rfl, zh, yh⟩ := kt_arr th (by decide)
  obtain ⟨inr, enr, knr, wnr, tnr⟩ := hp_ref (κ := 30) (d := .inl (3, 56, [(56, .inr (.inl (0, 72057594037927935)))])) hp mx9 rfl
  obtain ⟨fnr, rfl, znr⟩ := kt_arl tnr
  obtain ⟨ir, er, kr, wr, tr⟩ := hp_ref (κ := 31) (d := .inl (3, 29, [(29, .inr (.inl ((-9223372036854775808), 9223372036854775807)))])) hp mx10 rfl
  obtain ⟨fr, rfl, zr⟩ := kt_arl tr
  refine ⟨(fun k => ([x, x1, 0, 0, 0, 0, x6, x7, x8, x9, x10, 0, 0, 0, 0, 0, 0, 0, 0, 0, 0, x21, x22, 0, 0, 0, 0, 0, 0, 0, 0, 0, 0, x33, x34, x35, 0, x37, 0, 0, 0, x41, 0, x43, 0, 0, 0, 0, 0, x49, x50, x51, x52] : List Nat).getD k 0), (fun k => ([x0, 0, x2, x3, x4, x5, 0, 0, 0, 0, 0, x11, x12, x13, x14, x15, x16, x17, x18, x19, x20, 0, 0, x23, x24, x25, x26, x27, x28, x29, x30, x31, x32, 0, 0, 0, x36, 0, x38, x39, x40, 0, x42, 0, x44, x45, x46, x47, x48, 0, 0, 0, 0] : List Int).getD k 0), cutB 940 fb, fs_, fh, fnr, fr, rfl, ⟨hasz_o (fs := [zI x0, zR x1, zI x2, zI x3, zI x4, zI x5, zR x6, zR x7, zR x8, zR x9, zR x10, zI x11, zI x12, zI x13, zI x14, zI x15, zI x16, zL x17, zI x18, zI x19, zI x20, zR x21, zR x22, zI x23, zI x24, zI x25, zI x26, zI x27, zI x28, zI x29, zI x30, zI x31, zI x32, zR x33, zR x34, zR x35, zI x36, zR x37, zI x38, zI x39, zI x40, zR x41, zI x42, zR x43, zI x44, zI x45, zI x46, zI x47, zI x48, zR x49, zR x50, zR x51, zR x52]) kx wx, hasz_c kb wb, hasz_i ks_ ws_, hasz_i kh wh, hasz_l knr wnr, hasz_l kr wr, trivial⟩, cut_byte (kt_byte yb zb), ⟨bx2.1, bx2.2.1⟩, ?_, fun j hj => ?_, fun j hj => ?_, zr, znr⟩
  · unfold cint
    rw [cu_at hp (by decide) kx wx]
    exact z_o32 bx2.2.2
  · unfold cint
    rw [cu_at hp (by decide) kb wb]
    simp only [cval]
    rw [if_pos hj, cutB_lt hj]
    exact z_o32 (zb j)
  · rw [cu_at hp (by decide) kr wr]
    simp only [cval]
    rw [if_pos hj]
    rfl
end GL2
