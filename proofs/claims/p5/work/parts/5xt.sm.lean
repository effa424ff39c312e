/-! steps outside in the reference's book (written by wip/p5/s2.py) -/
section SM1
variable {xs : Nat → Int32} {D : va_G} {cy : Nat → ClassId} {I0 : IN} {ks0 : List Nat} {wp0 : va_W} {wr : WR} {M : MT} {own : String}
variable {p : Program} {l : Launch} {e : Env} {R : Room} {s : State} {m : MethodId} {args : Array Value} {below : List Frame} {meth : Method} {c : Code} {A : Nat → Prop} {Q : State → Prop} {rm : RMt} {cb sb : Nat}

set_option maxRecDepth 4000 in
theorem mt_nextB {M' : MT} (h : PR2[161]? = some M') : M' = mt2_X12_next := Option.some.inj (h.symm.trans zj_X12_next)
set_option maxRecDepth 4000 in
theorem mt_lineB {M' : MT} (h : PR2[93]? = some M') : M' = mt2_X12_bookLine := Option.some.inj (h.symm.trans zj_X12_bookLine)
set_option maxRecDepth 4000 in
theorem mt_signB {M' : MT} (h : PR2[191]? = some M') : M' = mt2_X12_sign := Option.some.inj (h.symm.trans zj_X12_sign)
set_option maxHeartbeats 2000000 in
theorem s_nextB (E108 : ∀ (cu : CUt) (zs : List Int), FPX 108 cu zs ↔ ∃ n f, zs = [n, f] ∧ b108 (cB cu) (cS cu) (cN cu) f n) (E109 : ∀ (cu : CUt) (zs : List Int), FPX 109 cu zs ↔ ∃ f t, zs = [f, t] ∧ f109 cu f t) {SP : List SPt} {DM : List (Nat × List Nat)} {lim : Nat} {S : SB} {ins : Instr} {len : Nat} {M' : MT} {rest : List BV} {sp : SPt} {L : List (Option BV × FS)} (hSP : ∀ (i : Nat) (sp : SPt), i < lim → SP[i]? = some sp → SPOK T2 FPX (EWX xs) D cy l PR2 sp) (X : Cx OW2 (EWX xs) D cy I0.2.2 M own p R s m args meth c A rm cb sb) {an af : BV}
    (h : o_call SP DM lim wr rm M S ins len = some (161, M', [bP 25 true none], rest, sp, L)) (hd : decode (mC M) S.1 = .ok (ins, len)) (q2 : pR sp = (1, 0, 0, 20)) (q3 : o_off (pW sp) [26, 27, 30] = true) (q4 : o_has S.2.2.2.1.2.2.2 108 [an, af] = true)
    (q5 : f_cf S.2.2.2.1.2.2.1 25 none (bI 3) = some an) (q6 : f_isI an = true) (q7 : f_cf S.2.2.2.1.2.2.1 25 none (bI 4) = some (bI 0)) (q8 : f_cf S.2.2.2.1.2.2.1 25 none (bI 5) = some (bI 400)) (q9 : f_cf S.2.2.2.1.2.2.1 25 none (bI 15) = some (bI 0))
    (k : ∀ S' ∈ L.map (fun q => f_aftS S rest (pR sp).2.1 (pR sp).2.2.1 (o_add 109 [af, bI 0] q)), Sf T2 FPX D cy I0 ks0 wp0 wr M p l e R s m args below meth c A Q cb sb S') : Sf T2 FPX D cy I0 ks0 wp0 wr M p l e R s m args below meth c A Q cb sb S := by
  obtain ⟨h1, cs, σ, htry, hL⟩ := o_call_ok h
  have hrw := f_call_rw h1
  intro I H locs ls lv vs ks wp raw a1 a2 a3 a4 a5 a6 a7 a8 a9 a10
  have e9 := hraw_none hrw a5
  subst e9
  rw [List.append_nil] at a6 a7
  have y3 := int_at (z := 3) a4 (by decide) q5 q6
  have y4 : some (0 : Int) = some (cint (c_cu ks wp) 25 4) := int_at (z := 4) a4 (by decide) q7 rfl
  have y5 : some (400 : Int) = some (cint (c_cu ks wp) 25 5) := int_at (z := 5) a4 (by decide) q8 rfl
  have y15 : some (0 : Int) = some (cint (c_cu ks wp) 25 15) := int_at (z := 15) a4 (by decide) q9 rfl
  have y4 := Option.some.inj y4
  have y5 := Option.some.inj y5
  have y15 := Option.some.inj y15
  obtain ⟨zs, z1, z2⟩ := a4.2.2.2 _ (o_has_ok q4)
  obtain ⟨n, f, rfl, h108⟩ := (E108 _ _).mp z2
  obtain ⟨n', f', w1, w2, w3⟩ := evs2 z1
  simp only [List.cons.injEq, and_true] at w3
  obtain ⟨rfl, rfl⟩ := w3
  rw [w1] at y3
  have y3 := Option.some.inj y3
  have hnn : 0 ≤ n ∧ n ≤ 940 := by
    obtain ⟨_, _, _, _, _, _, _, _, _, _, hT, -⟩ := h108
    exact hT.1
  refine s_xcallV hSP X h1 hd htry hL a1 a3 a4 a6 a7 a8 a9 a10 (fun vas hv9 hP9 => ?_)
  have eM := mt_nextB hP9
  subst eM
  obtain ⟨v0, vr5, rfl, g0, g5⟩ := hvs_cons hv9
  have g5 := hvs_nil g5
  subst g5
  obtain ⟨mm, F1, B1, SS, HH, NR, RV, RD, ST, rfl, ha3, hB2, hn2, d1, d2, d3, d4, d5, d6, ⟨f3, f4, f5, f11, f12, f14, f15, f40, f17, fz17⟩, d27, d30⟩ := ref_world3 a4 g0
  obtain ⟨ha4, -⟩ := allz_spl (κ1 := [25, 26, 27, 28, 30, 31]) (κ2 := [29, 39]) (Y1 := rW mm F1 B1 SS HH NR RV) (Y2 := qW mm RD ST) rfl ha3
  have hmet := zr_next (xs := xs) (D := D) (cy := cy) (l := l) (ex := I0.2.2) (m := mm) (F := F1) (SS := SS) (HH := HH) (NR := NR) (RV := RV) hB2 (by omega) (by omega) (by omega)
  refine ⟨rfl, [zR (mm 0)], [25, 26, 27, 28, 30, 31], rW mm F1 B1 SS HH NR RV, _, rfl, ha4, by decide, by rw [q2]; exact hmet, ?_⟩
  intro vr q J H1 locs1 ks1 wp1 Y1 c1 c2 c4 c5 c6 c7 c8 c9 c10 c11 c12 c13 c14
  obtain ⟨-, F9, rfl, hrt, hfr⟩ := c4
  obtain ⟨x3, x4, x5, x11, x12, x14, x15, x40, x17⟩ := ref_after (m := mm) (F9 := F9) (B9 := B1) (SS9 := SS) (HH9 := HH) (NR9 := NR) (RV9 := RV) (Y2 := []) (r9 := restz [25, 26, 27, 28, 30, 31] ks wp) c7.1 c13 c9 ha4.1 (by rw [List.append_nil]; exact c5)
  have u : ∀ {κ j : Nat}, κ < 51 → κ ∈ [26, 27, 30] → c_cu ks1 wp1 κ j = c_cu ks wp κ j := fun hk hm => cint_un a4.1 c13 hk q3 hm
  have r3 : F9 3 = F1 3 := hfr 3 (by decide) (by decide) (by decide) (by decide) (by decide) (by decide)
  have r5 : F9 5 = F1 5 := hfr 5 (by decide) (by decide) (by decide) (by decide) (by decide) (by decide)
  have r15 : F9 15 = F1 15 := hfr 15 (by decide) (by decide) (by decide) (by decide) (by decide) (by decide)
  have k3 : cint (c_cu ks1 wp1) 25 3 = n := by rw [cint_of x3 ⟨by omega, by omega⟩]; omega
  have etb : tb B1 (F1 3) = tb (cB (c_cu ks wp)) n := by
    rw [← f3, ← y3]
    exact tb_same hnn.2 (fun j hj => by unfold cB; rw [if_pos hj]; exact (d2 j hj).symm)
  have hf : f109 (c_cu ks1 wp1) f 0 := by
    refine ⟨by rw [cint_of x15 ⟨by omega, by omega⟩]; omega, by rw [cint_of x5 ⟨by omega, by omega⟩]; omega, ?_⟩
    rw [k3, cB_eq (fun j _ => u (by decide) (by decide)), cS_eq (fun j _ => u (by decide) (by decide)), cN_eq (fun j _ => u (by decide) (by decide))]
    refine b109_next (F9 := F9) h108 ?_ (fun hz => cint_of x4 hz) (fun hz => cint_of x11 hz) (fun hz => cint_of x12 hz) (fun hz => cint_of x14 hz) (fun hz => clong_of x17 hz)
    rw [etb, show F1 3 = n by omega, show F1 5 = 400 by omega, show F1 4 = 0 by omega] at hrt
    exact hrt
  refine aft_Wv hrw (k _ (List.mem_map.mpr ⟨q, c2, rfl⟩)) a1 (a2.xt c6) c1 c8 (HS_add c7 ⟨[f, 0], by simp only [f_evs, ev_xt c6 w2]; rfl, (E109 _ _).mpr ⟨_, _, rfl, hf⟩⟩) c9 c10 c11 c12 c14

theorem cf_25 {J : IN} {AK1 : List (Nat × Nat)} {ks1 : List Nat} {wp1 : va_W} (hp1 : hpool T2 cy AK1 ks1 wp1) {x : Int32} {a : BV} (hc : c_cu ks1 wp1 25 15 = some (.int x)) (ha : f_isI a = true) (he : f_ev J.1 a = some x.toInt) : hcf T2 J ks1 wp1 (25, none, bI ((15 : Nat) : Int), a) := by
  obtain ⟨i, hi⟩ := hp1.2.2.2.2 25 (by decide)
  obtain ⟨q, e, d, x1, x2, x3, -⟩ := hp1.2.1 i 25 hi
  rw [cu_at hp1 (by decide) hi x1] at hc
  exact ⟨i, q, e, 15, .int x, hi, x1, (by show 25 < 51; omega), rfl, hc, (hv_ev_iff ha).mpr ⟨x, rfl, he⟩⟩
/-- the answer is known: it goes on, or the fault is told -/
def bk_out (S : SB) (rest : List BV) (dc ds : Nat) (af : BV) (id : Nat) (zs : List BV) (q : Option BV × FS) : Option (List SB) := match q.1 with
  | some r => if bv_eq r (bI 1) = true then some [f_aftS S rest dc ds (o_add id zs q)] else if bv_eq r (bI 0) = true then some [f_aftS S rest dc ds (o_cf 25 15 af q)] else none
  | none => none
set_option maxHeartbeats 4000000 in
theorem s_lineB (E109 : ∀ (cu : CUt) (zs : List Int), FPX 109 cu zs ↔ ∃ f t, zs = [f, t] ∧ f109 cu f t) (E110 : ∀ (cu : CUt) (zs : List Int), FPX 110 cu zs ↔ ∃ f t, zs = [f, t] ∧ f110 cu f t) {SP : List SPt} {DM : List (Nat × List Nat)} {lim : Nat} {S : SB} {ins : Instr} {len : Nat} {M' : MT} {rest : List BV} {sp : SPt} {L : List (Option BV × FS)} (hSP : ∀ (i : Nat) (sp : SPt), i < lim → SP[i]? = some sp → SPOK T2 FPX (EWX xs) D cy l PR2 sp) (X : Cx OW2 (EWX xs) D cy I0.2.2 M own p R s m args meth c A rm cb sb) {af at_ ak : BV} {y : List SB}
    (h : o_call SP DM lim wr rm M S ins len = some (93, M', [bP 25 true none], rest, sp, L)) (hd : decode (mC M) S.1 = .ok (ins, len)) (q2 : pR sp = (3, 0, 0, 68)) (q3 : o_off (pW sp) [26, 27, 30, 31] = true) (q4 : o_has S.2.2.2.1.2.2.2 109 [af, at_] = true) (q5 : o_has S.2.2.2.1.2.2.2 81 [] = true) (q10 : f_isI af = true) (q11 : h_in S.2.2.2.1.2.1 (some af) 0 4 = true)
    (q6 : f_cf S.2.2.2.1.2.2.1 25 none (bI 40) = some at_) (q7 : f_isI at_ = true) (q8 : f_cf S.2.2.2.1.2.2.1 25 none (bI 11) = some ak) (q12 : f_isI ak = true) (q9 : h_in S.2.2.2.1.2.1 (some ak) 1 4 = true)
    (hy : o_cat (bk_out S rest (pR sp).2.1 (pR sp).2.2.1 af 110 [af, at_]) L = some y)
    (k : ∀ S' ∈ y, Sf T2 FPX D cy I0 ks0 wp0 wr M p l e R s m args below meth c A Q cb sb S') : Sf T2 FPX D cy I0 ks0 wp0 wr M p l e R s m args below meth c A Q cb sb S := by
  obtain ⟨h1, cs, σ, htry, hL⟩ := o_call_ok h
  have hrw := f_call_rw h1
  intro I H locs ls lv vs ks wp raw a1 a2 a3 a4 a5 a6 a7 a8 a9 a10
  have e9 := hraw_none hrw a5
  subst e9
  rw [List.append_nil] at a6 a7
  have y11 := int_at (z := 11) a4 (by decide) q8 q12
  have y40 := int_at (z := 40) a4 (by decide) q6 q7
  have h11 := in_iv a4.2.1 q9 y11
  obtain ⟨zs, z1, z2⟩ := a4.2.2.2 _ (o_has_ok q4)
  obtain ⟨f, t, rfl, hfct⟩ := (E109 _ _).mp z2
  obtain ⟨f', t', w1, w2, w3⟩ := evs2 z1
  simp only [List.cons.injEq, and_true] at w3
  obtain ⟨rfl, rfl⟩ := w3
  have hfr4 := in_iv a4.2.1 q11 w1
  have w81 : ∀ j : Nat, j < 29 → c_cu ks wp 31 j = some (.long (Int64.ofInt (RVk j))) := (fact_at a4 q5).2
  obtain ⟨g15, g5x, kk, P, K, S9, V, CN, NM, x9, R, t0, i9, j, hT, hC, hA, hj, ht, hi, hrun, hR, hf⟩ := hfct
  rw [w2] at y40
  have y40 := Option.some.inj y40
  refine s_xcallB hSP X h1 hd htry hL a1 a3 a4 a6 a7 a8 a9 a10 (fun vas hv9 hP9 => ?_)
  have eM := mt_lineB hP9
  subst eM
  obtain ⟨v0, vr5, rfl, g0, g5⟩ := hvs_cons hv9
  have g5 := hvs_nil g5
  subst g5
  obtain ⟨mm, F1, B1, SS, HH, NR, RV, RD, ST, rfl, ha3, hB2, hn2, d1, d2, d3, d4, d5, d6, ⟨f3, f4, f5, f11, f12, f14, f15, f40, f17, fz17⟩, d27, d30⟩ := ref_world3 a4 g0
  have hA1 : rAt P K S9 V F1 j := rAt_eq hA (cR_at.1.trans f4).symm (cR_at.2.1.trans f11).symm (cR_at.2.2.1.trans f12).symm (cR_at.2.2.2.1.trans f14).symm (cR_at.2.2.2.2.trans (clong_of f17 fz17)).symm
  have etb : tb B1 (F1 3) = tb (cB (c_cu ks wp)) (cint (c_cu ks wp) 25 3) := by
    rw [← f3]
    exact tb_same hT.1.2 (fun j hj => by unfold cB; rw [if_pos hj]; exact (d2 j hj).symm)
  have hTn := hT.1
  have hH : RH B1 P K S9 V RV kk F1 := ⟨hB2, by omega, by omega, by rw [etb, ← f3, show F1 5 = 400 by omega]; exact hT.2, rv_same d3 w81 d4⟩
  have hRK : RK SS NR CN NM := by
    obtain ⟨⟨k1, k2, k3⟩, hI⟩ := hC
    refine ⟨fun s hs => ?_, fun s i hs hi => ?_, d5⟩
    · have h9 := k1 s hs
      unfold cS at h9
      rw [if_pos hs, d27 s (by omega)] at h9
      exact h9
    · have hlt := bs_lt hI hs hi
      have h9 := k2 s i hs hi
      unfold cN at h9
      rw [if_pos (by omega), clong_of (d30 _ (by omega)) (d5 _)] at h9
      exact h9
  have hK : ¬ K j = 0 := fun h0 => by
    have h9 := hA1.2.1.stop
    omega
  obtain ⟨R', hR', hn99, hcase⟩ := bRun_line hK hR hrun
  have hmet := zr_bookLine (xs := xs) (D := D) (cy := cy) (l := l) (ex := I0.2.2) (m := mm) (F := F1) (RD := RD) (ST := ST) (HH := HH) (t := t0) (n := i9) (R := R') hH hA1 hj hRK hC.2 d4 (by omega) hi hR' hn99
  refine ⟨rfl, [zR (mm 0)], _, _, _, rfl, ha3, by decide, by rw [q2]; exact hmet, ?_⟩
  intro vr q r J H1 locs1 ks1 wp1 z Y1 c1 c2 c3 c4 c5 c6 c7 c8 c9 c10 c11 c12 c13 c14
  obtain ⟨F9, RD9, rfl, hkr⟩ := c4
  obtain ⟨x3, x4, x5, x11, x12, x14, x15, x40, x17⟩ := ref_after (m := mm) (F9 := F9) (B9 := B1) (SS9 := SS) (HH9 := HH) (NR9 := NR) (RV9 := RV) (Y2 := qW mm RD9 ST) (r9 := restz [25, 26, 27, 28, 30, 31, 29, 39] ks wp) c7.1 c13 c9 ha3.1 c5
  have u : ∀ {κ j : Nat}, κ < 51 → κ ∈ [26, 27, 30, 31] → c_cu ks1 wp1 κ j = c_cu ks wp κ j := fun hk hm => cint_un a4.1 c13 hk q3 hm
  have eb := cB_eq (cu := c_cu ks wp) (cu' := c_cu ks1 wp1) (fun j _ => u (by decide) (by decide))
  have es := cS_eq (cu := c_cu ks wp) (cu' := c_cu ks1 wp1) (fun j _ => u (by decide) (by decide))
  have en := cN_eq (cu := c_cu ks wp) (cu' := c_cu ks1 wp1) (fun j _ => u (by decide) (by decide))
  obtain ⟨yq, hyq, hyin⟩ := o_cat_ok hy q c2
  unfold bk_out at hyq
  split at hyq
  · rename_i rv hrv
    split at hyq
    · rename_i hq1
      have hq1 := bv_eq_ok hq1
      subst hq1
      cases hyq
      have hcr : hv J (bI 1) (.int r) := by
        rw [hrv] at c8
        exact c8
      have er1 : (1 : Int) = r.toInt := Option.some.inj (hv_ev hcr)
      rcases hkr with ⟨r0, -, hA9, hjk, hfr⟩ | ⟨hz, -⟩
      · obtain ⟨p3, p5, p15, p40⟩ := hfr
        have hrest := (hcase.resolve_right (fun h => h.1 r0)).2
        have hi40 : i9 < 40 := by
          rcases (show i9 < 40 ∨ 40 ≤ i9 by omega) with q | q
          · exact q
          · exact absurd (by rw [hR']; exact r0) (bLine_40 (K := K) (V := V) (CN := CN) (NM := NM) (t := t0) (i := j) q)
        have hfn : f110 (c_cu ks1 wp1) f t := by
          refine ⟨by rw [cint_of x15 ⟨by omega, by omega⟩]; omega, by rw [cint_of x5 ⟨by omega, by omega⟩]; omega, ?_⟩
          rw [eb, es, en, show cint (c_cu ks1 wp1) 25 3 = cint (c_cu ks wp) 25 3 by rw [cint_of x3 ⟨by omega, by omega⟩]; omega]
          exact ⟨kk, P, K, S9, V, CN, NM, x9, R, t0, i9, R'.2, hT, hC, rAt_wr hT hjk hA9 (fun hz => cint_of x4 hz) (fun hz => cint_of x11 hz) (fun hz => cint_of x12 hz) (fun hz => cint_of x14 hz) (fun hz => clong_of x17 hz), hjk, ht, hi40, hrest, hR, hf⟩
        refine aft_W hrw (k _ (hyin _ List.mem_cons_self)) a1 (a2.xt c6) c1 c8 (HS_add c7 ⟨[f, t], by simp only [f_evs, ev_xt c6 w1, ev_xt c6 w2], (E110 _ _).mpr ⟨_, _, rfl, hfn⟩⟩) c9 c10 c11 c12 c14
      · subst hz
        have h9 : Value.int r = .int (Int32.ofInt 0) := Option.some.inj c3
        have h8 := Value.int.inj h9
        rw [h8, z_o32 ⟨by decide, by decide⟩] at er1
        exact absurd er1 (by decide)
    · split at hyq
      · rename_i hq0
        have hq0 := bv_eq_ok hq0
        subst hq0
        cases hyq
        have hcr : hv J (bI 0) (.int r) := by
          rw [hrv] at c8
          exact c8
        have er0 : (0 : Int) = r.toInt := Option.some.inj (hv_ev hcr)
        rcases hkr with ⟨r0, hz, -⟩ | ⟨hz, hno⟩
        · subst hz
          have h9 : Value.int r = .int (Int32.ofInt 1) := Option.some.inj c3
          have h8 := Value.int.inj h9
          rw [h8, z_o32 ⟨by decide, by decide⟩] at er0
          exact absurd er0 (by decide)
        · have e15x : F9 15 = R.1 := by
            rcases hno with ⟨r0, e9⟩ | ⟨r0, r59, e9⟩
            · rw [(hcase.resolve_left (fun h => r0 h.1)).2]
              exact e9
            · have hrest := (hcase.resolve_right (fun h => h.1 r0)).2 0
              rw [if_neg r59] at hrest
              rw [← hrest]
              exact e9
          have e15 : F9 15 = f := by rw [e15x, hf]
          refine aft_W hrw (k _ (hyin _ List.mem_cons_self)) a1 (a2.xt c6) c1 c8 (HS_cf c7 (cf_25 c7.1 x15 q10 (by rw [ev_xt c6 w1, z_o32 ⟨by omega, by omega⟩, e15]))) c9 c10 c11 c12 c14
      · cases hyq
  · cases hyq


set_option maxHeartbeats 4000000 in
theorem s_signB (E109 : ∀ (cu : CUt) (zs : List Int), FPX 109 cu zs ↔ ∃ f t, zs = [f, t] ∧ f109 cu f t) (E110 : ∀ (cu : CUt) (zs : List Int), FPX 110 cu zs ↔ ∃ f t, zs = [f, t] ∧ f110 cu f t) {SP : List SPt} {DM : List (Nat × List Nat)} {lim : Nat} {S : SB} {ins : Instr} {len : Nat} {M' : MT} {rest : List BV} {sp : SPt} {L : List (Option BV × FS)} (hSP : ∀ (i : Nat) (sp : SPt), i < lim → SP[i]? = some sp → SPOK T2 FPX (EWX xs) D cy l PR2 sp) (X : Cx OW2 (EWX xs) D cy I0.2.2 M own p R s m args meth c A rm cb sb) {af at_ : BV} {y : List SB}
    (h : o_call SP DM lim wr rm M S ins len = some (191, M', [bP 25 true none, bI 59], rest, sp, L)) (hd : decode (mC M) S.1 = .ok (ins, len)) (q2 : pR sp = (2, 0, 0, 43)) (q3 : o_off (pW sp) [26, 27, 30, 31] = true) (q4 : o_has S.2.2.2.1.2.2.2 110 [af, at_] = true) (q5 : o_has S.2.2.2.1.2.2.2 81 [] = true) (q10 : f_isI af = true) (q11 : h_in S.2.2.2.1.2.1 (some af) 0 4 = true)
    (at1 : BV) (hat1 : ∀ (ν : List Int) (z : Int), f_ev ν at_ = some z → f_ev ν at1 = some (z + 1))
    (hy : o_cat (bk_out S rest (pR sp).2.1 (pR sp).2.2.1 af 109 [af, at1]) L = some y)
    (k : ∀ S' ∈ y, Sf T2 FPX D cy I0 ks0 wp0 wr M p l e R s m args below meth c A Q cb sb S') : Sf T2 FPX D cy I0 ks0 wp0 wr M p l e R s m args below meth c A Q cb sb S := by
  obtain ⟨h1, cs, σ, htry, hL⟩ := o_call_ok h
  have hrw := f_call_rw h1
  intro I H locs ls lv vs ks wp raw a1 a2 a3 a4 a5 a6 a7 a8 a9 a10
  have e9 := hraw_none hrw a5
  subst e9
  rw [List.append_nil] at a6 a7
  obtain ⟨zs, z1, z2⟩ := a4.2.2.2 _ (o_has_ok q4)
  obtain ⟨f, t, rfl, hfct⟩ := (E110 _ _).mp z2
  obtain ⟨f', t', w1, w2, w3⟩ := evs2 z1
  simp only [List.cons.injEq, and_true] at w3
  obtain ⟨rfl, rfl⟩ := w3
  have hfr4 := in_iv a4.2.1 q11 w1
  have w81 : ∀ j : Nat, j < 29 → c_cu ks wp 31 j = some (.long (Int64.ofInt (RVk j))) := (fact_at a4 q5).2
  obtain ⟨g15, g5x, kk, P, K, S9, V, CN, NM, x9, R, t0, i9, j, hT, hC, hA, hj, ht, hi, hrun, hR, hf⟩ := hfct
  refine s_xcallB hSP X h1 hd htry hL a1 a3 a4 a6 a7 a8 a9 a10 (fun vas hv9 hP9 => ?_)
  have eM := mt_signB hP9
  subst eM
  obtain ⟨v0, vr5, rfl, g0, g5⟩ := hvs_cons hv9
  obtain ⟨v1, vr6, rfl, g6, g7⟩ := hvs_cons g5
  have g7 := hvs_nil g7
  subst g7
  obtain ⟨y59, rfl⟩ := hv_isI g6 rfl
  have e59 : (59 : Int) = y59.toInt := Option.some.inj (hv_ev g6)
  obtain ⟨mm, F1, B1, SS, HH, NR, RV, RD, ST, rfl, ha3, hB2, hn2, d1, d2, d3, d4, d5, d6, ⟨f3, f4, f5, f11, f12, f14, f15, f40, f17, fz17⟩, d27, d30⟩ := ref_world3 a4 g0
  obtain ⟨ha4, -⟩ := allz_spl (κ1 := [25, 26, 27, 28, 30, 31]) (κ2 := [29, 39]) (Y1 := rW mm F1 B1 SS HH NR RV) (Y2 := qW mm RD ST) rfl ha3
  have hA1 : rAt P K S9 V F1 j := rAt_eq hA (cR_at.1.trans f4).symm (cR_at.2.1.trans f11).symm (cR_at.2.2.1.trans f12).symm (cR_at.2.2.2.1.trans f14).symm (cR_at.2.2.2.2.trans (clong_of f17 fz17)).symm
  have etb : tb B1 (F1 3) = tb (cB (c_cu ks wp)) (cint (c_cu ks wp) 25 3) := by
    rw [← f3]
    exact tb_same hT.1.2 (fun j hj => by unfold cB; rw [if_pos hj]; exact (d2 j hj).symm)
  have hTn := hT.1
  have hH : RH B1 P K S9 V RV kk F1 := ⟨hB2, by omega, by omega, by rw [etb, ← f3, show F1 5 = 400 by omega]; exact hT.2, rv_same d3 w81 d4⟩
  have hRK : RK SS NR CN NM := by
    obtain ⟨⟨k1, k2, k3⟩, hI⟩ := hC
    refine ⟨fun s hs => ?_, fun s i hs hi => ?_, d5⟩
    · have h9 := k1 s hs
      unfold cS at h9
      rw [if_pos hs, d27 s (by omega)] at h9
      exact h9
    · have hlt := bs_lt hI hs hi
      have h9 := k2 s i hs hi
      unfold cN at h9
      rw [if_pos (by omega), clong_of (d30 _ (by omega)) (d5 _)] at h9
      exact h9
  have hmet := zr_sign9 (xs := xs) (D := D) (cy := cy) (l := l) (ex := I0.2.2) (m := mm) (F := F1) (SS := SS) (HH := HH) (NR := NR) (z1 := 59) (by decide) hH hA1 hj
  refine ⟨rfl, [zR (mm 0), zI 59], [25, 26, 27, 28, 30, 31], rW mm F1 B1 SS HH NR RV, _, ?_, ha4, by decide, by rw [q2]; exact hmet, ?_⟩
  · show _ = [Value.ref (mm 0), .int (Int32.ofInt 59)]
    rw [e59, z_oT]
  intro vr q r J H1 locs1 ks1 wp1 z Y1 c1 c2 c3 hkr c5 c6 c7 c8 c9 c10 c11 c12 c13 c14
  have u : ∀ {κ j : Nat}, κ < 51 → κ ∈ [26, 27, 30, 31] → c_cu ks1 wp1 κ j = c_cu ks wp κ j := fun hk hm => cint_un a4.1 c13 hk q3 hm
  have eb := cB_eq (cu := c_cu ks wp) (cu' := c_cu ks1 wp1) (fun j _ => u (by decide) (by decide))
  have es := cS_eq (cu := c_cu ks wp) (cu' := c_cu ks1 wp1) (fun j _ => u (by decide) (by decide))
  have en := cN_eq (cu := c_cu ks wp) (cu' := c_cu ks1 wp1) (fun j _ => u (by decide) (by decide))
  obtain ⟨yq, hyq, hyin⟩ := o_cat_ok hy q c2
  unfold bk_out at hyq
  split at hyq
  · rename_i rv hrv
    split at hyq
    · rename_i hq1
      have hq1 := bv_eq_ok hq1
      subst hq1
      cases hyq
      have hcr : hv J (bI 1) (.int r) := by
        rw [hrv] at c8
        exact c8
      have er1 : (1 : Int) = r.toInt := Option.some.inj (hv_ev hcr)
      rcases hkr with ⟨k59, -, F9, rfl, hA9, hjk, hfr⟩ | ⟨-, hz, -⟩
      · obtain ⟨p3, p5, p15, p40⟩ := hfr
        obtain ⟨x3, x4, x5, x11, x12, x14, x15, x40, x17⟩ := ref_after (m := mm) (F9 := F9) (B9 := B1) (SS9 := SS) (HH9 := HH) (NR9 := NR) (RV9 := RV) (Y2 := []) (r9 := restz [25, 26, 27, 28, 30, 31] ks wp) c7.1 c13 c9 ha4.1 (by rw [List.append_nil]; exact c5)
        have hrest : ∀ T, bRun K V CN NM (T + t0) (i9 + 1) (j + 1) = R := fun T => by
          have h9 := hrun T
          rw [if_pos k59] at h9
          exact h9
        have hfn : f109 (c_cu ks1 wp1) f (t + 1) := by
          refine ⟨by rw [cint_of x15 ⟨by omega, by omega⟩]; omega, by rw [cint_of x5 ⟨by omega, by omega⟩]; omega, ?_⟩
          rw [eb, es, en, show cint (c_cu ks1 wp1) 25 3 = cint (c_cu ks wp) 25 3 by rw [cint_of x3 ⟨by omega, by omega⟩]; omega]
          exact ⟨kk, P, K, S9, V, CN, NM, x9, R, t0, i9 + 1, j + 1, hT, hC, rAt_wr hT hjk hA9 (fun hz => cint_of x4 hz) (fun hz => cint_of x11 hz) (fun hz => cint_of x12 hz) (fun hz => cint_of x14 hz) (fun hz => clong_of x17 hz), hjk, by omega, by omega, hrest, hR, hf⟩
        refine aft_W hrw (k _ (hyin _ List.mem_cons_self)) a1 (a2.xt c6) c1 c8 (HS_add c7 ⟨[f, t + 1], by simp only [f_evs, ev_xt c6 w1, hat1 _ _ (ev_xt c6 w2)], (E109 _ _).mpr ⟨_, _, rfl, hfn⟩⟩) c9 c10 c11 c12 c14
      · subst hz
        have h9 : Value.int r = .int (Int32.ofInt 0) := Option.some.inj c3
        have h8 := Value.int.inj h9
        rw [h8, z_o32 ⟨by decide, by decide⟩] at er1
        exact absurd er1 (by decide)
    · split at hyq
      · rename_i hq0
        have hq0 := bv_eq_ok hq0
        subst hq0
        cases hyq
        have hcr : hv J (bI 0) (.int r) := by
          rw [hrv] at c8
          exact c8
        have er0 : (0 : Int) = r.toInt := Option.some.inj (hv_ev hcr)
        rcases hkr with ⟨-, hz, -⟩ | ⟨k59, -, F9, rfl, e15x⟩
        · subst hz
          have h9 : Value.int r = .int (Int32.ofInt 1) := Option.some.inj c3
          have h8 := Value.int.inj h9
          rw [h8, z_o32 ⟨by decide, by decide⟩] at er0
          exact absurd er0 (by decide)
        · obtain ⟨x3, x4, x5, x11, x12, x14, x15, x40, x17⟩ := ref_after (m := mm) (F9 := F9) (B9 := B1) (SS9 := SS) (HH9 := HH) (NR9 := NR) (RV9 := RV) (Y2 := []) (r9 := restz [25, 26, 27, 28, 30, 31] ks wp) c7.1 c13 c9 ha4.1 (by rw [List.append_nil]; exact c5)
          have hrest := hrun 0
          rw [if_neg k59] at hrest
          have e15 : F9 15 = f := by rw [e15x, ← hf, ← hrest]
          refine aft_W hrw (k _ (hyin _ List.mem_cons_self)) a1 (a2.xt c6) c1 c8 (HS_cf c7 (cf_25 c7.1 x15 q10 (by rw [ev_xt c6 w1, z_o32 ⟨by omega, by omega⟩, e15]))) c9 c10 c11 c12 c14
      · cases hyq
  · cases hyq

end SM1
