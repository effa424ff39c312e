/-! steps outside in the class's book: the text is opened, the book read (written by wip/p5/s1.py) -/
section SO1
variable {xs : Nat → Int32} {D : va_G} {cy : Nat → ClassId} {I0 : IN} {ks0 : List Nat} {wp0 : va_W} {wr : WR} {M : MT} {own : String}
variable {p : Program} {l : Launch} {e : Env} {R : Room} {s : State} {m : MethodId} {args : Array Value} {below : List Frame} {meth : Method} {c : Code} {A : Nat → Prop} {Q : State → Prop} {rm : RMt} {cb sb : Nat}
theorem aft_Wv {S : SB} {rest : List BV} {dc ds : Nat} {q : Option BV × FS} {J : IN} {H1 : Heap} {locs1 : List Loc} {ls : Array Slot} {lv : List (Nat × Value)} {vr : List Value} {ks1 : List Nat} {wp1 : va_W}
    (hrw : S.2.2.2.2.1.isNone = true) (k : Sf T2 FPX D cy I0 ks0 wp0 wr M p l e R s m args below meth c A Q cb sb (f_aftS S rest dc ds q)) (a1 : lv_has ls (mL M) lv) (a2 : hlv J S.2.1 lv) (c1 : hvs J rest vr) (hr : rvl J q.1 none) (hF : HS T2 FPX cy J ks1 wp1 q.2) (hP : va_P D vwCl wp1 H1) (hD : va_D A wp1) (hS : va_S A s.heap H1 locs1) (hx : hxt I0 J) (hu : Unch wr ks0 wp0 ks1 wp1) :
    W p l e R s m args below meth c H1 locs1 (cb + (S.2.2.2.2.2.1 + dc)) (sb + (S.2.2.2.2.2.2 + ds)) Q (F0 m (S.1 + 3) ls vr) := by
  obtain ⟨pc, lo, st, F, rw0, nc, ns⟩ := S
  obtain ⟨r', F'⟩ := q
  have := k J H1 locs1 ls lv vr ks1 wp1 [] a1 a2 ?_ hF ?_ (by rw [List.append_nil]; exact hP) (by rw [List.append_nil]; exact hD) hS hx hu
  · exact this
  · simp only [f_aftS]
    simp only at hr
    cases r' with
    | none => exact c1
    | some a => exact absurd hr id
  · simp only at hrw
    simp only [f_aftS]
    cases rw0 with
    | none => rfl
    | some x => cases hrw
set_option maxRecDepth 4000 in
theorem mt_openB {M' : MT} (h : PR2[23]? = some M') : M' = mt2_X10_open := Option.some.inj (h.symm.trans zj_X10_open)
set_option maxRecDepth 4000 in
theorem mt_readB {M' : MT} (h : PR2[11]? = some M') : M' = mt2_X0_read := Option.some.inj (h.symm.trans zj_X0_read)
set_option maxHeartbeats 2000000 in
theorem s_openB (E107 : ∀ (cu : CUt) (zs : List Int), FPX 107 cu zs ↔ ∃ n, zs = [n] ∧ f107 cu n) {SP : List SPt} {DM : List (Nat × List Nat)} {lim : Nat} {S : SB} {ins : Instr} {len : Nat} {M' : MT} {rest : List BV} {sp : SPt} {L : List (Option BV × FS)} (hSP : ∀ (i : Nat) (sp : SPt), i < lim → SP[i]? = some sp → SPOK T2 FPX (EWX xs) D cy l PR2 sp) (X : Cx OW2 (EWX xs) D cy I0.2.2 M own p R s m args meth c A rm cb sb)
    (h : o_call SP DM lim wr rm M S ins len = some (23, M', [bP 3 true none, bI 400], rest, sp, L)) (hd : decode (mC M) S.1 = .ok (ins, len)) (q2 : pR sp = (10, 0, 0, 283)) (q3 : o_off (pW sp) [2, 26] = true) (q4 : o_has S.2.2.2.1.2.2.2 80 [] = true) {a : BV} (q5 : f_cf S.2.2.2.1.2.2.1 1 none (bI 1) = some a) (q6 : f_isI a = true)
    (k : ∀ S' ∈ L.map (fun q => f_aftS S rest (pR sp).2.1 (pR sp).2.2.1 (o_add 107 [a] q)), Sf T2 FPX D cy I0 ks0 wp0 wr M p l e R s m args below meth c A Q cb sb S') : Sf T2 FPX D cy I0 ks0 wp0 wr M p l e R s m args below meth c A Q cb sb S := by
  obtain ⟨h1, cs, σ, htry, hL⟩ := o_call_ok h
  have hrw := f_call_rw h1
  intro I H locs ls lv vs ks wp raw a1 a2 a3 a4 a5 a6 a7 a8 a9 a10
  have e9 := hraw_none hrw a5
  subst e9
  rw [List.append_nil] at a6 a7
  have hna := int_at (z := 1) a4 (by decide) q5 q6
  refine s_xcallV hSP X h1 hd htry hL a1 a3 a4 a6 a7 a8 a9 a10 (fun vas hv9 hP9 => ?_)
  have eM := mt_openB hP9
  subst eM
  obtain ⟨v0, vr5, rfl, g0, g5⟩ := hvs_cons hv9
  obtain ⟨v1, vr6, rfl, g6, g7⟩ := hvs_cons g5
  have g7 := hvs_nil g7
  subst g7
  obtain ⟨y, rfl⟩ := hv_isI g6 rfl
  have e400 : (400 : Int) = y.toInt := Option.some.inj (hv_ev g6)
  obtain ⟨aa, F0, B, K, S9, V, rfl, ha, hB, hn, e1, e2, -, -⟩ := txt_world a4 g0
  refine ⟨rfl, [zR (aa 2), zI 400], [1, 2, 3, 4, 5, 6], tW aa F0 B K S9 V, _, ?_, ha, by decide, by rw [q2]; exact zm_open (lim := 400) (by decide) hB hn, ?_⟩
  · show _ = [Value.ref (aa 2), .int (Int32.ofInt 400)]
    rw [e400, z_oT]
  · intro vr q J H1 locs1 ks1 wp1 Y1 c1 c2 c4 c5 c6 c7 c8 c9 c10 c11 c12 c13 c14
    obtain ⟨-, k9, P, K9, S8, V9, hO, rfl⟩ := c4
    obtain ⟨FZ, hFZ⟩ : ∃ FZ, zup (zup (zup (zup F0 1 ((k9 : Int) + 1)) 2 (-1)) 6 0) 7 0 = FZ := ⟨_, rfl⟩
    have e6 : FZ 6 = 0 := by rw [← hFZ]; rfl
    have e1z : FZ 1 = (k9 : Int) + 1 := by rw [← hFZ]; rfl
    have e2z : FZ 2 = -1 := by rw [← hFZ]; rfl
    rw [hFZ, FA_first e6 e2z (by omega)] at c5
    have f80 := fact_at a4 q4
    have w80 : ∀ j : Nat, j < 940 → cint (c_cu ks wp) 2 j = cint (c_cu ks wp) 26 j := f80.2
    have u26 : ∀ j, j < 940 → cint (c_cu ks1 wp1) 26 j = B j := by
      intro j hj
      rw [← e2 j hj, w80 j hj]
      exact cint_eq (cint_un a4.1 c13 (by decide) q3 (by decide))
    have hcell := txt_after (Y2 := []) (r9 := restz [1, 2, 3, 4, 5, 6] ks wp) (F9 := FA K9 S8 V9 FZ 0) (B9 := B) (K9 := K9) (S9 := S8) (V9 := V9) c7.1 c13 c9 ha (by rw [List.append_nil]; exact c5)
    have hf := open_f107 (F9 := FA K9 S8 V9 FZ 0) hn hO u26 e1z rfl rfl rfl rfl e6 hcell
    refine aft_Wv hrw (k _ (List.mem_map.mpr ⟨q, c2, rfl⟩)) a1 (a2.xt c6) c1 c8 (HS_add c7 ⟨[F0 0], f_evs_xt c6 (by simp only [f_evs, hna, e1]), (E107 _ _).mpr ⟨_, rfl, hf⟩⟩) c9 c10 c11 c12 c14
set_option maxHeartbeats 2000000 in
theorem s_readB (E107 : ∀ (cu : CUt) (zs : List Int), FPX 107 cu zs ↔ ∃ n, zs = [n] ∧ f107 cu n) (E108 : ∀ (cu : CUt) (zs : List Int), FPX 108 cu zs ↔ ∃ n f, zs = [n, f] ∧ b108 (cB cu) (cS cu) (cN cu) f n) {SP : List SPt} {DM : List (Nat × List Nat)} {lim : Nat} {S : SB} {ins : Instr} {len : Nat} {M' : MT} {rest : List BV} {sp : SPt} {L : List (Option BV × FS)} (hSP : ∀ (i : Nat) (sp : SPt), i < lim → SP[i]? = some sp → SPOK T2 FPX (EWX xs) D cy l PR2 sp) (X : Cx OW2 (EWX xs) D cy I0.2.2 M own p R s m args meth c A rm cb sb) {kc : Nat} {an : BV} {y : List SB}
    (h : o_call SP DM lim wr rm M S ins len = some (11, M', [bP 9 true none, bP 3 true none, bP 51 true (some kc)], rest, sp, L)) (hd : decode (mC M) S.1 = .ok (ins, len)) (q2 : pR sp = (5, 0, 0, 118)) (q3 : o_off (pW sp) [26, 27, 30] = true) (q4 : o_has S.2.2.2.1.2.2.2 101 [bV kc 0] = true) (q5 : o_has S.2.2.2.1.2.2.2 107 [an] = true)
    (hy : o_cat (fun q => match f_cf q.2.2.2.1 3 none (bI 9) with | some b => if f_isI b = true then some [f_aftS S rest (pR sp).2.1 (pR sp).2.2.1 (o_add 108 [an, b] q)] else none | none => none) L = some y)
    (k : ∀ S' ∈ y, Sf T2 FPX D cy I0 ks0 wp0 wr M p l e R s m args below meth c A Q cb sb S') : Sf T2 FPX D cy I0 ks0 wp0 wr M p l e R s m args below meth c A Q cb sb S := by
  obtain ⟨h1, cs, σ, htry, hL⟩ := o_call_ok h
  have hrw := f_call_rw h1
  intro I H locs ls lv vs ks wp raw a1 a2 a3 a4 a5 a6 a7 a8 a9 a10
  have e9 := hraw_none hrw a5
  subst e9
  rw [List.append_nil] at a6 a7
  refine s_xcallV hSP X h1 hd htry hL a1 a3 a4 a6 a7 a8 a9 a10 (fun vas hv9 hP9 => ?_)
  have eM := mt_readB hP9
  subst eM
  obtain ⟨v0, vr5, rfl, g0, g5⟩ := hvs_cons hv9
  obtain ⟨v1, vr6, rfl, g1, g6⟩ := hvs_cons g5
  obtain ⟨v2, vr7, rfl, g2, g7⟩ := hvs_cons g6
  have g7 := hvs_nil g7
  subst g7
  obtain ⟨bb, LF, W1, W2, W3, W4, rfl, hab⟩ := book_world a4 g0
  obtain ⟨aa, F0, B, K, S9, V, rfl, ha, hB, hn, e1, e2, e3, e4⟩ := txt_world a4 g1
  obtain ⟨qc, rfl, n1, n2⟩ := hv_rn g2
  obtain ⟨zs1, z1, z2⟩ := a4.2.2.2 _ (o_has_ok q4)
  simp only [f_evs, ev_nm n1, Option.some.injEq] at z1
  subst z1
  obtain ⟨qc9, z3, wG⟩ : ∃ qc9 : Nat, [(qc : Int)] = [(qc9 : Int)] ∧ cGood (c_cu ks wp) qc9 (fun s => cint (c_cu ks wp) 27 s) (fun k => c_cu ks wp 30 k) := z2
  have eqc : qc9 = qc := by
    have h9 := List.cons.inj z3
    omega
  subst eqc
  obtain ⟨c9, G, NM, MK, TP, PP, CO, KN, x9, hc0, hcz, hI, hnm⟩ := cls_city (fun i j p q h1 h2 e => a7.1 i j p q h1 h2 e) a4.1 n2 wG
  obtain ⟨zs2, z4, z5⟩ := a4.2.2.2 _ (o_has_ok q5)
  obtain ⟨n, rfl, hf107⟩ := (E107 _ _).mp z5
  obtain ⟨kk, P, hbT, hTT, hFA, h01⟩ := use_f107 hf107 e3 e4
  have h9m := zm_readB (xs := xs) (D := D) (cy := cy) (l := l) (ex := I0.2.2) (a := aa) (c := c9) (v := bb) (B := B) (G := G) (MK := MK) (TP := TP) (PP := PP) (CO := CO) (KN := KN) (LF := LF) (W1 := W1) (W2 := W2) (W3 := W3) (W4 := W4) hTT h01 hI
  rw [hFA] at h9m
  refine ⟨rfl, [zR (bb 0), zR (aa 2), zR (c9 0)], [1, 2, 3, 4, 5, 6] ++ [51, 52, 53, 54, 55, 56, 57, 58] ++ [9, 10, 11, 12, 13], tW aa F0 B K S9 V ++ cW c9 G (fun s => cint (c_cu ks wp) 27 s) NM MK TP PP CO KN ++ kW bb LF W1 W2 W3 W4, _, ?_, allz_app (allz_app ha hcz) hab, by decide, by rw [q2]; exact h9m, ?_⟩
  rotate_left 1
  · intro vr q J H1 locs1 ks1 wp1 Y1 c1 c2 c4 c5 c6 c7 c8 c9' c10 c11 c12 c13 c14
    obtain ⟨-, R9, t9, F9, LF9, U1, U2, U3, U4, hrun, hR99, hend, rfl⟩ := c4
    have hcell := txt_after (Y2 := cW c9 G (fun s => cint (c_cu ks wp) 27 s) NM MK TP PP CO KN ++ kW bb LF9 U1 U2 U3 U4) c7.1 c13 c9' ha (by rw [← List.append_assoc]; exact c5)
    have e39 : cint (c_cu ks1 wp1) 3 9 = R9.1 := by
      rcases hend with ⟨r0, f6⟩ | ⟨r0, hfd⟩
      · rw [r0, ← f6]
        exact cint_of hcell.1.2.2.2.2.2 ⟨by omega, by omega⟩
      · obtain ⟨f6, -, -, -, f7, f8⟩ := hfd
        rw [← f6]
        exact cint_of hcell.1.2.2.2.2.2 ⟨by omega, by omega⟩
    have u : ∀ {κ j : Nat}, κ < 51 → κ ∈ [26, 27, 30] → c_cu ks1 wp1 κ j = c_cu ks wp κ j := fun hk hm => cint_un a4.1 c13 hk q3 hm
    obtain ⟨yq, hyq, hyin⟩ := o_cat_ok hy q c2
    split at hyq
    · rename_i b hb
      split at hyq
      · rename_i hbI
        cases hyq
        have hev := int_at (z := 9) c7 (by decide) hb hbI
        have h108 : b108 (cB (c_cu ks1 wp1)) (cS (c_cu ks1 wp1)) (cN (c_cu ks1 wp1)) R9.1 n := by
          rw [cB_eq (fun j _ => u (by decide) (by decide)), cS_eq (fun j _ => u (by decide) (by decide)), cN_eq (fun j _ => u (by decide) (by decide))]
          exact ⟨kk, P, K, S9, V, _, NM, x9, R9, t9, hbT, bCity_of hI (fun s _ => rfl) hnm, hrun, hR99, rfl⟩
        have han : f_ev I.1 an = some n := by
          simp only [f_evs] at z4
          cases h8 : f_ev I.1 an with
          | none => rw [h8] at z4; cases z4
          | some w =>
            rw [h8] at z4
            simp only [Option.some.injEq, List.cons.injEq, and_true] at z4
            rw [z4]
        refine aft_Wv hrw (k _ (hyin _ List.mem_cons_self)) a1 (a2.xt c6) c1 c8 (HS_add c7 ⟨[n, R9.1], by simp only [f_evs, ev_xt c6 han, hev, e39], (E108 _ _).mpr ⟨n, R9.1, rfl, h108⟩⟩) c9' c10 c11 c12 c14
      · cases hyq
    · cases hyq
  · show _ = [Value.ref (bb 0), .ref (aa 2), .ref (c9 0)]
    rw [hc0]
end SO1
