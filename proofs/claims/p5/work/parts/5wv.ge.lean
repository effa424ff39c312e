/-! the law's calls of feed: they do as they say -/
section GE1
variable {xs : Nat → Int32} {D : va_G} {cy : Nat → ClassId} {I0 : IN} {ks0 : List Nat} {wp0 : va_W} {wr : WR} {M : MT} {own : String}
variable {p : Program} {l : Launch} {e : Env} {R : Room} {s : State} {m : MethodId} {args : Array Value} {below : List Frame} {meth : Method} {c : Code} {A : Nat → Prop} {Q : State → Prop} {rm : RMt} {cb sb : Nat}
set_option maxRecDepth 4000 in
theorem mt_feedX {M' : MT} (h : PR2[48]? = some M') : M' = mt2_X11_feed := Option.some.inj (h.symm.trans zj_X11_feed)
set_option maxRecDepth 4000 in
theorem mt_feedM {M' : MT} (h : PR2[114]? = some M') : M' = mt2_X12_feed := Option.some.inj (h.symm.trans zj_X12_feed)
set_option maxRecDepth 4000 in
theorem mt_cityX {M' : MT} (h : PR2[39]? = some M') : M' = mt2_X11_city := Option.some.inj (h.symm.trans zj_X11_city)
set_option maxRecDepth 4000 in
theorem mt_cityM {M' : MT} (h : PR2[99]? = some M') : M' = mt2_X12_city := Option.some.inj (h.symm.trans zj_X12_city)
theorem hv_uq {I : IN} {a : BV} {v : Value} {r : Int32} (ha : f_isI a = true) (h : hv I a v) (h2 : hv I a (.int r)) : v = .int r := by
  obtain ⟨x, rfl⟩ := hv_isI h ha
  have e1 := hv_ev h
  rw [hv_ev h2] at e1
  rw [(fa_eq _ _).mpr (Option.some.inj e1)]
theorem fact_at {I : IN} {ks : List Nat} {wp : va_W} {F : FS} {id : Nat} (h : HS T2 FPX cy I ks wp F) (hm : o_has F.2.2.2 id [] = true) : FPX id (c_cu ks wp) [] := by
  obtain ⟨zs, h1, h2⟩ := h.2.2.2 _ (o_has_ok hm)
  cases h1
  exact h2
set_option maxHeartbeats 2000000 in
theorem s_feedX {SP : List SPt} {DM : List (Nat × List Nat)} {lim : Nat} {S : SB} {ins : Instr} {len : Nat} {M' : MT} {rest : List BV} {sp : SPt} {L : List (Option BV × FS)} (hSP : ∀ (i : Nat) (sp : SPt), i < lim → SP[i]? = some sp → SPOK T2 FPX (EWX xs) D cy l PR2 sp) (X : Cx OW2 (EWX xs) D cy I0.2.2 M own p R s m args meth c A rm cb sb)
    (h : o_call SP DM lim wr rm M S ins len = some (48, M', bP 0 true none :: five, rest, sp, L)) (hd : decode (mC M) S.1 = .ok (ins, len)) (q2 : pR sp = (1, 0, 0, 22)) (q3 : o_off (pW sp) [25, 26] = true) (q4 : o_has S.2.2.2.1.2.2.2 77 [] = true) (q5 : o_has S.2.2.2.1.2.2.2 80 [] = true)
    (k : ∀ S' ∈ L.map (fun q => f_aftS S rest (pR sp).2.1 (pR sp).2.2.1 (o_add 84 five q)), Sf T2 FPX D cy I0 ks0 wp0 wr M p l e R s m args below meth c A Q cb sb S') : Sf T2 FPX D cy I0 ks0 wp0 wr M p l e R s m args below meth c A Q cb sb S := by
  obtain ⟨h1, cs, σ, htry, hL⟩ := o_call_ok h
  have hrw := f_call_rw h1
  intro I H locs ls lv vs ks wp raw a1 a2 a3 a4 a5 a6 a7 a8 a9 a10
  have e9 := hraw_none hrw a5
  subst e9
  rw [List.append_nil] at a6 a7
  refine s_xcall hSP X h1 hd htry hL a1 a3 a4 a6 a7 a8 a9 a10 (fun vas hv9 hP9 => ?_)
  have eM := mt_feedX hP9
  subst eM
  obtain ⟨v0, vr5, rfl, g0, g5⟩ := hvs_cons hv9
  obtain ⟨x1, x2, x3, x4, x5, rfl, hf5⟩ := five_ints g5
  obtain ⟨a, b, F0, B, K, S9, V, U, jd, sc, A1, A2, A3, A4, A5, A6, rfl, ha, hB, hn, e1, e2⟩ := cls_world a4 g0
  refine ⟨rfl, [zR (b 0), zI x1.toInt, zI x2.toInt, zI x3.toInt, zI x4.toInt, zI x5.toInt], _, _, _, ?_, ha, by decide, by rw [q2]; exact zm_feed hn, ?_⟩
  · show _ = [Value.ref (b 0), .int (Int32.ofInt x1.toInt), .int (Int32.ofInt x2.toInt), .int (Int32.ofInt x3.toInt), .int (Int32.ofInt x4.toInt), .int (Int32.ofInt x5.toInt)]
    rw [z_oT, z_oT, z_oT, z_oT, z_oT]
  · intro vr q r J H1 locs1 ks1 wp1 z Y1 c1 c2 c3 c4 c5 c6 c7 c8 c9 c10 c11 c12 c13 c14
    obtain ⟨F9, B9, rfl, eB⟩ := c4
    have f77 := fact_at a4 q4
    have f80 := fact_at a4 q5
    have w77 : cint (c_cu ks wp) 1 1 = cint (c_cu ks wp) 25 2 := f77.2
    have w80 : ∀ j : Nat, j < 940 → cint (c_cu ks wp) 2 j = cint (c_cu ks wp) 26 j := f80.2
    have u25 : cint (c_cu ks1 wp1) 25 2 = F0 0 := by
      rw [← e1, w77]
      exact cint_eq (cint_un a4.1 c13 (by decide) q3 (by decide))
    have u26 : ∀ j, j < 940 → cint (c_cu ks1 wp1) 26 j = B j := by
      intro j hj
      rw [← e2 j hj, w80 j hj]
      exact cint_eq (cint_un a4.1 c13 (by decide) q3 (by decide))
    have u2 : ∀ j, j < 940 → cint (c_cu ks1 wp1) 2 j = B9 j := by
      intro j hj
      refine cint_i (row_after (κ := 2) (q := a 1) (n := 940) (t := 1) (x := [(940, .inl (-128, 127))]) (g := B) a4.1 c7.1 c13 (by decide) rfl (by decide) ha.2.1 c9 (g1 := B9) (c5 1 _ rfl) hj) ?_
      rw [eB]
      exact fed_zin hn hB
    refine aft_W hrw (k _ (List.mem_map.mpr ⟨q, c2, rfl⟩)) a1 (a2.xt c6) c1 c8 (HS_add c7 ⟨_, f_evs_xt c6 hf5, ?_⟩) c9 c10 c11 c12 c14
    refine ⟨rfl, fun j hj => ?_⟩
    rw [u2 j hj, eB, u25, u26 j hj]
    exact fed_cell hn
set_option maxHeartbeats 2000000 in
theorem s_feedM {SP : List SPt} {DM : List (Nat × List Nat)} {lim : Nat} {S : SB} {ins : Instr} {len : Nat} {M' : MT} {rest : List BV} {sp : SPt} {L : List (Option BV × FS)} (hSP : ∀ (i : Nat) (sp : SPt), i < lim → SP[i]? = some sp → SPOK T2 FPX (EWX xs) D cy l PR2 sp) (X : Cx OW2 (EWX xs) D cy I0.2.2 M own p R s m args meth c A rm cb sb)
    (h : o_call SP DM lim wr rm M S ins len = some (114, M', bP 25 true none :: five, rest, sp, L)) (hd : decode (mC M) S.1 = .ok (ins, len)) (q2 : pR sp = (1, 0, 0, 22)) (q3 : o_off (pW sp) [2] = true) (q4 : o_has S.2.2.2.1.2.2.2 84 five = true)
    (k : ∀ S' ∈ L.map (fun q => f_aftS S rest (pR sp).2.1 (pR sp).2.2.1 (o_add 80 [] q)), Sf T2 FPX D cy I0 ks0 wp0 wr M p l e R s m args below meth c A Q cb sb S') : Sf T2 FPX D cy I0 ks0 wp0 wr M p l e R s m args below meth c A Q cb sb S := by
  obtain ⟨h1, cs, σ, htry, hL⟩ := o_call_ok h
  have hrw := f_call_rw h1
  intro I H locs ls lv vs ks wp raw a1 a2 a3 a4 a5 a6 a7 a8 a9 a10
  have e9 := hraw_none hrw a5
  subst e9
  rw [List.append_nil] at a6 a7
  refine s_xcall hSP X h1 hd htry hL a1 a3 a4 a6 a7 a8 a9 a10 (fun vas hv9 hP9 => ?_)
  have eM := mt_feedM hP9
  subst eM
  obtain ⟨v0, vr5, rfl, g0, g5⟩ := hvs_cons hv9
  obtain ⟨x1, x2, x3, x4, x5, rfl, hf5⟩ := five_ints g5
  obtain ⟨mm, F0, B, SS, HH, NR, RV, rfl, ha, hB, hn, e1, e2, -, -, -⟩ := ref_world a4 g0
  refine ⟨rfl, [zR (mm 0), zI x1.toInt, zI x2.toInt, zI x3.toInt, zI x4.toInt, zI x5.toInt], _, _, _, ?_, ha, by decide, by rw [q2]; exact zr_feed hn, ?_⟩
  · show _ = [Value.ref (mm 0), .int (Int32.ofInt x1.toInt), .int (Int32.ofInt x2.toInt), .int (Int32.ofInt x3.toInt), .int (Int32.ofInt x4.toInt), .int (Int32.ofInt x5.toInt)]
    rw [z_oT, z_oT, z_oT, z_oT, z_oT]
  · intro vr q r J H1 locs1 ks1 wp1 z Y1 c1 c2 c3 c4 c5 c6 c7 c8 c9 c10 c11 c12 c13 c14
    obtain ⟨F9, B9, rfl, eB⟩ := c4
    obtain ⟨zs, hz1, hz2⟩ := a4.2.2.2 _ (o_has_ok q4)
    rw [hf5] at hz1
    cases hz1
    have w84 := hz2.2
    have u26 : ∀ j, j < 940 → cint (c_cu ks1 wp1) 26 j = B9 j := by
      intro j hj
      refine cint_i (row_after (κ := 26) (q := mm 1) (n := 940) (t := 1) (x := [(940, .inl (-128, 127))]) (g := B) a4.1 c7.1 c13 (by decide) rfl (by decide) ha.2.1 c9 (g1 := B9) (c5 1 _ rfl) hj) ?_
      rw [eB]
      exact fed_zin hn hB
    refine aft_W hrw (k _ (List.mem_map.mpr ⟨q, c2, rfl⟩)) a1 (a2.xt c6) c1 c8 (HS_add c7 ⟨_, rfl, ?_⟩) c9 c10 c11 c12 c14
    refine ⟨rfl, fun j hj => ?_⟩
    rw [u26 j hj, eB, fed_cell hn, cint_eq (cint_un (κ := 2) (j := j) a4.1 c13 (by decide) q3 (by decide)), w84 j hj, e1, e2 j hj]
end GE1
