/-! the law's own calls that catch what the class throws (written by wip/p41/gen5.py) -/
def hpF (n : Nat) : FS := (n, (List.range n).map (fun k => (k, iMin, iMax)), [], [])
def hpO (n : Nat) : List OUB := [(some (bI 1), hpF n), (some (bI 0), hpF n)]
abbrev hpW : WR := [(24, 0, 0)]
theorem hp_wr {wr wr' : WR} {ks0 ks : List Nat} {wp0 wp : va_W} (h : Unch wr ks0 wp0 ks wp) (hw : ∀ w ∈ wr, w ∈ wr') : Unch wr' ks0 wp0 ks wp := by
  obtain ⟨h1, h2⟩ := h
  refine ⟨h1, fun i κ q e g1 g2 => ?_⟩
  obtain ⟨e', k1, k2⟩ := h2 i κ q e g1 g2
  exact ⟨e', k1, fun j hj => k2 j (fun ⟨w, w1, w2⟩ => hj ⟨w, hw w w1, w2⟩)⟩
theorem eL_thing_0 : decode cL_thing 0 = .ok (.aload_n 3, 1) := by decide +kernel
theorem eL_thing_1 : decode cL_thing 1 = .ok (.iconst 0, 1) := by decide +kernel
theorem eL_thing_2 : decode cL_thing 2 = .ok (.aload_n 0, 1) := by decide +kernel
theorem eL_thing_3 : decode cL_thing 3 = .ok (.iload_n 1, 1) := by decide +kernel
theorem eL_thing_4 : decode cL_thing 4 = .ok (.iload_n 2, 1) := by decide +kernel
theorem eL_thing_5 : decode cL_thing 5 = .ok (.invokevirtual 7, 3) := by decide +kernel
theorem eL_thing_8 : decode cL_thing 8 = .ok (.i2l, 1) := by decide +kernel
theorem eL_thing_9 : decode cL_thing 9 = .ok (.lastore, 1) := by decide +kernel
theorem eL_thing_10 : decode cL_thing 10 = .ok (.goto 7, 3) := by decide +kernel
theorem eL_thing_13 : decode cL_thing 13 = .ok (.astore 4, 2) := by decide +kernel
theorem eL_thing_15 : decode cL_thing 15 = .ok (.iconst 1, 1) := by decide +kernel
theorem eL_thing_16 : decode cL_thing 16 = .ok (.ireturn, 1) := by decide +kernel
theorem eL_thing_17 : decode cL_thing 17 = .ok (.iconst 0, 1) := by decide +kernel
theorem eL_thing_18 : decode cL_thing 18 = .ok (.ireturn, 1) := by decide +kernel
abbrev WL_thing : List Cond := Cond.codeWith yL_thing cL_thing 5 (some .int) [(0, 10, 13, 13)] :: BIG
set_option maxHeartbeats 4000000 in
theorem lx2_thing {l : Launch} {D : va_G} {cy : Nat → ClassId} {xs : Nat → Int32} {M' : MT} {I : IN} {ks : List Nat} {wp : va_W} {outs : List OUB} {qx qo : Nat} {p0 p1 : Int32} {rm : RMt} (sz : Nat) (hl : l.stackTraces = false) (hy : mY M' = yX11_thing) (mok : MOK M') (hk1 : mK M' = 1) (hret : mR M' = some .int) (hn9 : mA M' = 2) (hF : HS T2 FPX cy I ks wp (hpF 2)) (hqx : hv I (bP 0 true none) (.ref qx)) (hqo : hv I (bP 24 true none) (.ref qo)) (hr1 : rm.1 + 1 ≤ 60) (hr2 : 8 + (mL M' + 11) + rm.2.2.2 ≤ 3000) (hr3 : rm.2.1 ≤ 64) (hr4 : rm.2.2.1 ≤ 64)
    (metX : ∀ sz' : Nat, vx_Met l (mY M') (mW M') (rmR rm) (PJ2 D cy (EWX xs) I.2.2 wp [.ref qx, .int p0, .int p1] sz') (QJ2 T2 FPX D cy I ks wp [] outs (va_A wp sz') (mR M')) (XC2 D cy I.2.1 ks wp [] (va_A wp sz')) rm.2.1 rm.2.2.1 (va_A wp sz')) :
    Met l yL_thing WL_thing (rmR (60, 64, 64, 3000)) (PJ2 D cy (EWX xs) I.2.2 wp [.ref qx, .int p0, .int p1, .ref qo] sz) (QJ2 T2 FPX D cy I ks wp hpW (hpO 2) (va_A wp sz) (some .int)) 64 64 (va_A wp sz) := by
  refine va_MetW (cc := cL_thing) (maxL := 5) (ret := some .int) (hh := [(0, 10, 13, 13)]) (by decide +kernel) rfl ?_
  intro p e s m args below meth c s₁ B hml hv0
  obtain ⟨rfl, hsz, hP, hK, hD0, hE⟩ := hv0
  have hx9 := B.exec
  have hb := B.bytes
  have hr := B.returns
  have hts := atoms_spec (ws := WL_thing) B.pre
  have hbig : ∀ w ∈ BIG, w.before [.ref qx, .int p0, .int p1, .ref qo].toArray s = true := fun w hw => hts w (List.mem_cons_of_mem _ hw)
  have hown : s.vm.findClass RL = some m.cls := findClass_of_methodNamed B.named
  have hlocks := B.notSynchronized
  have htab := vx_table (x := yL_thing) B (hts _ List.mem_cons_self)
  subst hsz
  have met := metX s.heap.size
  have hD := hD0.self (sz := s.heap.size)
  generalize hAe : va_A wp s.heap.size = A at hD hE met ⊢
  have hS : va_S A s.heap s.heap [] := va_S.rf
  have hlv := lv_entry ([.ref qx, .int p0, .int p1, .ref qo]) (n := 5) (Nat.le_of_ble_eq_true rfl)
  rw [lg_entry_eq]
  generalize (lg_sl ([.ref qx, .int p0, .int p1, .ref qo]) ++ List.replicate (5 - (lg_sl ([.ref qx, .int p0, .int p1, .ref qo])).length) Slot.unset).toArray = ls at hlv ⊢
  have hlv : lv_has ls 5 [(0, .ref qx), (1, .int p0), (2, .int p1), (3, .ref qo)] := hlv
  refine lv_aload_n hx9 hb eL_thing_0 rfl (lv_at hlv 3 rfl) ?_
  refine lv_iconst (v := 0) hx9 hb eL_thing_1 (by decide) ?_
  refine lv_aload_n hx9 hb eL_thing_2 rfl (lv_at hlv 0 rfl) ?_
  refine lv_iload_n hx9 hb eL_thing_3 rfl (lv_at hlv 1 rfl) ?_
  refine lv_iload_n hx9 hb eL_thing_4 rfl (lv_at hlv 2 rfl) ?_
  have cB : CallB (rmR (60, 64, 64, 3000)) s [.ref qx, .int p0, .int p1, .ref qo].toArray RL 7 (mY M') (mC M') (mL M') (mR M') (mW M') (rmR rm) rm.2.1 rm.2.2.1 2 := callB_of 2 hbig (mW_good mok) rfl rfl rfl (hbig _ mok.2.2.1) (hbig _ (by rw [hy]; exact h_at_ok (pos := 1206) (by decide +kernel))) ⟨mok.2.2.2.1.1, mok.2.2.2.1.2, by rw [← hn9]; exact mok.2.2.2.2.1⟩ ⟨hr1, hr2⟩
  have hkd : f_kd T2 (hpF 2).2.1 (bP 0 true none) = some (0, true, none, .inr (10, [.inr (.inr (1, true)), .inr (.inr (3, true)), .inr (.inr (44, true)), .inr (.inr (85, true)), .inr (.inr (7, true)), .inr (.inr (9, true)), .inr (.inr (15, true)), .inr (.inr (18, true)), .inr (.inr (20, true)), .inr (.inr (21, true)), .inr (.inr (22, true)), .inr (.inr (23, true)), .inl (0, 96), .inr (.inr (59, false)), .inl (0, 4), .inl ((-2147483648), 2147483647), .inl ((-2147483648), 2147483647), .inl ((-2147483648), 2147483647)])) := rfl
  obtain ⟨q', i', e', e1, k1, k2, k3, k4, k5⟩ := kd_ok hF hqx hkd
  cases e1
  obtain ⟨fvs, rfl, -⟩ := k3.1
  have hrecv := va_recv hK.1 hP (show vwCl[10]? = some (RX11, TX11, 18) from rfl) k2
  have hcy : (mY M').cls = RX11 := by rw [hy]; rfl
  obtain ⟨j1, j2, -⟩ := mok.2.2.2.2.2.2.1 hk1
  have fin : ∀ (AK : List (Nat × Nat)) (ks1 : List Nat) (wp1 : va_W), hpool T2 cy AK ks1 wp1 → (∃ m2, AK = I.2.1 ++ m2) → HS T2 FPX cy (I.1, AK, I.2.2) ks1 wp1 (hpF 2) ∧ hxt I (I.1, AK, I.2.2) := fun AK ks1 wp1 h1 h2 => ⟨⟨h1, hF.2.1, (fun f hf => (by cases hf)), (fun f hf => (by cases hf))⟩, ⟨[], by simp⟩, h2, rfl⟩
  have run := vx_runV (C := RX11) (As := [.int p0, .int p1]) (rest := [.int 0, .ref qo]) (g := F0 m 5 ls ([.int p1, .int p0] ++ .ref qx :: [.int 0, .ref qo])) (p := p) (e := e) (below := below) (meth := meth) (H := s.heap) (locs := []) (cells := 0) (slots := 0) ⟨hx9, hb, hml, hown, hbig⟩ met ⟨cB, hbig _ j1, by rw [← hcy]; exact hbig _ j2⟩ ⟨pj2_blind EWX_ok, hrecv, fun U hU hW9 => ⟨rfl, by rw [hU], by rw [hU]; exact hP, KK.warm hW9 hK, hD0, by rw [hAe]; exact EWX_ok.1 _ A _ s U [] s.heap hE hW9 hU hS (fun _ h => h)⟩⟩ rfl rfl hlv.1 rfl (lv_room (Nat.le_of_ble_eq_true rfl)) eL_thing_5 ⟨by show 0 + rm.2.1 ≤ 64; omega, by show 0 + rm.2.2.1 ≤ 64; omega⟩
  rw [hret] at run
  refine vx_calli (A0 := A) (H0 := s.heap) (a := (Value.ref qx :: [.int p0, .int p1]).toArray) run hS (fun q _ h => h) (fun q h => h) (fun q _ h => h) ?_ ?_
  · intro E9 ce q9 u t H1 locs1 ht hvm hpx hBX hz hk hS1 hcell hcv hcl
    obtain ⟨hE9, g1, g2⟩ := hBX
    subst hE9
    obtain ⟨u1, u2, u3⟩ := hpx
    obtain ⟨f1, f2⟩ := fin u.1 u.2.1 u.2.2 u1 u2
    have hcast : (Cond.castable xNS xNS).before [.ref qx, .int p0, .int p1, .ref qo].toArray s = true := va_Nw.use rfl (hE.2.2.2.1 _ (by decide +kernel))
    refine vx_catch hown [] ⟨0, 10, 13, 13⟩ [] (by rw [htab]; rfl) (fun z hz => by cases hz) (by decide) (by decide) (hbig _ (h_at_ok (w := .classLink RL 13 xNS) (pos := 1205) (by decide +kernel))) hcast hcell hcv hcl ?_
    refine lv_astore (lv' := [(4, .ref q9), (0, .ref qx), (1, .int p0), (2, .int p1), (3, .ref qo)]) hx9 hb eL_thing_13 hlv (by decide) rfl (fun ls hl2 => ?_)
    refine lv_iconst (v := 1) hx9 hb eL_thing_15 (by decide) ?_
    refine W.widen (k := 64) (n := 64) (by omega) (by omega) ?_
    exact W.iret hx9 hb hr (fun t2 ht2 hW2 => ⟨⟨1, ((I.1, u.1, I.2.2), u.2.1, u.2.2, (some (bI 1), hpF 2)), rfl, ⟨⟨List.mem_cons_self, f2, f1, hp_wr u3 (fun w hw => by cases hw)⟩, bI 1, rfl, ⟨1, rfl, rfl⟩⟩, ⟨by rw [ht2, ← ht]; exact g1, g2⟩⟩, hS1.F ht2⟩) hS1.2.2 eL_thing_16
  · intro r u t H1 locs1 ht hvm hw hB hz hk hS1
    obtain ⟨⟨u1, u2, u3, u4⟩, -⟩ := hw
    obtain ⟨f1, f2⟩ := fin u.1.2.1 u.2.1 u.2.2.1 u3.1 u2.2.1
    refine lv_i2l hx9 hb eL_thing_8 rfl ?_
    have hkd2 : f_kd T2 (hpF 2).2.1 (bP 24 true none) = some (24, true, none, .inl (3, 1, [(1, .inr (.inl (lMin, lMax)))])) := rfl
    obtain ⟨q2, i2, e2, ee, m1, m2, m3, m4, m5⟩ := kd_ok f1 (hqo.xt f2) hkd2
    cases ee
    have hbo : va_P D vwCl u.2.2.1 t.heap ∧ va_D A u.2.2.1 := hB
    refine b_ast (x := [(1, .inr (.inl (lMin, lMax)))]) (z := 0) (n := 1) (t := 3) (D := D) (cy := cy) (ww := u.2.2.1) (A := A) (H0 := s.heap) hx9 hb hK (by rw [← ht]; exact hbo.1) hbo.2 hS1 m2 m3.1 (by omega) rfl (by omega) (by omega) (Or.inl (Or.inr (Or.inr (Or.inr ⟨rfl, _, rfl⟩)))) rfl eL_thing_9 (fun e1 s1 s2 s3 H2 locs2 w1 w2 w3 => ?_)
    refine lv_goto hx9 hb eL_thing_10 (tgt := 17) (by decide) ?_
    refine lv_iconst (v := 0) hx9 hb eL_thing_17 (by decide) ?_
    have hty1 : ktyped cy u.1.2.1 (.inl (3, 1, [(1, .inr (.inl (lMin, lMax)))])) e1 := ktyped_ast m3 s1 s2 s3 (fun t' h9 => by
      cases h9
      refine ⟨_, rfl, ?_, ?_⟩
      · rw [en_wide]; have := Int32.le_toInt r; show (-9223372036854775808 : Int) ≤ _; omega
      · rw [en_wide]; have := Int32.toInt_lt r; show _ ≤ (9223372036854775807 : Int); omega)
    obtain ⟨f3, -⟩ := fin u.1.2.1 u.2.1 (u.2.2.1.set i2 (qo, e1)) (hpool_set f1.1 m1 m2 m4 hty1) u2.2.1
    have hun : Unch hpW ks wp u.2.1 (u.2.2.1.set i2 (qo, e1)) := (hp_wr u4 (fun w hw => by cases hw)).set m1 m2 s3 ⟨(24, 0, 0), List.mem_cons_self, rfl, Nat.le_refl _, Nat.le_refl _⟩
    refine W.widen (k := 64) (n := 64) (by omega) (by omega) ?_
    exact W.iret hx9 hb hr (fun t2 ht2 hW2 => ⟨⟨0, ((I.1, u.1.2.1, I.2.2), u.2.1, u.2.2.1.set i2 (qo, e1), (some (bI 0), hpF 2)), rfl, ⟨⟨List.mem_cons_of_mem _ List.mem_cons_self, f2, f3, hun⟩, bI 0, rfl, ⟨0, rfl, rfl⟩⟩, ⟨by rw [ht2]; exact w1, w2⟩⟩, w3.F ht2⟩) w3.2.2 eL_thing_18
theorem eL_person_0 : decode cL_person 0 = .ok (.aload_n 3, 1) := by decide +kernel
theorem eL_person_1 : decode cL_person 1 = .ok (.iconst 0, 1) := by decide +kernel
theorem eL_person_2 : decode cL_person 2 = .ok (.aload_n 0, 1) := by decide +kernel
theorem eL_person_3 : decode cL_person 3 = .ok (.iload_n 1, 1) := by decide +kernel
theorem eL_person_4 : decode cL_person 4 = .ok (.iload_n 2, 1) := by decide +kernel
theorem eL_person_5 : decode cL_person 5 = .ok (.invokevirtual 15, 3) := by decide +kernel
theorem eL_person_8 : decode cL_person 8 = .ok (.i2l, 1) := by decide +kernel
theorem eL_person_9 : decode cL_person 9 = .ok (.lastore, 1) := by decide +kernel
theorem eL_person_10 : decode cL_person 10 = .ok (.goto 7, 3) := by decide +kernel
theorem eL_person_13 : decode cL_person 13 = .ok (.astore 4, 2) := by decide +kernel
theorem eL_person_15 : decode cL_person 15 = .ok (.iconst 1, 1) := by decide +kernel
theorem eL_person_16 : decode cL_person 16 = .ok (.ireturn, 1) := by decide +kernel
theorem eL_person_17 : decode cL_person 17 = .ok (.iconst 0, 1) := by decide +kernel
theorem eL_person_18 : decode cL_person 18 = .ok (.ireturn, 1) := by decide +kernel
abbrev WL_person : List Cond := Cond.codeWith yL_person cL_person 5 (some .int) [(0, 10, 13, 13)] :: BIG
set_option maxHeartbeats 4000000 in
theorem lx2_person {l : Launch} {D : va_G} {cy : Nat → ClassId} {xs : Nat → Int32} {M' : MT} {I : IN} {ks : List Nat} {wp : va_W} {outs : List OUB} {qx qo : Nat} {p0 p1 : Int32} {rm : RMt} (sz : Nat) (hl : l.stackTraces = false) (hy : mY M' = yX11_person) (mok : MOK M') (hk1 : mK M' = 1) (hret : mR M' = some .int) (hn9 : mA M' = 2) (hF : HS T2 FPX cy I ks wp (hpF 2)) (hqx : hv I (bP 0 true none) (.ref qx)) (hqo : hv I (bP 24 true none) (.ref qo)) (hr1 : rm.1 + 1 ≤ 60) (hr2 : 8 + (mL M' + 11) + rm.2.2.2 ≤ 3000) (hr3 : rm.2.1 ≤ 64) (hr4 : rm.2.2.1 ≤ 64)
    (metX : ∀ sz' : Nat, vx_Met l (mY M') (mW M') (rmR rm) (PJ2 D cy (EWX xs) I.2.2 wp [.ref qx, .int p0, .int p1] sz') (QJ2 T2 FPX D cy I ks wp [] outs (va_A wp sz') (mR M')) (XC2 D cy I.2.1 ks wp [] (va_A wp sz')) rm.2.1 rm.2.2.1 (va_A wp sz')) :
    Met l yL_person WL_person (rmR (60, 64, 64, 3000)) (PJ2 D cy (EWX xs) I.2.2 wp [.ref qx, .int p0, .int p1, .ref qo] sz) (QJ2 T2 FPX D cy I ks wp hpW (hpO 2) (va_A wp sz) (some .int)) 64 64 (va_A wp sz) := by
  refine va_MetW (cc := cL_person) (maxL := 5) (ret := some .int) (hh := [(0, 10, 13, 13)]) (by decide +kernel) rfl ?_
  intro p e s m args below meth c s₁ B hml hv0
  obtain ⟨rfl, hsz, hP, hK, hD0, hE⟩ := hv0
  have hx9 := B.exec
  have hb := B.bytes
  have hr := B.returns
  have hts := atoms_spec (ws := WL_person) B.pre
  have hbig : ∀ w ∈ BIG, w.before [.ref qx, .int p0, .int p1, .ref qo].toArray s = true := fun w hw => hts w (List.mem_cons_of_mem _ hw)
  have hown : s.vm.findClass RL = some m.cls := findClass_of_methodNamed B.named
  have hlocks := B.notSynchronized
  have htab := vx_table (x := yL_person) B (hts _ List.mem_cons_self)
  subst hsz
  have met := metX s.heap.size
  have hD := hD0.self (sz := s.heap.size)
  generalize hAe : va_A wp s.heap.size = A at hD hE met ⊢
  have hS : va_S A s.heap s.heap [] := va_S.rf
  have hlv := lv_entry ([.ref qx, .int p0, .int p1, .ref qo]) (n := 5) (Nat.le_of_ble_eq_true rfl)
  rw [lg_entry_eq]
  generalize (lg_sl ([.ref qx, .int p0, .int p1, .ref qo]) ++ List.replicate (5 - (lg_sl ([.ref qx, .int p0, .int p1, .ref qo])).length) Slot.unset).toArray = ls at hlv ⊢
  have hlv : lv_has ls 5 [(0, .ref qx), (1, .int p0), (2, .int p1), (3, .ref qo)] := hlv
  refine lv_aload_n hx9 hb eL_person_0 rfl (lv_at hlv 3 rfl) ?_
  refine lv_iconst (v := 0) hx9 hb eL_person_1 (by decide) ?_
  refine lv_aload_n hx9 hb eL_person_2 rfl (lv_at hlv 0 rfl) ?_
  refine lv_iload_n hx9 hb eL_person_3 rfl (lv_at hlv 1 rfl) ?_
  refine lv_iload_n hx9 hb eL_person_4 rfl (lv_at hlv 2 rfl) ?_
  have cB : CallB (rmR (60, 64, 64, 3000)) s [.ref qx, .int p0, .int p1, .ref qo].toArray RL 15 (mY M') (mC M') (mL M') (mR M') (mW M') (rmR rm) rm.2.1 rm.2.2.1 2 := callB_of 2 hbig (mW_good mok) rfl rfl rfl (hbig _ mok.2.2.1) (hbig _ (by rw [hy]; exact h_at_ok (pos := 1279) (by decide +kernel))) ⟨mok.2.2.2.1.1, mok.2.2.2.1.2, by rw [← hn9]; exact mok.2.2.2.2.1⟩ ⟨hr1, hr2⟩
  have hkd : f_kd T2 (hpF 2).2.1 (bP 0 true none) = some (0, true, none, .inr (10, [.inr (.inr (1, true)), .inr (.inr (3, true)), .inr (.inr (44, true)), .inr (.inr (85, true)), .inr (.inr (7, true)), .inr (.inr (9, true)), .inr (.inr (15, true)), .inr (.inr (18, true)), .inr (.inr (20, true)), .inr (.inr (21, true)), .inr (.inr (22, true)), .inr (.inr (23, true)), .inl (0, 96), .inr (.inr (59, false)), .inl (0, 4), .inl ((-2147483648), 2147483647), .inl ((-2147483648), 2147483647), .inl ((-2147483648), 2147483647)])) := rfl
  obtain ⟨q', i', e', e1, k1, k2, k3, k4, k5⟩ := kd_ok hF hqx hkd
  cases e1
  obtain ⟨fvs, rfl, -⟩ := k3.1
  have hrecv := va_recv hK.1 hP (show vwCl[10]? = some (RX11, TX11, 18) from rfl) k2
  have hcy : (mY M').cls = RX11 := by rw [hy]; rfl
  obtain ⟨j1, j2, -⟩ := mok.2.2.2.2.2.2.1 hk1
  have fin : ∀ (AK : List (Nat × Nat)) (ks1 : List Nat) (wp1 : va_W), hpool T2 cy AK ks1 wp1 → (∃ m2, AK = I.2.1 ++ m2) → HS T2 FPX cy (I.1, AK, I.2.2) ks1 wp1 (hpF 2) ∧ hxt I (I.1, AK, I.2.2) := fun AK ks1 wp1 h1 h2 => ⟨⟨h1, hF.2.1, (fun f hf => (by cases hf)), (fun f hf => (by cases hf))⟩, ⟨[], by simp⟩, h2, rfl⟩
  have run := vx_runV (C := RX11) (As := [.int p0, .int p1]) (rest := [.int 0, .ref qo]) (g := F0 m 5 ls ([.int p1, .int p0] ++ .ref qx :: [.int 0, .ref qo])) (p := p) (e := e) (below := below) (meth := meth) (H := s.heap) (locs := []) (cells := 0) (slots := 0) ⟨hx9, hb, hml, hown, hbig⟩ met ⟨cB, hbig _ j1, by rw [← hcy]; exact hbig _ j2⟩ ⟨pj2_blind EWX_ok, hrecv, fun U hU hW9 => ⟨rfl, by rw [hU], by rw [hU]; exact hP, KK.warm hW9 hK, hD0, by rw [hAe]; exact EWX_ok.1 _ A _ s U [] s.heap hE hW9 hU hS (fun _ h => h)⟩⟩ rfl rfl hlv.1 rfl (lv_room (Nat.le_of_ble_eq_true rfl)) eL_person_5 ⟨by show 0 + rm.2.1 ≤ 64; omega, by show 0 + rm.2.2.1 ≤ 64; omega⟩
  rw [hret] at run
  refine vx_calli (A0 := A) (H0 := s.heap) (a := (Value.ref qx :: [.int p0, .int p1]).toArray) run hS (fun q _ h => h) (fun q h => h) (fun q _ h => h) ?_ ?_
  · intro E9 ce q9 u t H1 locs1 ht hvm hpx hBX hz hk hS1 hcell hcv hcl
    obtain ⟨hE9, g1, g2⟩ := hBX
    subst hE9
    obtain ⟨u1, u2, u3⟩ := hpx
    obtain ⟨f1, f2⟩ := fin u.1 u.2.1 u.2.2 u1 u2
    have hcast : (Cond.castable xNS xNS).before [.ref qx, .int p0, .int p1, .ref qo].toArray s = true := va_Nw.use rfl (hE.2.2.2.1 _ (by decide +kernel))
    refine vx_catch hown [] ⟨0, 10, 13, 13⟩ [] (by rw [htab]; rfl) (fun z hz => by cases hz) (by decide) (by decide) (hbig _ (h_at_ok (w := .classLink RL 13 xNS) (pos := 1205) (by decide +kernel))) hcast hcell hcv hcl ?_
    refine lv_astore (lv' := [(4, .ref q9), (0, .ref qx), (1, .int p0), (2, .int p1), (3, .ref qo)]) hx9 hb eL_person_13 hlv (by decide) rfl (fun ls hl2 => ?_)
    refine lv_iconst (v := 1) hx9 hb eL_person_15 (by decide) ?_
    refine W.widen (k := 64) (n := 64) (by omega) (by omega) ?_
    exact W.iret hx9 hb hr (fun t2 ht2 hW2 => ⟨⟨1, ((I.1, u.1, I.2.2), u.2.1, u.2.2, (some (bI 1), hpF 2)), rfl, ⟨⟨List.mem_cons_self, f2, f1, hp_wr u3 (fun w hw => by cases hw)⟩, bI 1, rfl, ⟨1, rfl, rfl⟩⟩, ⟨by rw [ht2, ← ht]; exact g1, g2⟩⟩, hS1.F ht2⟩) hS1.2.2 eL_person_16
  · intro r u t H1 locs1 ht hvm hw hB hz hk hS1
    obtain ⟨⟨u1, u2, u3, u4⟩, -⟩ := hw
    obtain ⟨f1, f2⟩ := fin u.1.2.1 u.2.1 u.2.2.1 u3.1 u2.2.1
    refine lv_i2l hx9 hb eL_person_8 rfl ?_
    have hkd2 : f_kd T2 (hpF 2).2.1 (bP 24 true none) = some (24, true, none, .inl (3, 1, [(1, .inr (.inl (lMin, lMax)))])) := rfl
    obtain ⟨q2, i2, e2, ee, m1, m2, m3, m4, m5⟩ := kd_ok f1 (hqo.xt f2) hkd2
    cases ee
    have hbo : va_P D vwCl u.2.2.1 t.heap ∧ va_D A u.2.2.1 := hB
    refine b_ast (x := [(1, .inr (.inl (lMin, lMax)))]) (z := 0) (n := 1) (t := 3) (D := D) (cy := cy) (ww := u.2.2.1) (A := A) (H0 := s.heap) hx9 hb hK (by rw [← ht]; exact hbo.1) hbo.2 hS1 m2 m3.1 (by omega) rfl (by omega) (by omega) (Or.inl (Or.inr (Or.inr (Or.inr ⟨rfl, _, rfl⟩)))) rfl eL_person_9 (fun e1 s1 s2 s3 H2 locs2 w1 w2 w3 => ?_)
    refine lv_goto hx9 hb eL_person_10 (tgt := 17) (by decide) ?_
    refine lv_iconst (v := 0) hx9 hb eL_person_17 (by decide) ?_
    have hty1 : ktyped cy u.1.2.1 (.inl (3, 1, [(1, .inr (.inl (lMin, lMax)))])) e1 := ktyped_ast m3 s1 s2 s3 (fun t' h9 => by
      cases h9
      refine ⟨_, rfl, ?_, ?_⟩
      · rw [en_wide]; have := Int32.le_toInt r; show (-9223372036854775808 : Int) ≤ _; omega
      · rw [en_wide]; have := Int32.toInt_lt r; show _ ≤ (9223372036854775807 : Int); omega)
    obtain ⟨f3, -⟩ := fin u.1.2.1 u.2.1 (u.2.2.1.set i2 (qo, e1)) (hpool_set f1.1 m1 m2 m4 hty1) u2.2.1
    have hun : Unch hpW ks wp u.2.1 (u.2.2.1.set i2 (qo, e1)) := (hp_wr u4 (fun w hw => by cases hw)).set m1 m2 s3 ⟨(24, 0, 0), List.mem_cons_self, rfl, Nat.le_refl _, Nat.le_refl _⟩
    refine W.widen (k := 64) (n := 64) (by omega) (by omega) ?_
    exact W.iret hx9 hb hr (fun t2 ht2 hW2 => ⟨⟨0, ((I.1, u.1.2.1, I.2.2), u.2.1, u.2.2.1.set i2 (qo, e1), (some (bI 0), hpF 2)), rfl, ⟨⟨List.mem_cons_of_mem _ List.mem_cons_self, f2, f3, hun⟩, bI 0, rfl, ⟨0, rfl, rfl⟩⟩, ⟨by rw [ht2]; exact w1, w2⟩⟩, w3.F ht2⟩) w3.2.2 eL_person_18
theorem eL_slip_0 : decode cL_slip 0 = .ok (.aload 4, 2) := by decide +kernel
theorem eL_slip_2 : decode cL_slip 2 = .ok (.iconst 0, 1) := by decide +kernel
theorem eL_slip_3 : decode cL_slip 3 = .ok (.aload_n 0, 1) := by decide +kernel
theorem eL_slip_4 : decode cL_slip 4 = .ok (.iload_n 1, 1) := by decide +kernel
theorem eL_slip_5 : decode cL_slip 5 = .ok (.iload_n 2, 1) := by decide +kernel
theorem eL_slip_6 : decode cL_slip 6 = .ok (.iload_n 3, 1) := by decide +kernel
theorem eL_slip_7 : decode cL_slip 7 = .ok (.invokevirtual 18, 3) := by decide +kernel
theorem eL_slip_10 : decode cL_slip 10 = .ok (.i2l, 1) := by decide +kernel
theorem eL_slip_11 : decode cL_slip 11 = .ok (.lastore, 1) := by decide +kernel
theorem eL_slip_12 : decode cL_slip 12 = .ok (.goto 7, 3) := by decide +kernel
theorem eL_slip_15 : decode cL_slip 15 = .ok (.astore 5, 2) := by decide +kernel
theorem eL_slip_17 : decode cL_slip 17 = .ok (.iconst 1, 1) := by decide +kernel
theorem eL_slip_18 : decode cL_slip 18 = .ok (.ireturn, 1) := by decide +kernel
theorem eL_slip_19 : decode cL_slip 19 = .ok (.iconst 0, 1) := by decide +kernel
theorem eL_slip_20 : decode cL_slip 20 = .ok (.ireturn, 1) := by decide +kernel
abbrev WL_slip : List Cond := Cond.codeWith yL_slip cL_slip 6 (some .int) [(0, 12, 15, 13)] :: BIG
set_option maxHeartbeats 4000000 in
theorem lx2_slip {l : Launch} {D : va_G} {cy : Nat → ClassId} {xs : Nat → Int32} {M' : MT} {I : IN} {ks : List Nat} {wp : va_W} {outs : List OUB} {qx qo : Nat} {p0 p1 p2 : Int32} {rm : RMt} (sz : Nat) (hl : l.stackTraces = false) (hy : mY M' = yX11_slip) (mok : MOK M') (hk1 : mK M' = 1) (hret : mR M' = some .int) (hn9 : mA M' = 3) (hF : HS T2 FPX cy I ks wp (hpF 3)) (hqx : hv I (bP 0 true none) (.ref qx)) (hqo : hv I (bP 24 true none) (.ref qo)) (hr1 : rm.1 + 1 ≤ 60) (hr2 : 8 + (mL M' + 11) + rm.2.2.2 ≤ 3000) (hr3 : rm.2.1 ≤ 64) (hr4 : rm.2.2.1 ≤ 64)
    (metX : ∀ sz' : Nat, vx_Met l (mY M') (mW M') (rmR rm) (PJ2 D cy (EWX xs) I.2.2 wp [.ref qx, .int p0, .int p1, .int p2] sz') (QJ2 T2 FPX D cy I ks wp [] outs (va_A wp sz') (mR M')) (XC2 D cy I.2.1 ks wp [] (va_A wp sz')) rm.2.1 rm.2.2.1 (va_A wp sz')) :
    Met l yL_slip WL_slip (rmR (60, 64, 64, 3000)) (PJ2 D cy (EWX xs) I.2.2 wp [.ref qx, .int p0, .int p1, .int p2, .ref qo] sz) (QJ2 T2 FPX D cy I ks wp hpW (hpO 3) (va_A wp sz) (some .int)) 64 64 (va_A wp sz) := by
  refine va_MetW (cc := cL_slip) (maxL := 6) (ret := some .int) (hh := [(0, 12, 15, 13)]) (by decide +kernel) rfl ?_
  intro p e s m args below meth c s₁ B hml hv0
  obtain ⟨rfl, hsz, hP, hK, hD0, hE⟩ := hv0
  have hx9 := B.exec
  have hb := B.bytes
  have hr := B.returns
  have hts := atoms_spec (ws := WL_slip) B.pre
  have hbig : ∀ w ∈ BIG, w.before [.ref qx, .int p0, .int p1, .int p2, .ref qo].toArray s = true := fun w hw => hts w (List.mem_cons_of_mem _ hw)
  have hown : s.vm.findClass RL = some m.cls := findClass_of_methodNamed B.named
  have hlocks := B.notSynchronized
  have htab := vx_table (x := yL_slip) B (hts _ List.mem_cons_self)
  subst hsz
  have met := metX s.heap.size
  have hD := hD0.self (sz := s.heap.size)
  generalize hAe : va_A wp s.heap.size = A at hD hE met ⊢
  have hS : va_S A s.heap s.heap [] := va_S.rf
  have hlv := lv_entry ([.ref qx, .int p0, .int p1, .int p2, .ref qo]) (n := 6) (Nat.le_of_ble_eq_true rfl)
  rw [lg_entry_eq]
  generalize (lg_sl ([.ref qx, .int p0, .int p1, .int p2, .ref qo]) ++ List.replicate (6 - (lg_sl ([.ref qx, .int p0, .int p1, .int p2, .ref qo])).length) Slot.unset).toArray = ls at hlv ⊢
  have hlv : lv_has ls 6 [(0, .ref qx), (1, .int p0), (2, .int p1), (3, .int p2), (4, .ref qo)] := hlv
  refine lv_aload hx9 hb eL_slip_0 (lv_at hlv 4 rfl) ?_
  refine lv_iconst (v := 0) hx9 hb eL_slip_2 (by decide) ?_
  refine lv_aload_n hx9 hb eL_slip_3 rfl (lv_at hlv 0 rfl) ?_
  refine lv_iload_n hx9 hb eL_slip_4 rfl (lv_at hlv 1 rfl) ?_
  refine lv_iload_n hx9 hb eL_slip_5 rfl (lv_at hlv 2 rfl) ?_
  refine lv_iload_n hx9 hb eL_slip_6 rfl (lv_at hlv 3 rfl) ?_
  have cB : CallB (rmR (60, 64, 64, 3000)) s [.ref qx, .int p0, .int p1, .int p2, .ref qo].toArray RL 18 (mY M') (mC M') (mL M') (mR M') (mW M') (rmR rm) rm.2.1 rm.2.2.1 3 := callB_of 3 hbig (mW_good mok) rfl rfl rfl (hbig _ mok.2.2.1) (hbig _ (by rw [hy]; exact h_at_ok (pos := 1290) (by decide +kernel))) ⟨mok.2.2.2.1.1, mok.2.2.2.1.2, by rw [← hn9]; exact mok.2.2.2.2.1⟩ ⟨hr1, hr2⟩
  have hkd : f_kd T2 (hpF 3).2.1 (bP 0 true none) = some (0, true, none, .inr (10, [.inr (.inr (1, true)), .inr (.inr (3, true)), .inr (.inr (44, true)), .inr (.inr (85, true)), .inr (.inr (7, true)), .inr (.inr (9, true)), .inr (.inr (15, true)), .inr (.inr (18, true)), .inr (.inr (20, true)), .inr (.inr (21, true)), .inr (.inr (22, true)), .inr (.inr (23, true)), .inl (0, 96), .inr (.inr (59, false)), .inl (0, 4), .inl ((-2147483648), 2147483647), .inl ((-2147483648), 2147483647), .inl ((-2147483648), 2147483647)])) := rfl
  obtain ⟨q', i', e', e1, k1, k2, k3, k4, k5⟩ := kd_ok hF hqx hkd
  cases e1
  obtain ⟨fvs, rfl, -⟩ := k3.1
  have hrecv := va_recv hK.1 hP (show vwCl[10]? = some (RX11, TX11, 18) from rfl) k2
  have hcy : (mY M').cls = RX11 := by rw [hy]; rfl
  obtain ⟨j1, j2, -⟩ := mok.2.2.2.2.2.2.1 hk1
  have fin : ∀ (AK : List (Nat × Nat)) (ks1 : List Nat) (wp1 : va_W), hpool T2 cy AK ks1 wp1 → (∃ m2, AK = I.2.1 ++ m2) → HS T2 FPX cy (I.1, AK, I.2.2) ks1 wp1 (hpF 3) ∧ hxt I (I.1, AK, I.2.2) := fun AK ks1 wp1 h1 h2 => ⟨⟨h1, hF.2.1, (fun f hf => (by cases hf)), (fun f hf => (by cases hf))⟩, ⟨[], by simp⟩, h2, rfl⟩
  have run := vx_runV (C := RX11) (As := [.int p0, .int p1, .int p2]) (rest := [.int 0, .ref qo]) (g := F0 m 7 ls ([.int p2, .int p1, .int p0] ++ .ref qx :: [.int 0, .ref qo])) (p := p) (e := e) (below := below) (meth := meth) (H := s.heap) (locs := []) (cells := 0) (slots := 0) ⟨hx9, hb, hml, hown, hbig⟩ met ⟨cB, hbig _ j1, by rw [← hcy]; exact hbig _ j2⟩ ⟨pj2_blind EWX_ok, hrecv, fun U hU hW9 => ⟨rfl, by rw [hU], by rw [hU]; exact hP, KK.warm hW9 hK, hD0, by rw [hAe]; exact EWX_ok.1 _ A _ s U [] s.heap hE hW9 hU hS (fun _ h => h)⟩⟩ rfl rfl hlv.1 rfl (lv_room (Nat.le_of_ble_eq_true rfl)) eL_slip_7 ⟨by show 0 + rm.2.1 ≤ 64; omega, by show 0 + rm.2.2.1 ≤ 64; omega⟩
  rw [hret] at run
  refine vx_calli (A0 := A) (H0 := s.heap) (a := (Value.ref qx :: [.int p0, .int p1, .int p2]).toArray) run hS (fun q _ h => h) (fun q h => h) (fun q _ h => h) ?_ ?_
  · intro E9 ce q9 u t H1 locs1 ht hvm hpx hBX hz hk hS1 hcell hcv hcl
    obtain ⟨hE9, g1, g2⟩ := hBX
    subst hE9
    obtain ⟨u1, u2, u3⟩ := hpx
    obtain ⟨f1, f2⟩ := fin u.1 u.2.1 u.2.2 u1 u2
    have hcast : (Cond.castable xNS xNS).before [.ref qx, .int p0, .int p1, .int p2, .ref qo].toArray s = true := va_Nw.use rfl (hE.2.2.2.1 _ (by decide +kernel))
    refine vx_catch hown [] ⟨0, 12, 15, 13⟩ [] (by rw [htab]; rfl) (fun z hz => by cases hz) (by decide) (by decide) (hbig _ (h_at_ok (w := .classLink RL 13 xNS) (pos := 1205) (by decide +kernel))) hcast hcell hcv hcl ?_
    refine lv_astore (lv' := [(5, .ref q9), (0, .ref qx), (1, .int p0), (2, .int p1), (3, .int p2), (4, .ref qo)]) hx9 hb eL_slip_15 hlv (by decide) rfl (fun ls hl2 => ?_)
    refine lv_iconst (v := 1) hx9 hb eL_slip_17 (by decide) ?_
    refine W.widen (k := 64) (n := 64) (by omega) (by omega) ?_
    exact W.iret hx9 hb hr (fun t2 ht2 hW2 => ⟨⟨1, ((I.1, u.1, I.2.2), u.2.1, u.2.2, (some (bI 1), hpF 3)), rfl, ⟨⟨List.mem_cons_self, f2, f1, hp_wr u3 (fun w hw => by cases hw)⟩, bI 1, rfl, ⟨1, rfl, rfl⟩⟩, ⟨by rw [ht2, ← ht]; exact g1, g2⟩⟩, hS1.F ht2⟩) hS1.2.2 eL_slip_18
  · intro r u t H1 locs1 ht hvm hw hB hz hk hS1
    obtain ⟨⟨u1, u2, u3, u4⟩, -⟩ := hw
    obtain ⟨f1, f2⟩ := fin u.1.2.1 u.2.1 u.2.2.1 u3.1 u2.2.1
    refine lv_i2l hx9 hb eL_slip_10 rfl ?_
    have hkd2 : f_kd T2 (hpF 3).2.1 (bP 24 true none) = some (24, true, none, .inl (3, 1, [(1, .inr (.inl (lMin, lMax)))])) := rfl
    obtain ⟨q2, i2, e2, ee, m1, m2, m3, m4, m5⟩ := kd_ok f1 (hqo.xt f2) hkd2
    cases ee
    have hbo : va_P D vwCl u.2.2.1 t.heap ∧ va_D A u.2.2.1 := hB
    refine b_ast (x := [(1, .inr (.inl (lMin, lMax)))]) (z := 0) (n := 1) (t := 3) (D := D) (cy := cy) (ww := u.2.2.1) (A := A) (H0 := s.heap) hx9 hb hK (by rw [← ht]; exact hbo.1) hbo.2 hS1 m2 m3.1 (by omega) rfl (by omega) (by omega) (Or.inl (Or.inr (Or.inr (Or.inr ⟨rfl, _, rfl⟩)))) rfl eL_slip_11 (fun e1 s1 s2 s3 H2 locs2 w1 w2 w3 => ?_)
    refine lv_goto hx9 hb eL_slip_12 (tgt := 19) (by decide) ?_
    refine lv_iconst (v := 0) hx9 hb eL_slip_19 (by decide) ?_
    have hty1 : ktyped cy u.1.2.1 (.inl (3, 1, [(1, .inr (.inl (lMin, lMax)))])) e1 := ktyped_ast m3 s1 s2 s3 (fun t' h9 => by
      cases h9
      refine ⟨_, rfl, ?_, ?_⟩
      · rw [en_wide]; have := Int32.le_toInt r; show (-9223372036854775808 : Int) ≤ _; omega
      · rw [en_wide]; have := Int32.toInt_lt r; show _ ≤ (9223372036854775807 : Int); omega)
    obtain ⟨f3, -⟩ := fin u.1.2.1 u.2.1 (u.2.2.1.set i2 (qo, e1)) (hpool_set f1.1 m1 m2 m4 hty1) u2.2.1
    have hun : Unch hpW ks wp u.2.1 (u.2.2.1.set i2 (qo, e1)) := (hp_wr u4 (fun w hw => by cases hw)).set m1 m2 s3 ⟨(24, 0, 0), List.mem_cons_self, rfl, Nat.le_refl _, Nat.le_refl _⟩
    refine W.widen (k := 64) (n := 64) (by omega) (by omega) ?_
    exact W.iret hx9 hb hr (fun t2 ht2 hW2 => ⟨⟨0, ((I.1, u.1.2.1, I.2.2), u.2.1, u.2.2.1.set i2 (qo, e1), (some (bI 0), hpF 3)), rfl, ⟨⟨List.mem_cons_of_mem _ List.mem_cons_self, f2, f3, hun⟩, bI 0, rfl, ⟨0, rfl, rfl⟩⟩, ⟨by rw [ht2]; exact w1, w2⟩⟩, w3.F ht2⟩) w3.2.2 eL_slip_20
