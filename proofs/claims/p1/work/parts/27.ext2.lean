def mt_X11_thing : MT := (yX11_thing, cX11_thing, 3, some .int, (0, 1, 2, 10), (8, 4, 32, 400), [(0, 0, .aload_n 0, 1), (1, 2, .getfield 33, 3), (4, 0, .iconst 2, 1), (5, 0, .iload_n 1, 1), (6, 4, .invokevirtual 142, 3), (9, 1, .ifCond .ne 13, 3), (12, 16, .new 146, 3)])
theorem td_X11_thing : d_chk mt_X11_thing = true := by decide +kernel
theorem tm_X11_thing : m_chk mt_X11_thing (1209, 117, 1207, 1208) = true := by decide +kernel
theorem eL_thing_0 : decode cL_thing 0 = .ok (.aload_n 3, 1) := by decide +kernel
theorem eL_thing_1 : decode cL_thing 1 = .ok (.iconst 0, 1) := by decide +kernel
theorem eL_thing_2 : decode cL_thing 2 = .ok (.aload_n 0, 1) := by decide +kernel
theorem eL_thing_3 : decode cL_thing 3 = .ok (.iload_n 1, 1) := by decide +kernel
theorem eL_thing_4 : decode cL_thing 4 = .ok (.iload_n 2, 1) := by decide +kernel
theorem eL_thing_5 : decode cL_thing 5 = .ok (.invokevirtual 7, 3) := by decide +kernel
theorem eL_thing_8 : decode cL_thing 8 = .ok (.i2l, 1) := by decide +kernel
theorem eL_thing_9 : decode cL_thing 9 = .ok (.lastore, 1) := by decide +kernel
theorem eL_thing_10 : decode cL_thing 10 = .ok (.goto 7, 3) := by decide +kernel
theorem eL_thing_13 : decode cL_thing 13 = .ok (.astore 4, 2) := by decide +kernel
theorem eL_thing_15 : decode cL_thing 15 = .ok (.iconst 1, 1) := by decide +kernel
theorem eL_thing_16 : decode cL_thing 16 = .ok (.ireturn, 1) := by decide +kernel
theorem eL_thing_17 : decode cL_thing 17 = .ok (.iconst 0, 1) := by decide +kernel
theorem eL_thing_18 : decode cL_thing 18 = .ok (.ireturn, 1) := by decide +kernel
abbrev WL_thing : List Cond := Cond.codeWith yL_thing cL_thing 5 (some .int) [(0, 10, 13, 13)] :: BIG
abbrev mt_L_thing : MT := (yL_thing, cL_thing, 5, some .int, (0, 0, 4, 99), (10, 64, 64, 500), [])
theorem xs_thing {C : List AC} {cuts : List ST} (h : ∀ S ∈ cuts, ∃ (lo : List (Nat × AV)) (E : EV) (nc ns : Nat), (S = (12, lo, [], E, C, nc, ns)) ∧ nc + 1 ≤ 4 ∧ ns + 6 ≤ 32) : ∀ S ∈ cuts, XSite mt_X11_thing C S := by
  intro S hS
  obtain ⟨lo, E, nc, ns, h1, h2, h3⟩ := h S hS
  rcases h1 with h1
  · exact ⟨12, lo, E, nc, ns, 148, _, h1, List.mem_cons_self, by decide +kernel, by decide +kernel, Or.inl ⟨by decide +kernel, by decide +kernel, by decide +kernel⟩, h2, h3⟩
theorem eLaw_362 : decode code 362 = .ok (.invokestatic 45, 3) := by decide +kernel
set_option maxHeartbeats 4000000 in
theorem lx_thing {l : Launch} {D : va_G} {cy : Nat → ClassId} {ν : Nat → Int} {b : Nat} {pool : va_W} {E : EV} {C : List AC} {ws : va_W} {ix qx qo fuel : Nat} {fs : List AV} {p0 p1 : Int32} {cuts : List ST} (sz : Nat) (hl : l.stackTraces = false) (hqx : (alw ws)[ix]? = some qx) (hcx : C[ix]? = some (.inr (10, fs))) (hE : genv ν E) (hW : gW ν b cy C ws) (hg0 : gv ν (alw ws) b (aV 1 0) (.int p0)) (hg1 : gv ν (alw ws) b (aV 2 0) (.int p1))
    (hrun : e_run PRG RTB cuts fuel true false mt_X11_thing (mT mt_X11_thing) (0, e_args 0 [aR ix, aV 1 0, aV 2 0], [], E, C, 0, 0) = some []) (hsite : ∀ S ∈ cuts, XSite mt_X11_thing C S) :
    Met l yL_thing WL_thing (mRm mt_L_thing) (PX D cy pool ws [.ref qx, .int p0, .int p1, .ref qo] sz) (QJ D cy ν b pool (alw ws) [(some (aI 1), E, C)] (va_A (pool ++ ws) sz) (some .int)) 64 64 (va_A (pool ++ ws) sz) := by
  refine va_MetW (cc := cL_thing) (maxL := 5) (ret := some .int) (hh := [(0, 10, 13, 13)]) (by decide +kernel) rfl ?_
  intro p e s m args below meth c s₁ B hml hv
  obtain ⟨rfl, hsz, hP, hK, hD0, hX⟩ := hv
  have hx9 := B.exec
  have hb := B.bytes
  have hr := B.returns
  have hts := atoms_spec (ws := WL_thing) B.pre
  have hbig : ∀ w ∈ BIG, w.before [.ref qx, .int p0, .int p1, .ref qo].toArray s = true := fun w hw => hts w (List.mem_cons_of_mem _ hw)
  have hown : s.vm.findClass RL = some m.cls := findClass_of_methodNamed B.named
  have hlocks := B.notSynchronized
  have htab := vx_table (x := yL_thing) B (hts _ List.mem_cons_self)
  subst hsz
  have met := x_met (l := l) (D := D) (cy := cy) (ν := ν) (b := b) (pool := pool) (M := mt_X11_thing) (as := [aR ix, aV 1 0, aV 2 0]) (vs := [.ref qx, .int p0, .int p1]) (E := E) (C := C) (ws := ws) (cuts := cuts) (fuel := fuel) s.heap.size hl (by decide +kernel) rfl (m_chk_ok tm_X11_thing td_X11_thing).1 (m_chk_ok tm_X11_thing td_X11_thing).2.1 (m_chk_ok tm_X11_thing td_X11_thing).2.2 ⟨⟨qx, hqx, rfl⟩, hg0, hg1, trivial⟩ hE hW (Nat.le_of_ble_eq_true rfl) (by decide) (by decide) hrun hsite
  have mok := (m_chk_ok tm_X11_thing td_X11_thing).1
  have hD := hD0.self (sz := s.heap.size)
  generalize hAe : va_A (pool ++ ws) s.heap.size = A at hD hX met ⊢
  have hS : va_S A s.heap s.heap [] := va_S.rf
  have hlv := lv_entry ([.ref qx, .int p0, .int p1, .ref qo]) (n := 5) (Nat.le_of_ble_eq_true rfl)
  rw [lg_entry_eq]
  generalize (lg_sl ([.ref qx, .int p0, .int p1, .ref qo]) ++ List.replicate (5 - (lg_sl ([.ref qx, .int p0, .int p1, .ref qo])).length) Slot.unset).toArray = ls at hlv ⊢
  have hlv : lv_has ls 5 [(0, .ref qx), (1, .int p0), (2, .int p1), (3, .ref qo)] := hlv
  refine lv_aload_n hx9 hb eL_thing_0 rfl (lv_at hlv 3 rfl) ?_
  refine lv_iconst (v := 0) hx9 hb eL_thing_1 (by decide) ?_
  refine lv_aload_n hx9 hb eL_thing_2 rfl (lv_at hlv 0 rfl) ?_
  refine lv_iload_n hx9 hb eL_thing_3 rfl (lv_at hlv 1 rfl) ?_
  refine lv_iload_n hx9 hb eL_thing_4 rfl (lv_at hlv 2 rfl) ?_
  have cB : CallB (mRm mt_L_thing) s [.ref qx, .int p0, .int p1, .ref qo].toArray RL 7 (mY mt_X11_thing) (mC mt_X11_thing) (mL mt_X11_thing) (mR mt_X11_thing) (mW mt_X11_thing) (mRm mt_X11_thing) 4 32 2 := callB_of 2 hbig (mW_good mok) rfl rfl rfl (hbig _ mok.2.2.1) (hbig _ (h_at_ok (pos := 1206) (by decide +kernel))) ⟨mok.2.2.2.1.1, mok.2.2.2.1.2, mok.2.2.2.2.1⟩ ⟨by decide, by decide⟩
  obtain ⟨q', e', h1, h2, fvs, rfl, h3⟩ := gW_at hW hcx
  rw [hqx] at h2
  cases h2
  have hrecv := va_recv (q0 := pool.length + ix) hK.1 hP (show vwCl[10]? = some (RX11, TX11, 18) from rfl) (pw_at h1)
  refine vx_calli (A0 := A) (H0 := s.heap) (vx_runV (C := RX11) (As := [.int p0, .int p1]) (rest := [.int 0, .ref qo]) ⟨hx9, hb, hml, hown, hbig⟩ met ⟨cB, hbig _ (mok.2.2.2.2.2.2.1 rfl).1, hbig _ (mok.2.2.2.2.2.2.1 rfl).2.1⟩ ⟨px_blind, hrecv, fun U hU hW9 => ⟨rfl, by rw [hU], by rw [hU]; exact hP, KK.warm hW9 hK, hD0, by rw [hAe]; exact XK.warm hX hW9 hU hS (fun _ h => h)⟩⟩ rfl rfl hlv.1 rfl (lv_room (Nat.le_of_ble_eq_true rfl)) eL_thing_5 ⟨by decide, by decide⟩) hS (fun q _ h => h) (fun q h => h) (fun q _ h => h) ?_ ?_
  · intro E9 ce q9 u t H1 locs1 ht hvm hpx hBX hz hk hS1 hcell hcv hcl
    obtain ⟨hE9, g1, g2⟩ := hBX
    subst hE9
    have hcast : (Cond.castable xNS xNS).before [.ref qx, .int p0, .int p1, .ref qo].toArray s = true := va_Nw.use rfl (hX.1 _ (by decide +kernel))
    refine vx_catch hown [] ⟨0, 10, 13, 13⟩ [] (by rw [htab]; rfl) (fun z hz => by cases hz) (by decide) (by decide) (hbig _ (h_at_ok (w := .classLink RL 13 xNS) (pos := 1205) (by decide +kernel))) hcast hcell hcv hcl ?_
    refine lv_astore (lv' := [(4, .ref q9), (0, .ref qx), (1, .int p0), (2, .int p1), (3, .ref qo)]) hx9 hb eL_thing_13 hlv (by decide) rfl (fun ls hl2 => ?_)
    refine lv_iconst (v := 1) hx9 hb eL_thing_15 (by decide) ?_
    refine W.widen (k := 64) (n := 64) (by decide) (by decide) ?_
    exact W.iret hx9 hb hr (fun t2 ht2 hW2 => ⟨⟨1, (u, (some (aI 1), E, C)), rfl, ⟨⟨List.mem_cons_self, hE, hpx.1, hpx.2⟩, aI 1, rfl, ⟨1, rfl, by decide, by decide⟩⟩, ⟨by rw [ht2, ← ht]; exact g1, g2⟩⟩, hS1.F ht2⟩) hS1.2.2 eL_thing_16
  · intro r u t H1 locs1 ht hvm hw
    exact hw.elim
set_option maxHeartbeats 4000000 in
theorem sx_thing {l : Launch} {D : va_G} {cy : Nat → ClassId} {ν : Nat → Int} {b : Nat} {pool : va_W} {al0 : List Nat} {p : Program} {e : Env} {s : State} {m : MethodId} {args : Array Value} {below : List Frame} {meth : Method} {c : Code} {A : Nat → Prop} {Q : State → Prop} {lo : List (Nat × AV)} {E : EV} {C : List AC} {nc ns ix io fuel : Nat} {fs : List AV} {cuts : List ST}
    (X : Ctx OWN D cy ν b mt_L_law RL p (mRm mt_L_law) s m args meth c A true) (hl : l.stackTraces = false) (hXK : XK A s) (hcx : C[ix]? = some (.inr (10, fs)))
    (hrun : e_run PRG RTB cuts fuel true false mt_X11_thing (mT mt_X11_thing) (0, e_args 0 [aR ix, aV 1 0, aV 2 0], [], E, C, 0, 0) = some []) (hsite : ∀ S ∈ cuts, XSite mt_X11_thing C S) (hnc : nc + 64 ≤ 600002) (hns : ns + 64 ≤ 7302232)
    (k : Safe D cy ν b pool al0 mt_L_law p l e (mRm mt_L_law) s m args below meth c A Q (362 + 3, lo, [aI 1], E, C, nc + 64, ns + 64)) : Safe D cy ν b pool al0 mt_L_law p l e (mRm mt_L_law) s m args below meth c A Q (362, lo, [aR io, aV 2 0, aV 1 0, aR ix], E, C, nc, ns) := by
  intro H locs ls lv vs ws a1 a2 a3 a4 a5 a6
  simp only at a2 a3 a4 a5 ⊢
  obtain ⟨v0, vs0, rfl, g0, a3⟩ := gvs_cons a3
  obtain ⟨wp1, vsp1, rfl, hp1, a3⟩ := gvs_cons a3
  obtain ⟨wp0, vsp0, rfl, hp0, a3⟩ := gvs_cons a3
  obtain ⟨v9, vs9, rfl, g9, a3⟩ := gvs_cons a3
  have hn := gvs_nil a3
  subst hn
  obtain ⟨qo, hqo, rfl⟩ := g0
  obtain ⟨qx, hqx, rfl⟩ := g9
  obtain ⟨p0, rfl⟩ := gv_isI hp0 rfl
  obtain ⟨p1, rfl⟩ := gv_isI hp1 rfl
  have hbig : ∀ w ∈ BIG, w.before args s = true := X.2.2.2.2.2.1
  have hF : ∀ q, va_A (pool ++ ws) H.size q → A q := by
    intro q hq
    rcases hq with ⟨kq, eq, h1⟩ | h1
    · exact a5.2.2.1.2 _ _ h1
    · exact X.2.2.2.2.2.2.2.1 q (Nat.le_trans a5.2.2.2.1 h1)
  have met := lx_thing (l := l) (D := D) (pool := pool) (qo := qo) (p0 := p0) (p1 := p1) H.size hl hqx hcx a4 a5.1 hp0 hp1 hrun hsite
  have hgw : GoodIn BIG WL_thing := by
    intro w hw
    rcases List.mem_cons.mp hw with rfl | hw
    · exact ⟨h_at_ok (pos := 1204) (by decide +kernel), good_of_word (by decide +kernel)⟩
    · exact ⟨hw, good_of_word (big_good _ hw)⟩
  have cw : vx_CSW (mRm mt_L_law) s args RL 45 yL_thing cL_thing 5 (some .int) [(0, 10, 13, 13)] WL_thing (mRm mt_L_thing) 64 64 4 := by
    refine ⟨⟨rfl, rfl, by decide, by decide, pay_in hbig hgw, List.mem_cons_self⟩, hbig _ (hgw _ List.mem_cons_self).1, hbig _ (h_at_ok (pos := 116) (by decide +kernel)), ⟨by decide +kernel, by decide +kernel⟩, fun sig hs => ?_, hbig _ (h_at_ok (pos := 1202) (by decide +kernel)), hbig _ (h_at_ok (pos := 1203) (by decide +kernel))⟩
    have h2 : (parseMethodDescriptor yL_thing.desc).map (fun d => d.parameters.length) = some 4 := by decide +kernel
    rw [hs] at h2
    exact (Option.some.inj h2).symm
  have hd : decode (mC mt_L_law) 362 = .ok (.invokestatic 45, 3) := eLaw_362
  refine s_after (M' := mt_L_thing) (rest := []) (E := E) X (Or.inr (Or.inl rfl)) (vx_runSW (As := [.ref qx, .int p0, .int p1, .ref qo]) (rest := []) ⟨X.1, X.2.1, X.2.2.1, X.2.2.2.2.1, hbig⟩ met cw ⟨px_blind, fun U hU hW => ⟨rfl, by rw [hU], by rw [hU]; exact a5.2.1, KK.warm hW X.2.2.2.2.2.2.1, a5.2.2.1.weaken (fun _ _ _ _ => trivial), XK.warm hXK hW hU a5.2.2.2 hF⟩⟩ rfl rfl a1.1 rfl (lv_room (by decide)) hd ⟨hnc, hns⟩) a1 a2 trivial a5 a6 (fun o ho => ?_)
  rcases List.mem_cons.mp ho with rfl | ho
  · exact k
  · cases ho
def mt_X11_person : MT := (yX11_person, cX11_person, 3, some .int, (0, 1, 2, 10), (8, 4, 32, 400), [(0, 0, .aload_n 0, 1), (1, 2, .getfield 33, 3), (4, 0, .iconst 3, 1), (5, 0, .iload_n 1, 1), (6, 4, .invokevirtual 142, 3), (9, 1, .ifCond .ne 13, 3), (12, 16, .new 146, 3)])
theorem td_X11_person : d_chk mt_X11_person = true := by decide +kernel
theorem tm_X11_person : m_chk mt_X11_person (1282, 117, 1280, 1281) = true := by decide +kernel
theorem eL_person_0 : decode cL_person 0 = .ok (.aload_n 3, 1) := by decide +kernel
theorem eL_person_1 : decode cL_person 1 = .ok (.iconst 0, 1) := by decide +kernel
theorem eL_person_2 : decode cL_person 2 = .ok (.aload_n 0, 1) := by decide +kernel
theorem eL_person_3 : decode cL_person 3 = .ok (.iload_n 1, 1) := by decide +kernel
theorem eL_person_4 : decode cL_person 4 = .ok (.iload_n 2, 1) := by decide +kernel
theorem eL_person_5 : decode cL_person 5 = .ok (.invokevirtual 15, 3) := by decide +kernel
theorem eL_person_8 : decode cL_person 8 = .ok (.i2l, 1) := by decide +kernel
theorem eL_person_9 : decode cL_person 9 = .ok (.lastore, 1) := by decide +kernel
theorem eL_person_10 : decode cL_person 10 = .ok (.goto 7, 3) := by decide +kernel
theorem eL_person_13 : decode cL_person 13 = .ok (.astore 4, 2) := by decide +kernel
theorem eL_person_15 : decode cL_person 15 = .ok (.iconst 1, 1) := by decide +kernel
theorem eL_person_16 : decode cL_person 16 = .ok (.ireturn, 1) := by decide +kernel
theorem eL_person_17 : decode cL_person 17 = .ok (.iconst 0, 1) := by decide +kernel
theorem eL_person_18 : decode cL_person 18 = .ok (.ireturn, 1) := by decide +kernel
abbrev WL_person : List Cond := Cond.codeWith yL_person cL_person 5 (some .int) [(0, 10, 13, 13)] :: BIG
abbrev mt_L_person : MT := (yL_person, cL_person, 5, some .int, (0, 0, 4, 99), (10, 64, 64, 500), [])
theorem xs_person {C : List AC} {cuts : List ST} (h : ∀ S ∈ cuts, ∃ (lo : List (Nat × AV)) (E : EV) (nc ns : Nat), (S = (12, lo, [], E, C, nc, ns)) ∧ nc + 1 ≤ 4 ∧ ns + 6 ≤ 32) : ∀ S ∈ cuts, XSite mt_X11_person C S := by
  intro S hS
  obtain ⟨lo, E, nc, ns, h1, h2, h3⟩ := h S hS
  rcases h1 with h1
  · exact ⟨12, lo, E, nc, ns, 169, _, h1, List.mem_cons_of_mem _ List.mem_cons_self, by decide +kernel, by decide +kernel, Or.inl ⟨by decide +kernel, by decide +kernel, by decide +kernel⟩, h2, h3⟩
theorem eLaw_430 : decode code 430 = .ok (.invokestatic 54, 3) := by decide +kernel
set_option maxHeartbeats 4000000 in
theorem lx_person {l : Launch} {D : va_G} {cy : Nat → ClassId} {ν : Nat → Int} {b : Nat} {pool : va_W} {E : EV} {C : List AC} {ws : va_W} {ix qx qo fuel : Nat} {fs : List AV} {p0 p1 : Int32} {cuts : List ST} (sz : Nat) (hl : l.stackTraces = false) (hqx : (alw ws)[ix]? = some qx) (hcx : C[ix]? = some (.inr (10, fs))) (hE : genv ν E) (hW : gW ν b cy C ws) (hg0 : gv ν (alw ws) b (aV 1 0) (.int p0)) (hg1 : gv ν (alw ws) b (aV 2 0) (.int p1))
    (hrun : e_run PRG RTB cuts fuel true false mt_X11_person (mT mt_X11_person) (0, e_args 0 [aR ix, aV 1 0, aV 2 0], [], E, C, 0, 0) = some []) (hsite : ∀ S ∈ cuts, XSite mt_X11_person C S) :
    Met l yL_person WL_person (mRm mt_L_person) (PX D cy pool ws [.ref qx, .int p0, .int p1, .ref qo] sz) (QJ D cy ν b pool (alw ws) [(some (aI 1), E, C)] (va_A (pool ++ ws) sz) (some .int)) 64 64 (va_A (pool ++ ws) sz) := by
  refine va_MetW (cc := cL_person) (maxL := 5) (ret := some .int) (hh := [(0, 10, 13, 13)]) (by decide +kernel) rfl ?_
  intro p e s m args below meth c s₁ B hml hv
  obtain ⟨rfl, hsz, hP, hK, hD0, hX⟩ := hv
  have hx9 := B.exec
  have hb := B.bytes
  have hr := B.returns
  have hts := atoms_spec (ws := WL_person) B.pre
  have hbig : ∀ w ∈ BIG, w.before [.ref qx, .int p0, .int p1, .ref qo].toArray s = true := fun w hw => hts w (List.mem_cons_of_mem _ hw)
  have hown : s.vm.findClass RL = some m.cls := findClass_of_methodNamed B.named
  have hlocks := B.notSynchronized
  have htab := vx_table (x := yL_person) B (hts _ List.mem_cons_self)
  subst hsz
  have met := x_met (l := l) (D := D) (cy := cy) (ν := ν) (b := b) (pool := pool) (M := mt_X11_person) (as := [aR ix, aV 1 0, aV 2 0]) (vs := [.ref qx, .int p0, .int p1]) (E := E) (C := C) (ws := ws) (cuts := cuts) (fuel := fuel) s.heap.size hl (by decide +kernel) rfl (m_chk_ok tm_X11_person td_X11_person).1 (m_chk_ok tm_X11_person td_X11_person).2.1 (m_chk_ok tm_X11_person td_X11_person).2.2 ⟨⟨qx, hqx, rfl⟩, hg0, hg1, trivial⟩ hE hW (Nat.le_of_ble_eq_true rfl) (by decide) (by decide) hrun hsite
  have mok := (m_chk_ok tm_X11_person td_X11_person).1
  have hD := hD0.self (sz := s.heap.size)
  generalize hAe : va_A (pool ++ ws) s.heap.size = A at hD hX met ⊢
  have hS : va_S A s.heap s.heap [] := va_S.rf
  have hlv := lv_entry ([.ref qx, .int p0, .int p1, .ref qo]) (n := 5) (Nat.le_of_ble_eq_true rfl)
  rw [lg_entry_eq]
  generalize (lg_sl ([.ref qx, .int p0, .int p1, .ref qo]) ++ List.replicate (5 - (lg_sl ([.ref qx, .int p0, .int p1, .ref qo])).length) Slot.unset).toArray = ls at hlv ⊢
  have hlv : lv_has ls 5 [(0, .ref qx), (1, .int p0), (2, .int p1), (3, .ref qo)] := hlv
  refine lv_aload_n hx9 hb eL_person_0 rfl (lv_at hlv 3 rfl) ?_
  refine lv_iconst (v := 0) hx9 hb eL_person_1 (by decide) ?_
  refine lv_aload_n hx9 hb eL_person_2 rfl (lv_at hlv 0 rfl) ?_
  refine lv_iload_n hx9 hb eL_person_3 rfl (lv_at hlv 1 rfl) ?_
  refine lv_iload_n hx9 hb eL_person_4 rfl (lv_at hlv 2 rfl) ?_
  have cB : CallB (mRm mt_L_person) s [.ref qx, .int p0, .int p1, .ref qo].toArray RL 15 (mY mt_X11_person) (mC mt_X11_person) (mL mt_X11_person) (mR mt_X11_person) (mW mt_X11_person) (mRm mt_X11_person) 4 32 2 := callB_of 2 hbig (mW_good mok) rfl rfl rfl (hbig _ mok.2.2.1) (hbig _ (h_at_ok (pos := 1279) (by decide +kernel))) ⟨mok.2.2.2.1.1, mok.2.2.2.1.2, mok.2.2.2.2.1⟩ ⟨by decide, by decide⟩
  obtain ⟨q', e', h1, h2, fvs, rfl, h3⟩ := gW_at hW hcx
  rw [hqx] at h2
  cases h2
  have hrecv := va_recv (q0 := pool.length + ix) hK.1 hP (show vwCl[10]? = some (RX11, TX11, 18) from rfl) (pw_at h1)
  refine vx_calli (A0 := A) (H0 := s.heap) (vx_runV (C := RX11) (As := [.int p0, .int p1]) (rest := [.int 0, .ref qo]) ⟨hx9, hb, hml, hown, hbig⟩ met ⟨cB, hbig _ (mok.2.2.2.2.2.2.1 rfl).1, hbig _ (mok.2.2.2.2.2.2.1 rfl).2.1⟩ ⟨px_blind, hrecv, fun U hU hW9 => ⟨rfl, by rw [hU], by rw [hU]; exact hP, KK.warm hW9 hK, hD0, by rw [hAe]; exact XK.warm hX hW9 hU hS (fun _ h => h)⟩⟩ rfl rfl hlv.1 rfl (lv_room (Nat.le_of_ble_eq_true rfl)) eL_person_5 ⟨by decide, by decide⟩) hS (fun q _ h => h) (fun q h => h) (fun q _ h => h) ?_ ?_
  · intro E9 ce q9 u t H1 locs1 ht hvm hpx hBX hz hk hS1 hcell hcv hcl
    obtain ⟨hE9, g1, g2⟩ := hBX
    subst hE9
    have hcast : (Cond.castable xNS xNS).before [.ref qx, .int p0, .int p1, .ref qo].toArray s = true := va_Nw.use rfl (hX.1 _ (by decide +kernel))
    refine vx_catch hown [] ⟨0, 10, 13, 13⟩ [] (by rw [htab]; rfl) (fun z hz => by cases hz) (by decide) (by decide) (hbig _ (h_at_ok (w := .classLink RL 13 xNS) (pos := 1205) (by decide +kernel))) hcast hcell hcv hcl ?_
    refine lv_astore (lv' := [(4, .ref q9), (0, .ref qx), (1, .int p0), (2, .int p1), (3, .ref qo)]) hx9 hb eL_person_13 hlv (by decide) rfl (fun ls hl2 => ?_)
    refine lv_iconst (v := 1) hx9 hb eL_person_15 (by decide) ?_
    refine W.widen (k := 64) (n := 64) (by decide) (by decide) ?_
    exact W.iret hx9 hb hr (fun t2 ht2 hW2 => ⟨⟨1, (u, (some (aI 1), E, C)), rfl, ⟨⟨List.mem_cons_self, hE, hpx.1, hpx.2⟩, aI 1, rfl, ⟨1, rfl, by decide, by decide⟩⟩, ⟨by rw [ht2, ← ht]; exact g1, g2⟩⟩, hS1.F ht2⟩) hS1.2.2 eL_person_16
  · intro r u t H1 locs1 ht hvm hw
    exact hw.elim
set_option maxHeartbeats 4000000 in
theorem sx_person {l : Launch} {D : va_G} {cy : Nat → ClassId} {ν : Nat → Int} {b : Nat} {pool : va_W} {al0 : List Nat} {p : Program} {e : Env} {s : State} {m : MethodId} {args : Array Value} {below : List Frame} {meth : Method} {c : Code} {A : Nat → Prop} {Q : State → Prop} {lo : List (Nat × AV)} {E : EV} {C : List AC} {nc ns ix io fuel : Nat} {fs : List AV} {cuts : List ST}
    (X : Ctx OWN D cy ν b mt_L_law RL p (mRm mt_L_law) s m args meth c A true) (hl : l.stackTraces = false) (hXK : XK A s) (hcx : C[ix]? = some (.inr (10, fs)))
    (hrun : e_run PRG RTB cuts fuel true false mt_X11_person (mT mt_X11_person) (0, e_args 0 [aR ix, aV 1 0, aV 2 0], [], E, C, 0, 0) = some []) (hsite : ∀ S ∈ cuts, XSite mt_X11_person C S) (hnc : nc + 64 ≤ 600002) (hns : ns + 64 ≤ 7302232)
    (k : Safe D cy ν b pool al0 mt_L_law p l e (mRm mt_L_law) s m args below meth c A Q (430 + 3, lo, [aI 1], E, C, nc + 64, ns + 64)) : Safe D cy ν b pool al0 mt_L_law p l e (mRm mt_L_law) s m args below meth c A Q (430, lo, [aR io, aV 2 0, aV 1 0, aR ix], E, C, nc, ns) := by
  intro H locs ls lv vs ws a1 a2 a3 a4 a5 a6
  simp only at a2 a3 a4 a5 ⊢
  obtain ⟨v0, vs0, rfl, g0, a3⟩ := gvs_cons a3
  obtain ⟨wp1, vsp1, rfl, hp1, a3⟩ := gvs_cons a3
  obtain ⟨wp0, vsp0, rfl, hp0, a3⟩ := gvs_cons a3
  obtain ⟨v9, vs9, rfl, g9, a3⟩ := gvs_cons a3
  have hn := gvs_nil a3
  subst hn
  obtain ⟨qo, hqo, rfl⟩ := g0
  obtain ⟨qx, hqx, rfl⟩ := g9
  obtain ⟨p0, rfl⟩ := gv_isI hp0 rfl
  obtain ⟨p1, rfl⟩ := gv_isI hp1 rfl
  have hbig : ∀ w ∈ BIG, w.before args s = true := X.2.2.2.2.2.1
  have hF : ∀ q, va_A (pool ++ ws) H.size q → A q := by
    intro q hq
    rcases hq with ⟨kq, eq, h1⟩ | h1
    · exact a5.2.2.1.2 _ _ h1
    · exact X.2.2.2.2.2.2.2.1 q (Nat.le_trans a5.2.2.2.1 h1)
  have met := lx_person (l := l) (D := D) (pool := pool) (qo := qo) (p0 := p0) (p1 := p1) H.size hl hqx hcx a4 a5.1 hp0 hp1 hrun hsite
  have hgw : GoodIn BIG WL_person := by
    intro w hw
    rcases List.mem_cons.mp hw with rfl | hw
    · exact ⟨h_at_ok (pos := 1278) (by decide +kernel), good_of_word (by decide +kernel)⟩
    · exact ⟨hw, good_of_word (big_good _ hw)⟩
  have cw : vx_CSW (mRm mt_L_law) s args RL 54 yL_person cL_person 5 (some .int) [(0, 10, 13, 13)] WL_person (mRm mt_L_person) 64 64 4 := by
    refine ⟨⟨rfl, rfl, by decide, by decide, pay_in hbig hgw, List.mem_cons_self⟩, hbig _ (hgw _ List.mem_cons_self).1, hbig _ (h_at_ok (pos := 116) (by decide +kernel)), ⟨by decide +kernel, by decide +kernel⟩, fun sig hs => ?_, hbig _ (h_at_ok (pos := 1276) (by decide +kernel)), hbig _ (h_at_ok (pos := 1277) (by decide +kernel))⟩
    have h2 : (parseMethodDescriptor yL_person.desc).map (fun d => d.parameters.length) = some 4 := by decide +kernel
    rw [hs] at h2
    exact (Option.some.inj h2).symm
  have hd : decode (mC mt_L_law) 430 = .ok (.invokestatic 54, 3) := eLaw_430
  refine s_after (M' := mt_L_person) (rest := []) (E := E) X (Or.inr (Or.inl rfl)) (vx_runSW (As := [.ref qx, .int p0, .int p1, .ref qo]) (rest := []) ⟨X.1, X.2.1, X.2.2.1, X.2.2.2.2.1, hbig⟩ met cw ⟨px_blind, fun U hU hW => ⟨rfl, by rw [hU], by rw [hU]; exact a5.2.1, KK.warm hW X.2.2.2.2.2.2.1, a5.2.2.1.weaken (fun _ _ _ _ => trivial), XK.warm hXK hW hU a5.2.2.2 hF⟩⟩ rfl rfl a1.1 rfl (lv_room (by decide)) hd ⟨hnc, hns⟩) a1 a2 trivial a5 a6 (fun o ho => ?_)
  rcases List.mem_cons.mp ho with rfl | ho
  · exact k
  · cases ho
def mt_X11_slip : MT := (yX11_slip, cX11_slip, 8, some .int, (0, 1, 3, 10), (8, 4, 32, 400), [(0, 0, .iload_n 3, 1), (1, 1, .ifCond .eq 19, 3), (4, 0, .iload_n 3, 1), (5, 0, .iconst 1, 1), (6, 1, .if_icmp .eq 14, 3), (9, 16, .new 146, 3), (20, 0, .aload_n 0, 1), (21, 2, .getfield 33, 3), (24, 0, .iconst 2, 1), (25, 0, .iload_n 1, 1), (26, 4, .invokevirtual 142, 3), (29, 1, .ifCond .eq 15, 3), (32, 0, .aload_n 0, 1), (33, 2, .getfield 33, 3), (36, 0, .iconst 3, 1), (37, 0, .iload_n 2, 1), (38, 4, .invokevirtual 142, 3), (41, 1, .ifCond .ne 14, 3), (44, 16, .new 146, 3)])
theorem td_X11_slip : d_chk mt_X11_slip = true := by decide +kernel
theorem tm_X11_slip : m_chk mt_X11_slip (1293, 117, 1291, 1292) = true := by decide +kernel
theorem eL_slip_0 : decode cL_slip 0 = .ok (.aload 4, 2) := by decide +kernel
theorem eL_slip_2 : decode cL_slip 2 = .ok (.iconst 0, 1) := by decide +kernel
theorem eL_slip_3 : decode cL_slip 3 = .ok (.aload_n 0, 1) := by decide +kernel
theorem eL_slip_4 : decode cL_slip 4 = .ok (.iload_n 1, 1) := by decide +kernel
theorem eL_slip_5 : decode cL_slip 5 = .ok (.iload_n 2, 1) := by decide +kernel
theorem eL_slip_6 : decode cL_slip 6 = .ok (.iload_n 3, 1) := by decide +kernel
theorem eL_slip_7 : decode cL_slip 7 = .ok (.invokevirtual 18, 3) := by decide +kernel
theorem eL_slip_10 : decode cL_slip 10 = .ok (.i2l, 1) := by decide +kernel
theorem eL_slip_11 : decode cL_slip 11 = .ok (.lastore, 1) := by decide +kernel
theorem eL_slip_12 : decode cL_slip 12 = .ok (.goto 7, 3) := by decide +kernel
theorem eL_slip_15 : decode cL_slip 15 = .ok (.astore 5, 2) := by decide +kernel
theorem eL_slip_17 : decode cL_slip 17 = .ok (.iconst 1, 1) := by decide +kernel
theorem eL_slip_18 : decode cL_slip 18 = .ok (.ireturn, 1) := by decide +kernel
theorem eL_slip_19 : decode cL_slip 19 = .ok (.iconst 0, 1) := by decide +kernel
theorem eL_slip_20 : decode cL_slip 20 = .ok (.ireturn, 1) := by decide +kernel
abbrev WL_slip : List Cond := Cond.codeWith yL_slip cL_slip 6 (some .int) [(0, 12, 15, 13)] :: BIG
abbrev mt_L_slip : MT := (yL_slip, cL_slip, 6, some .int, (0, 0, 5, 99), (10, 64, 64, 500), [])
theorem xs_slip {C : List AC} {cuts : List ST} (h : ∀ S ∈ cuts, ∃ (lo : List (Nat × AV)) (E : EV) (nc ns : Nat), (S = (9, lo, [], E, C, nc, ns) ∨ S = (44, lo, [], E, C, nc, ns)) ∧ nc + 1 ≤ 4 ∧ ns + 6 ≤ 32) : ∀ S ∈ cuts, XSite mt_X11_slip C S := by
  intro S hS
  obtain ⟨lo, E, nc, ns, h1, h2, h3⟩ := h S hS
  rcases h1 with h1 | h1
  · exact ⟨9, lo, E, nc, ns, 281, _, h1, List.mem_cons_of_mem _ (List.mem_cons_of_mem _ List.mem_cons_self), by decide +kernel, by decide +kernel, Or.inr ⟨by decide +kernel, by decide +kernel, by decide +kernel⟩, h2, h3⟩
  · exact ⟨44, lo, E, nc, ns, 283, _, h1, List.mem_cons_of_mem _ (List.mem_cons_of_mem _ (List.mem_cons_of_mem _ List.mem_cons_self)), by decide +kernel, by decide +kernel, Or.inr ⟨by decide +kernel, by decide +kernel, by decide +kernel⟩, h2, h3⟩
theorem eLaw_962 : decode code 962 = .ok (.invokestatic 114, 3) := by decide +kernel
set_option maxHeartbeats 4000000 in
theorem lx_slip {l : Launch} {D : va_G} {cy : Nat → ClassId} {ν : Nat → Int} {b : Nat} {pool : va_W} {E : EV} {C : List AC} {ws : va_W} {ix qx qo fuel : Nat} {fs : List AV} {p0 p1 p2 : Int32} {cuts : List ST} (sz : Nat) (hl : l.stackTraces = false) (hqx : (alw ws)[ix]? = some qx) (hcx : C[ix]? = some (.inr (10, fs))) (hE : genv ν E) (hW : gW ν b cy C ws) (hg0 : gv ν (alw ws) b (aV 1 0) (.int p0)) (hg1 : gv ν (alw ws) b (aV 2 0) (.int p1)) (hg2 : gv ν (alw ws) b (aV 3 0) (.int p2))
    (hrun : e_run PRG RTB cuts fuel true false mt_X11_slip (mT mt_X11_slip) (0, e_args 0 [aR ix, aV 1 0, aV 2 0, aV 3 0], [], E, C, 0, 0) = some []) (hsite : ∀ S ∈ cuts, XSite mt_X11_slip C S) :
    Met l yL_slip WL_slip (mRm mt_L_slip) (PX D cy pool ws [.ref qx, .int p0, .int p1, .int p2, .ref qo] sz) (QJ D cy ν b pool (alw ws) [(some (aI 1), E, C)] (va_A (pool ++ ws) sz) (some .int)) 64 64 (va_A (pool ++ ws) sz) := by
  refine va_MetW (cc := cL_slip) (maxL := 6) (ret := some .int) (hh := [(0, 12, 15, 13)]) (by decide +kernel) rfl ?_
  intro p e s m args below meth c s₁ B hml hv
  obtain ⟨rfl, hsz, hP, hK, hD0, hX⟩ := hv
  have hx9 := B.exec
  have hb := B.bytes
  have hr := B.returns
  have hts := atoms_spec (ws := WL_slip) B.pre
  have hbig : ∀ w ∈ BIG, w.before [.ref qx, .int p0, .int p1, .int p2, .ref qo].toArray s = true := fun w hw => hts w (List.mem_cons_of_mem _ hw)
  have hown : s.vm.findClass RL = some m.cls := findClass_of_methodNamed B.named
  have hlocks := B.notSynchronized
  have htab := vx_table (x := yL_slip) B (hts _ List.mem_cons_self)
  subst hsz
  have met := x_met (l := l) (D := D) (cy := cy) (ν := ν) (b := b) (pool := pool) (M := mt_X11_slip) (as := [aR ix, aV 1 0, aV 2 0, aV 3 0]) (vs := [.ref qx, .int p0, .int p1, .int p2]) (E := E) (C := C) (ws := ws) (cuts := cuts) (fuel := fuel) s.heap.size hl (by decide +kernel) rfl (m_chk_ok tm_X11_slip td_X11_slip).1 (m_chk_ok tm_X11_slip td_X11_slip).2.1 (m_chk_ok tm_X11_slip td_X11_slip).2.2 ⟨⟨qx, hqx, rfl⟩, hg0, hg1, hg2, trivial⟩ hE hW (Nat.le_of_ble_eq_true rfl) (by decide) (by decide) hrun hsite
  have mok := (m_chk_ok tm_X11_slip td_X11_slip).1
  have hD := hD0.self (sz := s.heap.size)
  generalize hAe : va_A (pool ++ ws) s.heap.size = A at hD hX met ⊢
  have hS : va_S A s.heap s.heap [] := va_S.rf
  have hlv := lv_entry ([.ref qx, .int p0, .int p1, .int p2, .ref qo]) (n := 6) (Nat.le_of_ble_eq_true rfl)
  rw [lg_entry_eq]
  generalize (lg_sl ([.ref qx, .int p0, .int p1, .int p2, .ref qo]) ++ List.replicate (6 - (lg_sl ([.ref qx, .int p0, .int p1, .int p2, .ref qo])).length) Slot.unset).toArray = ls at hlv ⊢
  have hlv : lv_has ls 6 [(0, .ref qx), (1, .int p0), (2, .int p1), (3, .int p2), (4, .ref qo)] := hlv
  refine lv_aload hx9 hb eL_slip_0 (lv_at hlv 4 rfl) ?_
  refine lv_iconst (v := 0) hx9 hb eL_slip_2 (by decide) ?_
  refine lv_aload_n hx9 hb eL_slip_3 rfl (lv_at hlv 0 rfl) ?_
  refine lv_iload_n hx9 hb eL_slip_4 rfl (lv_at hlv 1 rfl) ?_
  refine lv_iload_n hx9 hb eL_slip_5 rfl (lv_at hlv 2 rfl) ?_
  refine lv_iload_n hx9 hb eL_slip_6 rfl (lv_at hlv 3 rfl) ?_
  have cB : CallB (mRm mt_L_slip) s [.ref qx, .int p0, .int p1, .int p2, .ref qo].toArray RL 18 (mY mt_X11_slip) (mC mt_X11_slip) (mL mt_X11_slip) (mR mt_X11_slip) (mW mt_X11_slip) (mRm mt_X11_slip) 4 32 3 := callB_of 3 hbig (mW_good mok) rfl rfl rfl (hbig _ mok.2.2.1) (hbig _ (h_at_ok (pos := 1290) (by decide +kernel))) ⟨mok.2.2.2.1.1, mok.2.2.2.1.2, mok.2.2.2.2.1⟩ ⟨by decide, by decide⟩
  obtain ⟨q', e', h1, h2, fvs, rfl, h3⟩ := gW_at hW hcx
  rw [hqx] at h2
  cases h2
  have hrecv := va_recv (q0 := pool.length + ix) hK.1 hP (show vwCl[10]? = some (RX11, TX11, 18) from rfl) (pw_at h1)
  refine vx_calli (A0 := A) (H0 := s.heap) (vx_runV (C := RX11) (As := [.int p0, .int p1, .int p2]) (rest := [.int 0, .ref qo]) ⟨hx9, hb, hml, hown, hbig⟩ met ⟨cB, hbig _ (mok.2.2.2.2.2.2.1 rfl).1, hbig _ (mok.2.2.2.2.2.2.1 rfl).2.1⟩ ⟨px_blind, hrecv, fun U hU hW9 => ⟨rfl, by rw [hU], by rw [hU]; exact hP, KK.warm hW9 hK, hD0, by rw [hAe]; exact XK.warm hX hW9 hU hS (fun _ h => h)⟩⟩ rfl rfl hlv.1 rfl (lv_room (Nat.le_of_ble_eq_true rfl)) eL_slip_7 ⟨by decide, by decide⟩) hS (fun q _ h => h) (fun q h => h) (fun q _ h => h) ?_ ?_
  · intro E9 ce q9 u t H1 locs1 ht hvm hpx hBX hz hk hS1 hcell hcv hcl
    obtain ⟨hE9, g1, g2⟩ := hBX
    subst hE9
    have hcast : (Cond.castable xNS xNS).before [.ref qx, .int p0, .int p1, .int p2, .ref qo].toArray s = true := va_Nw.use rfl (hX.1 _ (by decide +kernel))
    refine vx_catch hown [] ⟨0, 12, 15, 13⟩ [] (by rw [htab]; rfl) (fun z hz => by cases hz) (by decide) (by decide) (hbig _ (h_at_ok (w := .classLink RL 13 xNS) (pos := 1205) (by decide +kernel))) hcast hcell hcv hcl ?_
    refine lv_astore (lv' := [(5, .ref q9), (0, .ref qx), (1, .int p0), (2, .int p1), (3, .int p2), (4, .ref qo)]) hx9 hb eL_slip_15 hlv (by decide) rfl (fun ls hl2 => ?_)
    refine lv_iconst (v := 1) hx9 hb eL_slip_17 (by decide) ?_
    refine W.widen (k := 64) (n := 64) (by decide) (by decide) ?_
    exact W.iret hx9 hb hr (fun t2 ht2 hW2 => ⟨⟨1, (u, (some (aI 1), E, C)), rfl, ⟨⟨List.mem_cons_self, hE, hpx.1, hpx.2⟩, aI 1, rfl, ⟨1, rfl, by decide, by decide⟩⟩, ⟨by rw [ht2, ← ht]; exact g1, g2⟩⟩, hS1.F ht2⟩) hS1.2.2 eL_slip_18
  · intro r u t H1 locs1 ht hvm hw
    exact hw.elim
set_option maxHeartbeats 4000000 in
theorem sx_slip {l : Launch} {D : va_G} {cy : Nat → ClassId} {ν : Nat → Int} {b : Nat} {pool : va_W} {al0 : List Nat} {p : Program} {e : Env} {s : State} {m : MethodId} {args : Array Value} {below : List Frame} {meth : Method} {c : Code} {A : Nat → Prop} {Q : State → Prop} {lo : List (Nat × AV)} {E : EV} {C : List AC} {nc ns ix io fuel : Nat} {fs : List AV} {cuts : List ST}
    (X : Ctx OWN D cy ν b mt_L_law RL p (mRm mt_L_law) s m args meth c A true) (hl : l.stackTraces = false) (hXK : XK A s) (hcx : C[ix]? = some (.inr (10, fs)))
    (hrun : e_run PRG RTB cuts fuel true false mt_X11_slip (mT mt_X11_slip) (0, e_args 0 [aR ix, aV 1 0, aV 2 0, aV 3 0], [], E, C, 0, 0) = some []) (hsite : ∀ S ∈ cuts, XSite mt_X11_slip C S) (hnc : nc + 64 ≤ 600002) (hns : ns + 64 ≤ 7302232)
    (k : Safe D cy ν b pool al0 mt_L_law p l e (mRm mt_L_law) s m args below meth c A Q (962 + 3, lo, [aI 1], E, C, nc + 64, ns + 64)) : Safe D cy ν b pool al0 mt_L_law p l e (mRm mt_L_law) s m args below meth c A Q (962, lo, [aR io, aV 3 0, aV 2 0, aV 1 0, aR ix], E, C, nc, ns) := by
  intro H locs ls lv vs ws a1 a2 a3 a4 a5 a6
  simp only at a2 a3 a4 a5 ⊢
  obtain ⟨v0, vs0, rfl, g0, a3⟩ := gvs_cons a3
  obtain ⟨wp2, vsp2, rfl, hp2, a3⟩ := gvs_cons a3
  obtain ⟨wp1, vsp1, rfl, hp1, a3⟩ := gvs_cons a3
  obtain ⟨wp0, vsp0, rfl, hp0, a3⟩ := gvs_cons a3
  obtain ⟨v9, vs9, rfl, g9, a3⟩ := gvs_cons a3
  have hn := gvs_nil a3
  subst hn
  obtain ⟨qo, hqo, rfl⟩ := g0
  obtain ⟨qx, hqx, rfl⟩ := g9
  obtain ⟨p0, rfl⟩ := gv_isI hp0 rfl
  obtain ⟨p1, rfl⟩ := gv_isI hp1 rfl
  obtain ⟨p2, rfl⟩ := gv_isI hp2 rfl
  have hbig : ∀ w ∈ BIG, w.before args s = true := X.2.2.2.2.2.1
  have hF : ∀ q, va_A (pool ++ ws) H.size q → A q := by
    intro q hq
    rcases hq with ⟨kq, eq, h1⟩ | h1
    · exact a5.2.2.1.2 _ _ h1
    · exact X.2.2.2.2.2.2.2.1 q (Nat.le_trans a5.2.2.2.1 h1)
  have met := lx_slip (l := l) (D := D) (pool := pool) (qo := qo) (p0 := p0) (p1 := p1) (p2 := p2) H.size hl hqx hcx a4 a5.1 hp0 hp1 hp2 hrun hsite
  have hgw : GoodIn BIG WL_slip := by
    intro w hw
    rcases List.mem_cons.mp hw with rfl | hw
    · exact ⟨h_at_ok (pos := 1289) (by decide +kernel), good_of_word (by decide +kernel)⟩
    · exact ⟨hw, good_of_word (big_good _ hw)⟩
  have cw : vx_CSW (mRm mt_L_law) s args RL 114 yL_slip cL_slip 6 (some .int) [(0, 12, 15, 13)] WL_slip (mRm mt_L_slip) 64 64 5 := by
    refine ⟨⟨rfl, rfl, by decide, by decide, pay_in hbig hgw, List.mem_cons_self⟩, hbig _ (hgw _ List.mem_cons_self).1, hbig _ (h_at_ok (pos := 116) (by decide +kernel)), ⟨by decide +kernel, by decide +kernel⟩, fun sig hs => ?_, hbig _ (h_at_ok (pos := 1287) (by decide +kernel)), hbig _ (h_at_ok (pos := 1288) (by decide +kernel))⟩
    have h2 : (parseMethodDescriptor yL_slip.desc).map (fun d => d.parameters.length) = some 5 := by decide +kernel
    rw [hs] at h2
    exact (Option.some.inj h2).symm
  have hd : decode (mC mt_L_law) 962 = .ok (.invokestatic 114, 3) := eLaw_962
  refine s_after (M' := mt_L_slip) (rest := []) (E := E) X (Or.inr (Or.inl rfl)) (vx_runSW (As := [.ref qx, .int p0, .int p1, .int p2, .ref qo]) (rest := []) ⟨X.1, X.2.1, X.2.2.1, X.2.2.2.2.1, hbig⟩ met cw ⟨px_blind, fun U hU hW => ⟨rfl, by rw [hU], by rw [hU]; exact a5.2.1, KK.warm hW X.2.2.2.2.2.2.1, a5.2.2.1.weaken (fun _ _ _ _ => trivial), XK.warm hXK hW hU a5.2.2.2 hF⟩⟩ rfl rfl a1.1 rfl (lv_room (by decide)) hd ⟨hnc, hns⟩) a1 a2 trivial a5 a6 (fun o ho => ?_)
  rcases List.mem_cons.mp ho with rfl | ho
  · exact k
  · cases ho
