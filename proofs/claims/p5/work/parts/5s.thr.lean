/-! methods of the class that may throw -/
abbrev XC2 (D : va_G) (cy : Nat → ClassId) (AK0 : List (Nat × Nat)) (ks : List Nat) (wp : va_W) (wr : WR) (A : Nat → Prop) : String → State → State → Prop := vx_X (fun u : List (Nat × Nat) × List Nat × va_W => hpool T2 cy u.1 u.2.1 u.2.2 ∧ (∃ m2, u.1 = AK0 ++ m2) ∧ Unch wr ks wp u.2.1 u.2.2) (fun E u t => E = xNS ∧ va_P D vwCl u.2.2 t.heap ∧ va_D A u.2.2) A
/-- a place where the class throws -/
def XS2 (M : MT) (rm : RMt) (ct : CUt') : Prop := ∃ (is : Nat) (tx : String), ct.2.2.1 = [] ∧ (is, tx) ∈ XSTR ∧ decode (mC M) ct.1 = .ok (.new 146, 3) ∧ decode (mC M) (ct.1 + 3) = .ok (.dup, 1) ∧
  ((decode (mC M) (ct.1 + 4) = .ok (.ldc is, 2) ∧ decode (mC M) (ct.1 + 6) = .ok (.invokespecial 150, 3) ∧ decode (mC M) (ct.1 + 9) = .ok (.athrow, 1)) ∨ (decode (mC M) (ct.1 + 4) = .ok (.ldc_w is, 3) ∧ decode (mC M) (ct.1 + 7) = .ok (.invokespecial 150, 3) ∧ decode (mC M) (ct.1 + 10) = .ok (.athrow, 1))) ∧ ct.2.2.2.2.1.1 + 1 ≤ rm.2.1 ∧ ct.2.2.2.2.1.2 + 6 ≤ rm.2.2.1
set_option maxHeartbeats 2000000 in
theorem x_met2 {l : Launch} {D : va_G} {cy : Nat → ClassId} {xs : Nat → Int32} {G : GT} {lim fuel : Nat} {M' : MT} {as : List BV} {vs : List Value} {F : FS} {I : IN} {ks : List Nat} {wp : va_W} {wr : WR} {cuts : List CUt'} {marks : List (Nat × Nat × Nat)} {cls : List (Nat × List Nat)} {outs : List OUB} {rm : RMt} (sz : Nat) (hl : l.stackTraces = false) (hG1 : G.1 = T2) (hP : POK2 G.2.1 G.2.2.1 OW2) (hHK : HKOK G.1 FPX cy G.2.2.2.2.2.1) (hOX : OXOK (fun _ => True) G.1 FPX OW2 (EWX xs) D cy l G.2.2.2.2.2.2) (hSP : ∀ (i : Nat) (sp : SPt), i < lim → G.2.2.2.2.1[i]? = some sp → SPOK G.1 FPX (EWX xs) D cy l G.2.1 sp)
    (hpn : plainName (mY M').cls = true) (hcls : (mY M').cls = RX11) (hM : MOK M') (hT : TOK OW2 M') (ho : OW2[mO M']? = some (mY M').cls) (hret : mR M' = some .int) (hg : hvs I as vs) (hF : HS T2 FPX cy I ks wp F) (hle : f_ctg as ≤ mL M') (hfr : 5 < rm.1) (hlo : 82 ≤ rm.2.2.2)
    (hrun : f_run G lim wr F.1 none cuts marks cls fuel true 0 rm M' (mT M') (0, f_args 0 as, [], F, none, 0, 0) = some outs) (hsite : ∀ ct ∈ cuts, XS2 M' rm ct) :
    vx_Met l (mY M') (mW M') (rmR rm) (PJ2 D cy (EWX xs) I.2.2 wp vs sz) (QJ2 T2 FPX D cy I ks wp wr outs (va_A wp sz) (mR M')) (XC2 D cy I.2.1 ks wp wr (va_A wp sz)) rm.2.1 rm.2.2.1 (va_A wp sz) := by
  obtain ⟨GT0, GP, GR, GD, GS, GH, GO⟩ := G
  simp only at hG1
  subst hG1
  refine vx_ofW (cc := mC M') (maxL := mL M') (ret := mR M') hpn rfl ?_
  intro p e s m args below meth c s₁ B hml hex hv0
  obtain ⟨rfl, hsz, hPw, hK, hD0, hE⟩ := hv0
  have hx := B.exec
  have hb := B.bytes
  have hr := B.returns
  have hts := atoms_spec (ws := mW M') B.pre
  have hown : s.vm.findClass (mY M').cls = some m.cls := findClass_of_methodNamed B.named
  have hlocks := B.notSynchronized
  subst hsz
  have hD := hD0.self (sz := s.heap.size)
  generalize hAe : va_A wp s.heap.size = A at hD hE ⊢
  have hA : ∀ q : Nat, s.heap.size ≤ q → A q := fun q h => by rw [← hAe]; exact Or.inr h
  have hlen : (lg_sl vs).length ≤ mL M' := by rw [lg_len, f_ctg_ok hg]; exact hle
  have hlv := lv_entry vs (n := mL M') hlen
  rw [lg_entry_eq]
  generalize (lg_sl vs ++ List.replicate (mL M' - (lg_sl vs).length) Slot.unset).toArray = ls at hlv ⊢
  have hbig : ∀ w ∈ BIG, w.before vs.toArray s = true := fun w hw => hts w (List.mem_cons_of_mem _ hw)
  have X : Cx OW2 (EWX xs) D cy I.2.2 M' (mY M').cls p (rmR rm) s m vs.toArray meth c A rm 0 0 := ⟨hx, hb, hml, ho, hown, hbig, hK, hA, hT, hE, Nat.le_refl _, by simp, by simp, Nat.le_refl _⟩
  have hn : F.1 = I.1.length := hF.2.1.1.symm
  refine f_sound (G := (T2, GP, GR, GD, GS, GH, GO)) (IX := fun _ => True) hP EWX_ok FPX0 fpok2 suok2 hHK (fun _ _ _ _ => trivial) hOX hSP fuel true 0 rm M' (mT M') _ outs hrun hT.1 I ks wp (mY M').cls p e (rmR rm) s m vs.toArray below meth c A _ 0 0 trivial X ?_ (fun _ => ⟨by omega, (fun mm h => (by cases h)), ?_⟩) I s.heap [] ls (lv_args 0 vs) [] ks wp [] hlv (f_args_ok 0 hg) trivial hF rfl (by rw [List.append_nil]; exact hPw) (by rw [List.append_nil]; exact hD) va_S.rf hxt.rf Unch.rf
  · intro o ho9 ins pc I1 H locs ls' ks1 wp1 v hd hv9 hF' w2 w3 w4 hx1 hu
    have po : PO2 T2 FPX cy I ks wp wr outs (I1, ks1, wp1, o) := ⟨ho9, hx1, hF', hu⟩
    rw [Nat.zero_add, Nat.zero_add]
    rcases hv9 with ⟨rfl, a, x, ty, e1, rfl, g1, e2, e3, e4⟩ | ⟨rfl, a, x, e1, rfl, g1, e2⟩ | ⟨rfl, e1, rfl, e2⟩
    · have hq : QJ2 T2 FPX D cy I ks wp wr outs A (mR M') = va_Qi (fun (r : Int32) (u : UQ) => PO2 T2 FPX cy I ks wp wr outs u ∧ ∃ a, u.2.2.2.1 = some a ∧ hv u.1 a (.int r)) (BO2 D A) A := by
        rw [e2]
        rcases e3 with rfl | rfl <;> rfl
      rw [hq]
      rw [e2] at hr
      exact vx_ret (W.zret hx hb hr e4 (fun t ht hW9 => ⟨⟨x, (I1, ks1, wp1, o), rfl, ⟨po, a, e1, g1⟩, by rw [BO2, ht]; exact ⟨w2, w3⟩⟩, w4.F ht⟩) w4.2.2 hd)
    · rw [hret] at e2; cases e2
    · rw [hret] at e2; cases e2
  · intro ct hct I1 H locs ls' lv' vs' ks1 wp1 b1 b2 b3 b4 b5 b6 b7 b8 b9 b10 b11 b12
    obtain ⟨is, tx, q0, q1, d0, d3, dd, q2, q3⟩ := hsite ct hct
    rw [q0] at b6
    have hnil := hvs_nil b6
    subst hnil
    rw [hcls] at hown
    have hX : XK A s := hE.2.2.2
    obtain ⟨sa, hstr⟩ := hX.2.2.2 _ q1
    have hat : ∀ w ∈ vx_atX RX11 150 xNS 13 xRX xNM, w.before vs.toArray s = true := vx_hat (B := XBAD) (fun w hw => hbig w (List.mem_filter.mpr ⟨xgood_in w hw, (List.mem_filter.mp hw).2⟩)) (fun w hw => hw) (fun w hw => by
      have g2 := List.all_eq_true.mp xbad_mov w hw
      have g1 := hX.1 w hw
      unfold isMov at g2
      split at g2
      · exact va_Nw.use rfl g1
      · exact va_Nw.use rfl g1
      · cases g2)
    have hk : (Cond.classLink RX11 146 xNS).before vs.toArray s = true := hbig _ (h_at_ok (pos := 1210) (by decide +kernel))
    have hini : (Cond.initialized xNS).before vs.toArray s = true := hbig _ (List.mem_filter.mpr ⟨by decide +kernel, by decide +kernel⟩)
    have hxx : ∀ t : State, s.vm.Alike t.vm → H.size ≤ t.heap.size → (∀ q : Nat, q < H.size → t.heap[q]? = H[q]?) → XC2 D cy I.2.1 ks wp wr A xNS s t := by
      intro t hvm hsz hsame
      refine ⟨(I1.2.1, ks1, wp1), ⟨b7.1, b3, b11⟩, ⟨rfl, fun k q hq => (b8 k q hq).kept (hsame _ (b8 k q hq).lt), b9⟩, ?_⟩
      exact ⟨Nat.le_trans b10.1 hsz, fun q hq hn9 => (hsame q (Nat.lt_of_lt_of_le hq b10.1)).trans (b10.2.1 q hq hn9)⟩
    rw [Nat.zero_add, Nat.zero_add]
    rcases dd with ⟨d4, d6, d9⟩ | ⟨d4, d6, d9⟩
    · exact vx_throwX (names := xNM) hx hb hl xx0 xx1 xx2 xx5 hown (by decide +kernel) (by decide +kernel) hk hini hstr hat xot hX.2.1 hX.2.2.1 b10 (by rw [hml]; exact b4.1) d0 d3 d4 d6 d9 (fun x h9 => (hex x h9).elim) (by show 2 + 3 < rm.1; omega) (by show 0 + (13 * (2 + 1) + 43) ≤ rm.2.2.2; omega) q2 q3 hlocks hxx b10.2.2 q2 q3
    · exact vx_throwXW (names := xNM) hx hb hl xx0 xx1 xx2 xx5 hown (by decide +kernel) (by decide +kernel) hk hini hstr hat xot hX.2.1 hX.2.2.1 b10 (by rw [hml]; exact b4.1) d0 d3 d4 d6 d9 (fun x h9 => (hex x h9).elim) (by show 2 + 3 < rm.1; omega) (by show 0 + (13 * (2 + 1) + 43) ≤ rm.2.2.2; omega) q2 q3 hlocks hxx b10.2.2 q2 q3
