/-! throws of the class, and the law's own calls that catch them -/
abbrev xNS : String := "java/util/NoSuchElementException"
abbrev xNM : List String := ["java/lang/RuntimeException", "java/lang/Exception"]
abbrev xRX : ByteArray := prog_29_method_4_code
def XAT : List Cond := vx_atX RX11 150 xNS 13 xRX xNM
theorem xx0 : decode xRX 0 = .ok (.aload_n 0, 1) := by decide +kernel
theorem xx1 : decode xRX 1 = .ok (.aload_n 1, 1) := by decide +kernel
theorem xx2 : decode xRX 2 = .ok (.invokespecial 13, 3) := by decide +kernel
theorem xx5 : decode xRX 5 = .ok (.return_, 1) := by decide +kernel
def XBAD : List Cond := XAT.filter (fun w => !goodWord w)
def isMov (w : Cond) : Bool := match w with
  | .castable _ _ => true
  | .declares _ => true
  | _ => false
theorem xbad_mov : XBAD.all isMov = true := by decide +kernel
theorem xbad_in : ∀ w ∈ XBAD, w ∈ lw_tbl := by decide +kernel
set_option maxRecDepth 20000 in
theorem xgood_in : ∀ w ∈ XAT.filter goodWord, w ∈ lw_tbl := by decide +kernel
theorem xot : ∀ w ∈ Cond.classLink RX11 146 xNS :: Cond.initialized xNS :: XAT, vx_ot w = true := by decide +kernel
def XSTR : List (Nat × String) := [(148, "no such thing"), (169, "no such person"), (281, "a fraction has two numbers"), (283, "no such ones")]
def XK (A : Nat → Prop) (U : State) : Prop := (∀ w ∈ XBAD, va_Nw w U) ∧ vx_Zq Bundle.tN "UNASSIGNED_STACK" Bundle.steD A U U.heap ∧ vx_Zq Bundle.tN "SUPPRESSED_SENTINEL" Bundle.listD A U U.heap ∧ ∀ q ∈ XSTR, ∃ sa, vk_R RX11 q.1 q.2 sa U
theorem XK.warm {A A1 : Nat → Prop} {s U : State} {locs : List Loc} {H : Heap} (h : XK A s) (hW : s.WarmedH U.vm) (hH : U.heap = H) (hS : va_S A s.heap H locs) (hA : ∀ q, A1 q → A q) : XK A1 U := by
  obtain ⟨h1, h2, h3, h4⟩ := h
  refine ⟨fun w hw => ?_, ?_, ?_, fun q hq => ?_⟩
  · have g1 := h1 w hw
    have g2 := List.all_eq_true.mp xbad_mov w hw
    unfold isMov at g2
    split at g2
    · exact va_Nw.warmC hW g1
    · exact va_Nw.warmD hW g1
    · cases g2
  · rw [hH]
    exact ((h2.kept hS.2.1).moved hW.alike).narrow hA
  · rw [hH]
    exact ((h3.kept hS.2.1).moved hW.alike).narrow hA
  · obtain ⟨sa, g⟩ := h4 q hq
    exact ⟨sa, vk_R.warm hW g⟩
theorem XK.calling {A : Nat → Prop} {U : State} {g : JFrame} {mk : MethodId} {a : Array Value} (h : XK A U) : XK A (U.calling g mk a) := by
  obtain ⟨h1, h2, h3, h4⟩ := h
  refine ⟨fun w hw => ?_, ?_, ?_, fun q hq => ?_⟩
  · have g1 := h1 w hw
    have g2 := List.all_eq_true.mp xbad_mov w hw
    unfold isMov at g2
    split at g2
    · exact va_Nw.same rfl rfl g1
    · exact va_Nw.same rfl rfl g1
    · cases g2
  · exact vx_Zq.moved (u := U) (U := U.calling g mk a) (Vm.Alike.refl U.vm) h2
  · exact vx_Zq.moved (u := U) (U := U.calling g mk a) (Vm.Alike.refl U.vm) h3
  · obtain ⟨sa, g⟩ := h4 q hq
    exact ⟨sa, vk_R.same rfl g⟩
def PX (D : va_G) (cy : Nat → ClassId) (pool ws : va_W) (vs : List Value) (sz : Nat) : Array Value → State → Prop := va_Pc vs (fun U => U.heap.size = sz ∧ va_P D vwCl (pool ++ ws) U.heap ∧ KK D cy U ∧ va_D (fun _ => True) (pool ++ ws) ∧ XK (va_A (pool ++ ws) sz) U)
theorem px_blind {D : va_G} {cy : Nat → ClassId} {pool ws : va_W} {vs : List Value} {sz : Nat} : FrameBlind (PX D cy pool ws vs sz) := fun a U g mk q => by
  obtain ⟨q0, q1, qP, qK, qD, qX⟩ := q
  exact ⟨q0, q1, qP, qK.calling, qD, qX.calling⟩
abbrev XC (D : va_G) (cy : Nat → ClassId) (ν : Nat → Int) (b : Nat) (pool : va_W) (al0 : List Nat) (C : List AC) (A : Nat → Prop) : String → State → State → Prop := vx_X (fun u : va_W => gW ν b cy C u ∧ ∃ more, alw u = al0 ++ more) (fun E u t => E = xNS ∧ va_P D vwCl (pool ++ u) t.heap ∧ va_D A (pool ++ u)) A
abbrev XQ (A : Nat → Prop) : Array Value → State → Outcome → State → Prop := va_Qi (fun (_ : Int32) (_ : Unit) => False) (fun _ _ => True) A
/-- a place where the class throws: new, dup, the text, the maker, athrow -/
def XSite (M : MT) (C : List AC) (S : ST) : Prop := ∃ (pc : Nat) (lo : List (Nat × AV)) (E : EV) (nc ns is : Nat) (tx : String), S = (pc, lo, [], E, C, nc, ns) ∧ (is, tx) ∈ XSTR ∧ decode (mC M) pc = .ok (.new 146, 3) ∧ decode (mC M) (pc + 3) = .ok (.dup, 1) ∧
  ((decode (mC M) (pc + 4) = .ok (.ldc is, 2) ∧ decode (mC M) (pc + 6) = .ok (.invokespecial 150, 3) ∧ decode (mC M) (pc + 9) = .ok (.athrow, 1)) ∨ (decode (mC M) (pc + 4) = .ok (.ldc_w is, 3) ∧ decode (mC M) (pc + 7) = .ok (.invokespecial 150, 3) ∧ decode (mC M) (pc + 10) = .ok (.athrow, 1))) ∧ nc + 1 ≤ mNc M ∧ ns + 6 ≤ mNs M
theorem x_met {l : Launch} {D : va_G} {cy : Nat → ClassId} {ν : Nat → Int} {b : Nat} {pool : va_W} {M : MT} {as : List AV} {vs : List Value} {E : EV} {C : List AC} {ws : va_W} {cuts : List ST} {fuel : Nat} (sz : Nat) (hl : l.stackTraces = false) (hpn : plainName (mY M).cls = true) (hcls : (mY M).cls = RX11) (hM : MOK M) (hT : TOK OWN M) (ho : OWN[mO M]? = some (mY M).cls) (hg : gvs ν (alw ws) b as vs) (hE : genv ν E) (hW : gW ν b cy C ws) (hle : e_cats as ≤ mL M) (hfr : 5 < mFr M) (hlo : 82 ≤ mLo M)
    (hrun : e_run PRG RTB cuts fuel true false M (mT M) (0, e_args 0 as, [], E, C, 0, 0) = some []) (hsite : ∀ S ∈ cuts, XSite M C S) :
    vx_Met l (mY M) (mW M) (mRm M) (PX D cy pool ws vs sz) (XQ (va_A (pool ++ ws) sz)) (XC D cy ν b pool (alw ws) C (va_A (pool ++ ws) sz)) (mNc M) (mNs M) (va_A (pool ++ ws) sz) := by
  obtain ⟨m1, m2, m3, m4, m5, m6, m7, m8, m9⟩ := id hM
  refine vx_ofW (cc := mC M) (maxL := mL M) (ret := mR M) hpn rfl ?_
  intro p e s m args below meth c s₁ B hml hex hv
  obtain ⟨rfl, hsz, hP, hK, hD0, hX⟩ := hv
  have hx := B.exec
  have hb := B.bytes
  have hts := atoms_spec (ws := mW M) B.pre
  have hown : s.vm.findClass (mY M).cls = some m.cls := findClass_of_methodNamed B.named
  have hlocks := B.notSynchronized
  have hname := (name_of_methodNamed B.named B.method).1
  subst hsz
  have hD := hD0.self (sz := s.heap.size)
  generalize hAe : va_A (pool ++ ws) s.heap.size = A at hD hX ⊢
  have hA : ∀ q : Nat, s.heap.size ≤ q → A q := fun q h => by rw [← hAe]; exact Or.inr h
  have hS : va_S A s.heap s.heap [] := va_S.rf
  have hlen : (lg_sl vs).length ≤ mL M := by rw [lg_len, cats_ok hg]; exact hle
  have hlv := lv_entry vs (n := mL M) hlen
  rw [lg_entry_eq]
  generalize (lg_sl vs ++ List.replicate (mL M - (lg_sl vs).length) Slot.unset).toArray = ls at hlv ⊢
  have hbig : ∀ w ∈ BIG, w.before vs.toArray s = true := fun w hw => hts w (List.mem_cons_of_mem _ hw)
  have X : Ctx OWN D cy ν b M (mY M).cls p (mRm M) s m vs.toArray meth c A false := ⟨hx, hb, hml, ho, hown, hbig, hK, hA, fun h => hname.trans (m8 h).1, rfl, hT, fun h => by cases h⟩
  refine e_sound pok fuel true false M (mT M) _ [] hrun hT.1 (alw ws) _ p e _ s m vs.toArray below meth c A _ X (fun o h => by cases h) (fun _ S hS => ?_) s.heap [] ls (lv_args 0 vs) [] ws hlv (e_args_ok 0 hg) trivial hE ⟨hW, hP, hD, hS⟩ ⟨[], by simp⟩
  obtain ⟨pc, lo, E', nc, ns, is, tx, rfl, q1, d0, d3, dd, q2, q3⟩ := hsite S hS
  intro H locs ls' lv' vs' ws' a1 a2 a3 a4 a5 a6
  simp only at a2 a3 a4 a5 ⊢
  have hnil := gvs_nil a3
  subst hnil
  rw [hcls] at hown
  obtain ⟨sa, hstr⟩ := hX.2.2.2 _ q1
  have hat : ∀ w ∈ vx_atX RX11 150 xNS 13 xRX xNM, w.before vs.toArray s = true := vx_hat (B := XBAD) (fun w hw => hbig w (List.mem_filter.mpr ⟨xgood_in w hw, (List.mem_filter.mp hw).2⟩)) (fun w hw => hw) (fun w hw => by
    have g2 := List.all_eq_true.mp xbad_mov w hw
    have g1 := hX.1 w hw
    unfold isMov at g2
    split at g2
    · exact va_Nw.use rfl g1
    · exact va_Nw.use rfl g1
    · cases g2)
  have hk : (Cond.classLink RX11 146 xNS).before vs.toArray s = true := hbig _ (h_at_ok (pos := 1210) (by decide +kernel))
  have hini : (Cond.initialized xNS).before vs.toArray s = true := hbig _ (List.mem_filter.mpr ⟨by decide +kernel, by decide +kernel⟩)
  have hxx : ∀ t : State, s.vm.Alike t.vm → H.size ≤ t.heap.size → (∀ q : Nat, q < H.size → t.heap[q]? = H[q]?) → XC D cy ν b pool (alw ws) C A xNS s t := by
    intro t hvm hsz hsame
    refine ⟨ws', ⟨a5.1, a6⟩, ⟨rfl, fun k q hq => (a5.2.1 k q hq).kept (hsame _ (a5.2.1 k q hq).lt), a5.2.2.1⟩, ?_⟩
    exact ⟨Nat.le_trans a5.2.2.2.1 hsz, fun q hq hn => (hsame q (Nat.lt_of_lt_of_le hq a5.2.2.2.1)).trans (a5.2.2.2.2.1 q hq hn)⟩
  rcases dd with ⟨d4, d6, d9⟩ | ⟨d4, d6, d9⟩
  · exact vx_throwX (names := xNM) hx hb hl xx0 xx1 xx2 xx5 hown (by decide +kernel) (by decide +kernel) hk hini hstr hat xot hX.2.1 hX.2.2.1 a5.2.2.2 (by rw [hml]; exact a1.1) d0 d3 d4 d6 d9 (fun x h9 => (hex x h9).elim) (by show 2 + 3 < mFr M; omega) (by show 0 + (13 * (2 + 1) + 43) ≤ mLo M; omega) q2 q3 hlocks hxx a5.2.2.2.2.2 q2 q3
  · exact vx_throwXW (names := xNM) hx hb hl xx0 xx1 xx2 xx5 hown (by decide +kernel) (by decide +kernel) hk hini hstr hat xot hX.2.1 hX.2.2.1 a5.2.2.2 (by rw [hml]; exact a1.1) d0 d3 d4 d6 d9 (fun x h9 => (hex x h9).elim) (by show 2 + 3 < mFr M; omega) (by show 0 + (13 * (2 + 1) + 43) ≤ mLo M; omega) q2 q3 hlocks hxx a5.2.2.2.2.2 q2 q3
