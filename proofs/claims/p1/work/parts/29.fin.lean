-- ===== end of PART A; then your names; then what follows =====
/-! THE CLAIM OUT OF ONE WALK OF THE LAW'S BODY. Your part is whole_start (and what it stands on); all else here is the same for every law, but numbers. -/
def R_law : String := "NounFastLaw"
def lw_P (b : Addr) (xs : List Int32) (args : Array Value) (s : State) : Prop := args = #[.ref b] ∧ s.IntsAt b xs ∧ xs.length ≤ 6 ∧ (Jvm.Cond.and given_1 narrow_1).before args s = true
def lw_Q (_ : Array Value) (s : State) (o : Outcome) (t : State) : Prop := o = .returned (some (.int 1)) ∧ Framed s o t [] 600002 7302232
def lw_Z (below : List Frame) (a : Array Value) (s : State) : State → Prop := fun t => ∃ o, t.status = .running ∧ Ended t below o ∧ lw_Q a s o t
/-- the law's own end, with 1 on the stack, nothing written that was there before, its room as the claim has it -/
theorem lw_ret {p : Program} {l : Launch} {e : Env} {s : State} {m : MethodId} {below : List Frame} {meth : Method} {c : Code} {b : Nat} (hx : p.tables.exec = Jvm.exec) (hb : c.code = code) (hr : meth.sig.returnType = ret) (hlocks : meth.locks = false) {pc : Nat} {H : Heap} {ls : Array Slot} (hdg : decode code pc = .ok (.ireturn, 1)) : W p l e room_1 s m #[Value.ref b] below meth c H [] 600002 7302232 (lw_Z below #[Value.ref b] s) (F0 m pc ls [.int 1]) := by
  intro T hT X
  obtain ⟨fs, hret, hrun, hended, hW, hframe⟩ := X.leave (v := some (.int 1)) (hlocks := hlocks) (fun h => by rw [hr] at h; cases h)
  have hmeth' : T.vm.method? m = some meth := X.method'
  refine ⟨T.setFrames fs, ?_, .returned (some (.int 1)), hrun, hended, rfl, ⟨_, rfl⟩, hW, hframe⟩
  jvm_step X.here [X.here.top, hx, hb, hdg, hmeth', hr, ret, narrow_b1]
  (try refine ⟨rfl, ?_⟩); (try refine ⟨rfl, ?_⟩)
  first | (intro acts; rw [hret _ acts rfl rfl rfl]) | rw [hret _ _ rfl rfl rfl]
  exact Steps.refl _
/-- what holds at the law's entry: the machine, the code, the tables' words (any of lw_tbl by 'hts w (by decide +kernel)'), the script of L ints xs at the cell b, what the Statement gives of the start (any of its parts by flat_of_before) -/
def lw_At (p : Program) (s : State) (m : MethodId) (meth : Method) (c : Code) (b L : Nat) (xs : Nat → Int32) : Prop :=
  p.tables.exec = Jvm.exec ∧ c.code = code ∧ meth.sig.returnType = ret ∧ c.maxLocals = 7 ∧ s.vm.findClass R_law = some m.cls ∧ (∀ w ∈ lw_tbl, w.before #[Value.ref b] s = true) ∧ va_X b L xs s s.heap ∧ b < s.heap.size ∧ meth.locks = false ∧ (Jvm.Cond.and given_1 narrow_1).before #[Value.ref b] s = true

theorem eLaw_778 : decode code 778 = .ok (.aload_n 2, 1) := by decide +kernel
theorem e_good_ok {x : Option (List OUT)} (h : e_good x = true) : ∃ outs, x = some outs ∧ ∀ o ∈ outs, o.1 = some (aI 1) := by
  unfold e_good at h
  split at h
  · exact ⟨_, rfl, fun o ho => of_decide_eq_true (List.all_eq_true.mp h o ho)⟩
  · cases h
theorem ret_law {D : va_G} {cy : Nat → ClassId} {ν : Nat → Int} {b : Nat} {pool : va_W} {al0 : List Nat} {p : Program} {l : Launch} {e : Env} {s : State} {m : MethodId} {below : List Frame} {meth : Method} {c : Code} {outs : List OUT} (hx : p.tables.exec = Jvm.exec) (hb : c.code = code) (hr : meth.sig.returnType = ret) (hlocks : meth.locks = false) (h : ∀ o ∈ outs, o.1 = some (aI 1)) :
    RetOK D cy ν b pool al0 mt_L_law p l e room_1 s m #[Value.ref b] below meth c (fun q => s.heap.size ≤ q) (lw_Z below #[Value.ref b] s) outs := by
  intro o ho ins pc H locs ls ws v hd hv hE hW hal
  rw [h o ho] at hv
  rcases hv with ⟨rfl, a, x, ty, e1, rfl, g1, e2, e3, e4⟩ | ⟨_, a, x, e1, _, g1, e2⟩ | ⟨_, e1, _⟩
  · cases e1
    obtain ⟨x', e, g1, g2⟩ := g1
    cases e
    have hx1 : x = 1 := (fa_eq _ _).mpr (by have : (1 : Int32).toInt = 1 := rfl; omega)
    subst hx1
    refine va_forget (fun q hq => hW.2.2.2.2.2 q hq) ?_
    exact lw_ret hx hb hr hlocks hd
  · cases e2
  · cases e1
theorem arr_of {args : Array Value} {s : State} {ty : FieldType} (h : (Cond.arrayClass ty).before args s = true) (hp : ∀ cA : ClassId, s.vm.findClass ("[" ++ ty.toString) = some cA → va_RA s cA ty) : ∃ cA : ClassId, ArrOfT s cA ty ∧ va_RA s cA ty := by
  obtain ⟨c, k, comp, h1, h2, h3⟩ := Cond.arrayClass_spec h
  exact ⟨c, fun n z => ⟨fun k9 h9 => (by cases h9), k, h2, comp, h3⟩, hp c h1⟩
theorem arr_ofo {args : Array Value} {s : State} {C : String} (h : (Cond.arrayOver (.object C)).before args s = true) : ∃ cA : ClassId, ArrOfT s cA (.object C) ∧ va_RA s cA (.object C) := by
  obtain ⟨comp, c, k, h1, -, h3, h4, h5⟩ := Cond.arrayOver_spec h
  exact ⟨c, fun n z => ⟨fun k9 h9 => (by cases h9), k, h3, comp, h4⟩, k, comp, h3, h4, h1, h5⟩
set_option maxHeartbeats 8000000 in
set_option maxRecDepth 100000 in
theorem whole_start {p : Program} {e : Env} {s : State} {m : MethodId} {below : List Frame} {meth : Method} {c : Code} (l : Launch) (hfl : l.flags = flags0) {b L : Nat} {xs : Nat → Int32} (hL : L ≤ 6) (C0 : lw_At p s m meth c b L xs) : W p l e room_1 s m #[Value.ref b] below meth c s.heap [] 0 0 (lw_Z below #[Value.ref b] s) (entryFrame m ([Value.ref b] : List Value).toArray 7) := by
  obtain ⟨hx, hb, hr, hml, hown, hts, hX, hbl, hlocks, hgv⟩ := id C0
  have hst : l.stackTraces = false := by unfold Launch.stackTraces; rw [hfl]; decide +kernel
  obtain ⟨c0, iS0, hKn0⟩ := u_known (C := RX0) (T := TX0) (N := 6) (n := 6) hts inX0 (hts (.instantiable RX0 6) (by decide +kernel))
  obtain ⟨c1, iS1, hKn1⟩ := u_known (C := RX1) (T := TX1) (N := 9) (n := 9) hts inX1 (hts (.instantiable RX1 9) (by decide +kernel))
  obtain ⟨c2, iS2, hKn2⟩ := u_known (C := RX2) (T := TX2) (N := 3) (n := 3) hts inX2 (hts (.instantiable RX2 3) (by decide +kernel))
  obtain ⟨c3, iS3, hKn3⟩ := u_known (C := RX3) (T := TX3) (N := 1) (n := 1) hts inX3 (hts (.instantiable RX3 1) (by decide +kernel))
  obtain ⟨c4, iS4, hKn4⟩ := u_known (C := RX4) (T := TX4) (N := 3) (n := 3) hts inX4 (hts (.instantiable RX4 3) (by decide +kernel))
  obtain ⟨c5, iS5, hKn5⟩ := u_known (C := RX6) (T := TX6) (N := 2) (n := 2) hts inX6 (hts (.instantiable RX6 2) (by decide +kernel))
  obtain ⟨c6, iS6, hKn6⟩ := u_known (C := RX7) (T := TX7) (N := 10) (n := 10) hts inX7 (hts (.instantiable RX7 10) (by decide +kernel))
  obtain ⟨c7, iS7, hKn7⟩ := u_known (C := RX8) (T := TX8) (N := 6) (n := 6) hts inX8 (hts (.instantiable RX8 6) (by decide +kernel))
  obtain ⟨c8, iS8, hKn8⟩ := u_known (C := RX9) (T := TX9) (N := 2) (n := 2) hts inX9 (hts (.instantiable RX9 2) (by decide +kernel))
  obtain ⟨c9, iS9, hKn9⟩ := u_known (C := RX10) (T := TX10) (N := 11) (n := 11) hts inX10 (hts (.instantiable RX10 11) (by decide +kernel))
  obtain ⟨c10, iS10, hKn10⟩ := u_known (C := RX11) (T := TX11) (N := 18) (n := 18) hts inX11 (hts (.instantiable RX11 18) (by decide +kernel))
  obtain ⟨c11, iS11, hKn11⟩ := u_known (C := RX12) (T := TX12) (N := 53) (n := 53) hts inX12 (hts (.instantiable RX12 53) (by decide +kernel))
  obtain ⟨dC, dI, hKc⟩ : ∃ (dC : Nat → ClassId) (dI : Nat → Nat → Nat), ∀ (k : Nat) (q : vw_C), vwCl[k]? = some q → u_Kn s q.1 q.2.1 q.2.2 (dC k) (dI k) := by
    refine ⟨fun k => match k with | 0 => c0 | 1 => c1 | 2 => c2 | 3 => c3 | 4 => c4 | 5 => c5 | 6 => c6 | 7 => c7 | 8 => c8 | 9 => c9 | 10 => c10 | _ => c11, fun k => match k with | 0 => iS0 | 1 => iS1 | 2 => iS2 | 3 => iS3 | 4 => iS4 | 5 => iS5 | 6 => iS6 | 7 => iS7 | 8 => iS8 | 9 => iS9 | 10 => iS10 | _ => iS11, ?_⟩
    intro k q hq
    match k, hq with
    | 0, hq => cases hq; exact hKn0
    | 1, hq => cases hq; exact hKn1
    | 2, hq => cases hq; exact hKn2
    | 3, hq => cases hq; exact hKn3
    | 4, hq => cases hq; exact hKn4
    | 5, hq => cases hq; exact hKn5
    | 6, hq => cases hq; exact hKn6
    | 7, hq => cases hq; exact hKn7
    | 8, hq => cases hq; exact hKn8
    | 9, hq => cases hq; exact hKn9
    | 10, hq => cases hq; exact hKn10
    | 11, hq => cases hq; exact hKn11
    | k + 12, hq => simp [vwCl] at hq
  obtain ⟨y0, hy0⟩ := arr_of (hts (.arrayClass .int) (by decide +kernel)) (fun _ h => h)
  obtain ⟨y1, hy1⟩ := arr_of (hts (.arrayClass .byte) (by decide +kernel)) (fun _ h => h)
  obtain ⟨y2, hy2⟩ := arr_of (hts (.arrayClass .boolean) (by decide +kernel)) (fun _ h => h)
  obtain ⟨y3, hy3⟩ := arr_of (hts (.arrayClass .long) (by decide +kernel)) (fun _ h => h)
  obtain ⟨y4, hy4⟩ := arr_ofo (hts (.arrayOver (.object "NounFast$Scene")) (by decide +kernel))
  obtain ⟨y5, hy5⟩ := arr_ofo (hts (.arrayOver (.object "NounFast$Sentence")) (by decide +kernel))
  obtain ⟨cy, hcy⟩ : ∃ cy : Nat → ClassId, va_K (dC, dI) vwCl (atys cy) s := by
    refine ⟨fun t => match t with | 0 => y0 | 1 => y1 | 2 => y2 | 3 => y3 | 4 => y4 | _ => y5, hKc, ?_⟩
    intro k q hq
    match k, hq with
    | 0, hq => cases hq; exact hy0
    | 1, hq => cases hq; exact hy1
    | 2, hq => cases hq; exact hy2
    | 3, hq => cases hq; exact hy3
    | 4, hq => cases hq; exact hy4
    | 5, hq => cases hq; exact hy5
    | k + 6, hq => simp [atys] at hq
  have hKK : KK (dC, dI) cy s := by
    refine ⟨hcy, fun w hw => ?_, va_AO.of (hts (.arrayOver (.object "NounFast$Scene")) (by decide +kernel)), va_AO.of (hts (.arrayOver (.object "NounFast$Sentence")) (by decide +kernel))⟩
    have h1 := List.mem_filter.mp hw
    have h2 := h1.2
    have h3 := hts w h1.1
    unfold isNest at h2
    split at h2
    · exact va_Nw.of rfl h3
    · exact va_Nw.of rfl h3
    · cases h2
  have hs := flat_of_before _ hgv
  have hnA : ∀ a : Nat, a < s.heap.size → ¬ (fun q : Nat => s.heap.size ≤ q) a := fun a h => Nat.not_le.mpr h
  have hXK : XK (fun q => s.heap.size ≤ q) s := by
    refine ⟨fun w hw => ?_, ?_, ?_, fun q hq => ?_⟩
    · have g2 := List.all_eq_true.mp xbad_mov w hw
      have g1 := hts w (xbad_in w hw)
      unfold isMov at g2
      split at g2
      · exact va_Nw.of rfl g1
      · exact va_Nw.of rfl g1
      · cases g2
    · exact vx_Zqof (hts (.laysStatic Bundle.tN "UNASSIGNED_STACK" Bundle.steD) (by decide +kernel)) (hts (.initialized Bundle.tN) (by decide +kernel)) (hs (.isRef (.static Bundle.tN "UNASSIGNED_STACK" Bundle.steD)) (by decide +kernel)) hnA
    · exact vx_Zqof (hts (.laysStatic Bundle.tN "SUPPRESSED_SENTINEL" Bundle.listD) (by decide +kernel)) (hts (.initialized Bundle.tN) (by decide +kernel)) (hs (.isRef (.static Bundle.tN "SUPPRESSED_SENTINEL" Bundle.listD)) (by decide +kernel)) hnA
    · have key : ∀ (k : Nat) (tx : String), Cond.stringRef RX11 k tx ∈ lw_tbl → (Cond.exactly (.string RX11 k) "java/lang/String").before #[Value.ref b] s = true → ∃ sa, vk_R RX11 k tx sa s := by
        intro k tx h1 h2
        obtain ⟨a, c9, cell, k9, h3, -⟩ := Cond.exactly_spec h2
        exact ⟨a, vk_R.of (A := #[Value.ref b]) (hts _ h1) h3⟩
      simp only [XSTR, List.mem_cons, List.not_mem_nil, or_false] at hq
      rcases hq with rfl | rfl | rfl | rfl
      · exact key 148 "no such thing" (by decide +kernel) (hs _ (by decide +kernel))
      · exact key 169 "no such person" (by decide +kernel) (hs _ (by decide +kernel))
      · exact key 281 "a fraction has two numbers" (by decide +kernel) (hs _ (by decide +kernel))
      · exact key 283 "no such ones" (by decide +kernel) (hs _ (by decide +kernel))
  obtain ⟨ν, hν, hν6⟩ : ∃ ν : Nat → Int, (∀ k, k < 6 → ν k = (xs k).toInt) ∧ ν 6 = (L : Int) := ⟨fun k => if k = 6 then (L : Int) else (xs k).toInt, fun k hk => if_neg (by omega), if_pos rfl⟩
  have scr : Scr ν b (fun q => s.heap.size ≤ q) s := ⟨L, xs, hX, hbl, Nat.not_le.mpr hbl, fun k hk => (hν k (by omega)).symm, hν6, by omega⟩
  have X : Ctx OWN (dC, dI) cy ν b mt_L_law RL p (mRm mt_L_law) s m #[Value.ref b] meth c (fun q => s.heap.size ≤ q) true := ⟨hx, hb, hml, by decide +kernel, hown, fun w hw => hts w (big_in w hw), hKK, fun _ h => h, fun h => absurd h (by decide), rfl, ⟨d_chk_ok (M := mt_L_law) td_L_law, fun h => absurd h (by decide)⟩, fun _ => scr⟩
  have go : ∀ (cuts : List ST) (suf : List INS) (S : ST), (∀ q ∈ suf, decode (mC mt_L_law) q.1 = .ok (q.2.2.1, q.2.2.2)) → e_good (e_run PRG RTB cuts 30000 true true mt_L_law suf S) = true → (∀ S' ∈ cuts, Safe (dC, dI) cy ν b [] [] mt_L_law p l e (mRm mt_L_law) s m #[Value.ref b] below meth c (fun q => s.heap.size ≤ q) (lw_Z below #[Value.ref b] s) S') → Safe (dC, dI) cy ν b [] [] mt_L_law p l e (mRm mt_L_law) s m #[Value.ref b] below meth c (fun q => s.heap.size ≤ q) (lw_Z below #[Value.ref b] s) S := by
    intro cuts suf S h1 h2 h3
    obtain ⟨outs, h4, h5⟩ := e_good_ok h2
    exact e_sound pok 30000 true true mt_L_law suf S outs h4 h1 [] RL p e _ s m #[Value.ref b] below meth c _ _ X (ret_law hx hb hr hlocks h5) (fun _ => h3)
  have dall : ∀ q ∈ tb_L_law, decode (mC mt_L_law) q.1 = .ok (q.2.2.1, q.2.2.2) := d_chk_ok (M := mt_L_law) td_L_law
  have noc : ∀ S' ∈ ([] : List ST), Safe (dC, dI) cy ν b [] [] mt_L_law p l e (mRm mt_L_law) s m #[Value.ref b] below meth c (fun q => s.heap.size ≤ q) (lw_Z below #[Value.ref b] s) S' := fun _ h => by cases h
  have d778 : ∀ q ∈ ((778, 0, .aload_n 2, 1) :: e_suf tb_L_law 779 : List INS), decode (mC mt_L_law) q.1 = .ok (q.2.2.1, q.2.2.2) := by
    intro q hq
    rcases List.mem_cons.mp hq with rfl | hq
    · exact eLaw_778
    · exact dall q (e_suf_in q hq)
  have s778_0 := go [] _ SC_778_0 d778 rn_778_0 noc
  have s778_1 := go [] _ SC_778_1 d778 rn_778_1 noc
  have s778_2 := go [] _ SC_778_2 d778 rn_778_2 noc
  have sa362 := go [] _ SA_362 (fun q hq => dall q (e_suf_in q hq)) rn_362 noc
  have sc362 : Safe (dC, dI) cy ν b [] [] mt_L_law p l e (mRm mt_L_law) s m #[Value.ref b] below meth c (fun q => s.heap.size ≤ q) (lw_Z below #[Value.ref b] s) SC_362 := by
    refine sx_thing X hst hXK (show CF[0]? = some (.inr (10, _)) from rfl) (e_none_ok rx_thing) (xs_thing (fun S hS => ?_)) (by decide) (by decide) sa362
    simp only [SX_thing, List.mem_cons, List.not_mem_nil, or_false] at hS
    exact ⟨_, _, _, _, hS, by decide, by decide⟩
  have sa430 := go [] _ SA_430 (fun q hq => dall q (e_suf_in q hq)) rn_430 noc
  have sc430 : Safe (dC, dI) cy ν b [] [] mt_L_law p l e (mRm mt_L_law) s m #[Value.ref b] below meth c (fun q => s.heap.size ≤ q) (lw_Z below #[Value.ref b] s) SC_430 := by
    refine sx_person X hst hXK (show CF[0]? = some (.inr (10, _)) from rfl) (e_none_ok rx_person) (xs_person (fun S hS => ?_)) (by decide) (by decide) sa430
    simp only [SX_person, List.mem_cons, List.not_mem_nil, or_false] at hS
    exact ⟨_, _, _, _, hS, by decide, by decide⟩
  have sa962 := go [] _ SA_962 (fun q hq => dall q (e_suf_in q hq)) rn_962 noc
  have sc962 : Safe (dC, dI) cy ν b [] [] mt_L_law p l e (mRm mt_L_law) s m #[Value.ref b] below meth c (fun q => s.heap.size ≤ q) (lw_Z below #[Value.ref b] s) SC_962 := by
    refine sx_slip X hst hXK (show CF[0]? = some (.inr (10, _)) from rfl) (e_none_ok rx_slip) (xs_slip (fun S hS => ?_)) (by decide) (by decide) sa962
    simp only [SX_slip, List.mem_cons, List.not_mem_nil, or_false] at hS
    rcases hS with hS | hS
    · exact ⟨_, _, _, _, Or.inl hS, by decide, by decide⟩
    · exact ⟨_, _, _, _, Or.inr hS, by decide, by decide⟩
  have hcuts : ∀ S' ∈ CUTS, Safe (dC, dI) cy ν b [] [] mt_L_law p l e (mRm mt_L_law) s m #[Value.ref b] below meth c (fun q => s.heap.size ≤ q) (lw_Z below #[Value.ref b] s) S' := by
    intro S' h
    simp only [CUTS, List.mem_cons, List.not_mem_nil, or_false] at h
    rcases h with rfl | rfl | rfl | rfl | rfl | rfl
    · exact sc362
    · exact sc430
    · exact sc962
    · exact s778_0
    · exact s778_1
    · exact s778_2
  have hk : ∀ t ∈ TGT, Safe (dC, dI) cy ν b [] [] mt_L_law p l e (mRm mt_L_law) s m #[Value.ref b] below meth c (fun q => s.heap.size ≤ q) (lw_Z below #[Value.ref b] s) (SK t) := by
    intro t ht
    simp only [TGT, List.mem_cons, List.not_mem_nil, or_false] at ht
    rcases ht with rfl | rfl | rfl | rfl | rfl | rfl | rfl | rfl | rfl | rfl | rfl | rfl | rfl | rfl | rfl | rfl | rfl | rfl | rfl | rfl | rfl | rfl | rfl | rfl | rfl | rfl | rfl | rfl | rfl | rfl | rfl | rfl | rfl | rfl | rfl | rfl | rfl | rfl | rfl | rfl | rfl | rfl
    · exact go CUTS _ (SK 224) (fun q hq => dall q (e_suf_in q hq)) rn_k224 hcuts
    · exact go CUTS _ (SK 297) (fun q hq => dall q (e_suf_in q hq)) rn_k297 hcuts
    · exact go CUTS _ (SK 322) (fun q hq => dall q (e_suf_in q hq)) rn_k322 hcuts
    · exact go CUTS _ (SK 335) (fun q hq => dall q (e_suf_in q hq)) rn_k335 hcuts
    · exact go CUTS _ (SK 348) (fun q hq => dall q (e_suf_in q hq)) rn_k348 hcuts
    · exact go CUTS _ (SK 416) (fun q hq => dall q (e_suf_in q hq)) rn_k416 hcuts
    · exact go CUTS _ (SK 484) (fun q hq => dall q (e_suf_in q hq)) rn_k484 hcuts
    · exact go CUTS _ (SK 509) (fun q hq => dall q (e_suf_in q hq)) rn_k509 hcuts
    · exact go CUTS _ (SK 534) (fun q hq => dall q (e_suf_in q hq)) rn_k534 hcuts
    · exact go CUTS _ (SK 571) (fun q hq => dall q (e_suf_in q hq)) rn_k571 hcuts
    · exact go CUTS _ (SK 620) (fun q hq => dall q (e_suf_in q hq)) rn_k620 hcuts
    · exact go CUTS _ (SK 657) (fun q hq => dall q (e_suf_in q hq)) rn_k657 hcuts
    · exact go CUTS _ (SK 694) (fun q hq => dall q (e_suf_in q hq)) rn_k694 hcuts
    · exact go CUTS _ (SK 731) (fun q hq => dall q (e_suf_in q hq)) rn_k731 hcuts
    · exact go CUTS _ (SK 768) (fun q hq => dall q (e_suf_in q hq)) rn_k768 hcuts
    · exact go CUTS _ (SK 793) (fun q hq => dall q (e_suf_in q hq)) rn_k793 hcuts
    · exact go CUTS _ (SK 806) (fun q hq => dall q (e_suf_in q hq)) rn_k806 hcuts
    · exact go CUTS _ (SK 855) (fun q hq => dall q (e_suf_in q hq)) rn_k855 hcuts
    · exact go CUTS _ (SK 892) (fun q hq => dall q (e_suf_in q hq)) rn_k892 hcuts
    · exact go CUTS _ (SK 905) (fun q hq => dall q (e_suf_in q hq)) rn_k905 hcuts
    · exact go CUTS _ (SK 942) (fun q hq => dall q (e_suf_in q hq)) rn_k942 hcuts
    · exact go CUTS _ (SK 1022) (fun q hq => dall q (e_suf_in q hq)) rn_k1022 hcuts
    · exact go CUTS _ (SK 1047) (fun q hq => dall q (e_suf_in q hq)) rn_k1047 hcuts
    · exact go CUTS _ (SK 1060) (fun q hq => dall q (e_suf_in q hq)) rn_k1060 hcuts
    · exact go CUTS _ (SK 1073) (fun q hq => dall q (e_suf_in q hq)) rn_k1073 hcuts
    · exact go CUTS _ (SK 1086) (fun q hq => dall q (e_suf_in q hq)) rn_k1086 hcuts
    · exact go CUTS _ (SK 1099) (fun q hq => dall q (e_suf_in q hq)) rn_k1099 hcuts
    · exact go CUTS _ (SK 1160) (fun q hq => dall q (e_suf_in q hq)) rn_k1160 hcuts
    · exact go CUTS _ (SK 1173) (fun q hq => dall q (e_suf_in q hq)) rn_k1173 hcuts
    · exact go CUTS _ (SK 1198) (fun q hq => dall q (e_suf_in q hq)) rn_k1198 hcuts
    · exact go CUTS _ (SK 1223) (fun q hq => dall q (e_suf_in q hq)) rn_k1223 hcuts
    · exact go CUTS _ (SK 1248) (fun q hq => dall q (e_suf_in q hq)) rn_k1248 hcuts
    · exact go CUTS _ (SK 1273) (fun q hq => dall q (e_suf_in q hq)) rn_k1273 hcuts
    · exact go CUTS _ (SK 1298) (fun q hq => dall q (e_suf_in q hq)) rn_k1298 hcuts
    · exact go CUTS _ (SK 1335) (fun q hq => dall q (e_suf_in q hq)) rn_k1335 hcuts
    · exact go CUTS _ (SK 1384) (fun q hq => dall q (e_suf_in q hq)) rn_k1384 hcuts
    · exact go CUTS _ (SK 1409) (fun q hq => dall q (e_suf_in q hq)) rn_k1409 hcuts
    · exact go CUTS _ (SK 1434) (fun q hq => dall q (e_suf_in q hq)) rn_k1434 hcuts
    · exact go CUTS _ (SK 1447) (fun q hq => dall q (e_suf_in q hq)) rn_k1447 hcuts
    · exact go CUTS _ (SK 1472) (fun q hq => dall q (e_suf_in q hq)) rn_k1472 hcuts
    · exact go CUTS _ (SK 1497) (fun q hq => dall q (e_suf_in q hq)) rn_k1497 hcuts
    · exact go CUTS _ (SK 1522) (fun q hq => dall q (e_suf_in q hq)) rn_k1522 hcuts
  have dK : ∀ q ∈ e_tag tb_L_law, decode (mC mt_L_lawK) q.1 = .ok (q.2.2.1, q.2.2.2) := by
    intro q hq
    obtain ⟨q0, h1, rfl⟩ := List.mem_map.mp hq
    have h2 := dall q0 h1
    split
    · exact h2
    · exact h2
  have XK9 : Ctx OWN (dC, dI) cy ν b mt_L_lawK RL p (mRm mt_L_law) s m #[Value.ref b] meth c (fun q => s.heap.size ≤ q) true := ⟨hx, hb, hml, by decide +kernel, hown, fun w hw => hts w (big_in w hw), hKK, fun _ h => h, fun h => absurd h (by decide), rfl, ⟨dK, fun h => absurd h (by decide)⟩, fun _ => scr⟩
  have s0 : Safe (dC, dI) cy ν b [] [] mt_L_lawK p l e (mRm mt_L_law) s m #[Value.ref b] below meth c (fun q => s.heap.size ≤ q) (lw_Z below #[Value.ref b] s) ST0 := by
    obtain ⟨outs, h4, h5⟩ := e_good_ok rn_law
    refine e_sound pok 30000 true true mt_L_lawK _ ST0 outs h4 dK [] RL p e _ s m #[Value.ref b] below meth c _ _ XK9 (ret_law hx hb hr hlocks h5) (fun _ S' h => ?_)
    obtain ⟨t, ht, rfl⟩ := List.mem_map.mp h
    exact hk t ht
  have hl := lv_entry ([.ref b]) (n := 7) (Nat.le_of_ble_eq_true rfl)
  rw [lg_entry_eq]
  generalize (lg_sl ([.ref b]) ++ List.replicate (7 - (lg_sl ([.ref b])).length) Slot.unset).toArray = ls at hl ⊢
  have hE : genv ν EV0 := by
    intro k q hk
    have r := fun j => fb_rng (xs j)
    match k, hk with
    | 0, hk => cases hk; rw [hν 0 (by omega)]; have := r 0; exact ⟨by omega, by omega⟩
    | 1, hk => cases hk; rw [hν 1 (by omega)]; have := r 1; exact ⟨by omega, by omega⟩
    | 2, hk => cases hk; rw [hν 2 (by omega)]; have := r 2; exact ⟨by omega, by omega⟩
    | 3, hk => cases hk; rw [hν 3 (by omega)]; have := r 3; exact ⟨by omega, by omega⟩
    | 4, hk => cases hk; rw [hν 4 (by omega)]; have := r 4; exact ⟨by omega, by omega⟩
    | 5, hk => cases hk; rw [hν 5 (by omega)]; have := r 5; exact ⟨by omega, by omega⟩
    | 6, hk => cases hk; rw [hν6]; exact ⟨by omega, by omega⟩
    | k + 7, hk => simp [EV0] at hk
  exact s0 s.heap [] ls [(0, .ref b)] [] [] hl ⟨⟨rfl, rfl⟩, trivial⟩ trivial hE ⟨⟨rfl, fun i c h => by simp [ST0] at h⟩, fun k q h => by simp at h, ⟨fun i j p q h => by simp at h, fun k q h => by simp at h⟩, va_S.rf⟩ ⟨[], rfl⟩
-- ===== YOUR PART ENDS =====
set_option maxHeartbeats 4000000 in
theorem lw_walk (l : Launch) (hfl : l.flags = flags0) (b : Addr) (xs : List Int32) : MetFree l x (headSpec (Jvm.Cond.code x code maxLocals ret :: tables_1) room_1) (lw_P b xs) (fun _ _ _ _ _ => True) lw_Q := by
  refine MetFree.of_bodyS (code := code) (maxLocals := maxLocals) (ret := ret) (by decide) ?_ ?_
  · intro args s m h hn
    obtain ⟨meth, c, h1, h2, h3, h4, h5, h6, -, -⟩ := Cond.code_spec hn (atoms_spec (ws := Jvm.Cond.code x code maxLocals ret :: tables_1) h _ List.mem_cons_self)
    exact ⟨meth, c, h1, h2, h3, h4, h5, h6⟩
  · intro p e s m args below meth c s₁ B hml0 hP _
    obtain ⟨rfl, hx, hbd, hgv⟩ := hP
    obtain ⟨scr, harrAt, hlist, hof, hsmall⟩ := hx
    obtain ⟨hcb, hkn, -, -⟩ := State.arrayAt?_spec harrAt
    have hown : s.vm.findClass R_law = some m.cls := findClass_of_methodNamed B.named
    have hts0 : ∀ c ∈ (Jvm.Cond.code x code maxLocals ret :: tables_1), c.before #[Value.ref b] s = true := atoms_spec (ws := Jvm.Cond.code x code maxLocals ret :: tables_1) B.pre
    have hts : ∀ w ∈ lw_tbl, w.before #[Value.ref b] s = true := k2_hts_sels lw_privs (fun w hw => hts0 w (List.mem_cons_of_mem _ hw)) lw_privs_ok
    have hml : c.maxLocals = 7 := B.maxLocals_eq (hts0 _ List.mem_cons_self)
    have X₀ : Stand p l e room_1 s m #[Value.ref b] below meth c s₁ [] 0 0 := Stand.of_body B
    have hh0 : s₁.heap = s.heap := by rw [B.state]; rfl
    have hsz : scr.slots.size = xs.length := by rw [← Array.length_toList, hlist, List.length_map]
    have hval : ∀ j : Nat, j < xs.length → scr.slots[j]? = some (.int (xs.getD j 0)) := fun j hj => by
      rw [← Array.getElem?_toList, hlist]
      simp [hj]
    have hbl : b < s.heap.size := (Array.getElem?_eq_some_iff.mp hcb).1
    have hX : va_X b xs.length (fun j => xs.getD j 0) s s.heap := ⟨scr, hcb, hof, hkn, hsz, hval⟩
    have K : W p l e room_1 s m #[Value.ref b] below meth c s₁.heap [] 0 0 (lw_Z below #[Value.ref b] s) (entryFrame m ([Value.ref b] : List Value).toArray 7) := by
      rw [hh0]
      exact whole_start l hfl hbd ⟨B.exec, B.bytes, B.returns, hml, hown, hts, hX, hbl, B.notSynchronized, hgv⟩
    obtain ⟨t, a1, o, b1, b2, b3⟩ := K s₁ rfl X₀
    exact ⟨t, o, a1, b1, b2, b3⟩
theorem lw_pre_spec {args : Array Value} {s : State} (h : (Jvm.Cond.and given_1 narrow_1).before args s = true) (hr : rest_1_c.before args s = true) : ∃ (b : Addr) (xs : List Int32), lw_P b xs args s := by
  have hs := flat_of_before _ h
  have hq := flat_of_before _ hr
  have hc : (Cond.count 1).before args s = true := hs _ (by decide +kernel)
  have harr : (Cond.arrayOf (.arg 0) .int).before args s = true := hs _ (by decide +kernel)
  have hle : (Cond.le (.length (.arg 0)) (.int 6)).before args s = true := hs _ (by decide +kernel)
  have hlen : (Cond.isInt (.length (.arg 0))).before args s = true := hq _ (by decide +kernel)
  have hall : (Cond.all (.arg 0) (.isInt (.elem (.arg 0) (.index 0)))).before args s = true := hq _ (by decide +kernel)
  obtain ⟨b, xs, hb, hx⟩ := State.ints_of_pre rfl harr hlen hall
  have hsm : xs.length < 2 ^ 31 := hx.choose_spec.2.2.2
  have hev : (Term.length (.arg 0)).eval args s none [] s = some (.int xs.length.toInt32) := hx.length_eval hb
  have hv := Cond.le_ints hev (show (Term.int 6).eval args s none [] s = some (.int 6) from rfl)
  have hd : xs.length.toInt32 ≤ 6 := by
    simpa [Cond.before, Cond.holds, hv] using hle
  have hN : xs.length ≤ 6 := (Int32.ofNat_le_ofNat hsm (by decide)).mp (show Int32.ofNat xs.length ≤ Int32.ofNat 6 from hd)
  exact ⟨b, xs, Cond.one_arg hc (show args[0]? = some (.ref b) from hb), hx, hN, h⟩
theorem lw_comes (l : Launch) (hfl : l.flags = flags0) : Comes l x (Jvm.Cond.code x code maxLocals ret :: tables_1) room_1 (fun tb e args s => Calls_1 tb e args s ∧ rest_1 tb e args s ∧ Pre_1 tb e args s)
    (fun _ _ args s o t => lw_Q args s o t) := by
  intro p e ha hc hk s m args below hf hfit hheap happ hpre
  obtain ⟨b, xs, hP⟩ := lw_pre_spec hpre.2.2 hpre.2.1
  obtain ⟨k, o, h1, h2, h3, hQ⟩ := lw_walk l hfl b xs p e ha hc hk s m args below hf ((Spec.applies_iff_loose hf).mp happ).1 hP trivial
  exact ⟨k, o, h1, h2, h3, hQ⟩
theorem lw_frame {s t : State} {o : Outcome} {args : Array Value} (h : Framed s o t [] 600002 7302232) :
    Framed s o t (fieldLocs frame_1_writes args s ++ arrayLocs frame_1_arrays args s ++ staticLocs frame_1_statics s) 600002 7302232 := h
theorem lw_limb (L : Cond) (hL : ∀ (args : Array Value) (s t : State), L.after args s (.returned (some (.int 1))) t = true) :
    ArmFor flags0 classFile x code maxLocals ret World_1 tables_1 room_1 Calls_1 rest_1 Pre_1
      (fun tb e a s o t => postC L tb e a s o t ∧ Framed s o t (fieldLocs frame_1_writes a s ++ arrayLocs frame_1_arrays a s ++ staticLocs frame_1_statics s) 600002 7302232) := by
  intro l hfl _ _ p e ha hc hk s m args below hf hfit hheap happ hpre
  obtain ⟨k, o, h1, h2, h3, rfl, hF⟩ := lw_comes l hfl p e ha hc hk s m args below hf hfit hheap happ hpre
  exact ⟨k, _, h1, h2, h3, hL args s _, lw_frame hF⟩
theorem i_vc : Claimed_1_1 ∧ Claimed_1_2 := ⟨lw_limb limb_1_1 (fun args s t => by simp [limb_1_1, Cond.after, Cond.holds, Cond.value]), lw_limb limb_1_2 (fun args s t => Cond.after_iff.mpr (by
  first | (rw [show limb_1_2 = Cond.eq .result (.int 1) from rfl, Cond.eq_ints (x := 1) (y := 1) rfl rfl]; simp; done) | (simp [limb_1_2, Cond.value, Term.eval]; done)))⟩

