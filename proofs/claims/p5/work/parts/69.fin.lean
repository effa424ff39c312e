-- ===== end of PART A; then your names; then what follows =====
/-! THE CLAIM OUT OF ONE WALK OF THE LAW'S BODY. Your part is whole_start (and what it stands on); all else here is the same for every law, but numbers. -/
def R_law : String := "NounFastLaw"
def lw_P (b : Addr) (xs : List Int32) (args : Array Value) (s : State) : Prop := args = #[.ref b] ∧ s.IntsAt b xs ∧ xs.length ≤ 3072 ∧ (Jvm.Cond.and given_1 narrow_1).before args s = true
def lw_Q (_ : Array Value) (s : State) (o : Outcome) (t : State) : Prop := o = .returned (some (.int 1)) ∧ Framed s o t [] 601024 7293034
def lw_Z (below : List Frame) (a : Array Value) (s : State) : State → Prop := fun t => ∃ o, t.status = .running ∧ Ended t below o ∧ lw_Q a s o t
/-- the law's own end, with 1 on the stack, nothing written that was there before, its room as the claim has it -/
theorem lw_ret {p : Program} {l : Launch} {e : Env} {s : State} {m : MethodId} {below : List Frame} {meth : Method} {c : Code} {b : Nat} (hx : p.tables.exec = Jvm.exec) (hb : c.code = code) (hr : meth.sig.returnType = ret) (hlocks : meth.locks = false) {pc : Nat} {H : Heap} {ls : Array Slot} (hdg : decode code pc = .ok (.ireturn, 1)) : W p l e room_1 s m #[Value.ref b] below meth c H [] 601024 7293034 (lw_Z below #[Value.ref b] s) (F0 m pc ls [.int 1]) := by
  intro T hT X
  obtain ⟨fs, hret, hrun, hended, hW, hframe⟩ := X.leave (v := some (.int 1)) (hlocks := hlocks) (fun h => by rw [hr] at h; cases h)
  have hmeth' : T.vm.method? m = some meth := X.method'
  refine ⟨T.setFrames fs, ?_, .returned (some (.int 1)), hrun, hended, rfl, ⟨_, rfl⟩, hW, hframe⟩
  jvm_step X.here [X.here.top, hx, hb, hdg, hmeth', hr, ret, narrow_b1]
  (try refine ⟨rfl, ?_⟩); (try refine ⟨rfl, ?_⟩)
  first | (intro acts; rw [hret _ acts rfl rfl rfl]) | rw [hret _ _ rfl rfl rfl]
  exact Steps.refl _
/-- what holds at the law's entry: the machine, the code, the tables' words (any of lw_tbl by 'hts w (by decide +kernel)'), the script of L ints xs at the cell b, what the Statement gives of the start (any of its parts by flat_of_before) -/
def lw_At (p : Program) (s : State) (m : MethodId) (meth : Method) (c : Code) (b L : Nat) (xs : Nat → Int32) : Prop :=
  p.tables.exec = Jvm.exec ∧ c.code = code ∧ meth.sig.returnType = ret ∧ c.maxLocals = 7 ∧ s.vm.findClass R_law = some m.cls ∧ (∀ w ∈ lw_tbl, w.before #[Value.ref b] s = true) ∧ va_X b L xs s s.heap ∧ b < s.heap.size ∧ meth.locks = false ∧ (Jvm.Cond.and given_1 narrow_1).before #[Value.ref b] s = true
def tby_0 : List Int32 := [112, 108, 97, 99, 101, 32, 32, 32, 109, 97, 114, 107, 32, 32, 32, 32, 116, 104, 105, 110, 103, 32, 32, 32, 112, 101, 114, 115, 111, 110, 32, 32, 102, 105, 110, 101, 32, 32, 32, 32, 109, 105, 116, 101, 32, 32, 32, 32, 119, 97, 103, 101, 32, 32, 32, 32, 102, 97, 115, 116, 32, 32, 32, 32, 105, 115, 32, 32, 32, 32, 32, 32, 107, 110, 111, 119, 115, 32, 32, 32, 102, 111, 114, 101, 105, 103, 110, 32]
set_option maxRecDepth 100000 in
theorem tbl_0_e : ((flatC (Jvm.Cond.and given_1 narrow_1)).drop 76).take 88 = (List.range 88).map (fun j => Cond.eq (.elem (.field (.string "NounFast$Text" 86) "java/lang/String" "value" "[B") (.int (Int32.ofNat j))) (.int (tby_0.getD j 0))) := by decide +kernel
theorem tbm_0 : ∀ j : Fin 88, Cond.eq (.elem (.field (.string "NounFast$Text" 86) "java/lang/String" "value" "[B") (.int (Int32.ofNat j.val))) (.int (tby_0.getD j.val 0)) ∈ flatC (Jvm.Cond.and given_1 narrow_1) := fun j => List.mem_of_mem_drop (List.mem_of_mem_take (by rw [tbl_0_e]; exact List.mem_map.mpr ⟨j.val, List.mem_range.mpr j.isLt, rfl⟩))
def tby_1 : List Int32 := [103, 111, 101, 115, 32, 32, 32, 32, 97, 115, 107, 115, 32, 32, 32, 32, 110, 97, 109, 101, 115, 32, 32, 32, 112, 111, 105, 110, 116, 115, 32, 32, 112, 117, 116, 115, 32, 32, 32, 32, 108, 101, 97, 114, 110, 115, 32, 32, 100, 97, 121, 32, 32, 32, 32, 32]
set_option maxRecDepth 100000 in
theorem tbl_1_e : ((flatC (Jvm.Cond.and given_1 narrow_1)).drop 168).take 56 = (List.range 56).map (fun j => Cond.eq (.elem (.field (.string "NounFast$Text" 92) "java/lang/String" "value" "[B") (.int (Int32.ofNat j))) (.int (tby_1.getD j 0))) := by decide +kernel
theorem tbm_1 : ∀ j : Fin 56, Cond.eq (.elem (.field (.string "NounFast$Text" 92) "java/lang/String" "value" "[B") (.int (Int32.ofNat j.val))) (.int (tby_1.getD j.val 0)) ∈ flatC (Jvm.Cond.and given_1 narrow_1) := fun j => List.mem_of_mem_drop (List.mem_of_mem_take (by rw [tbl_1_e]; exact List.mem_map.mpr ⟨j.val, List.mem_range.mpr j.isLt, rfl⟩))
def tby_2 : List Int32 := [111, 114, 32, 32, 32, 32, 32, 32, 97, 110, 100, 32, 32, 32, 32, 32, 110, 111, 116, 32, 32, 32, 32, 32, 99, 97, 114, 114, 105, 101, 100, 32, 108, 111, 110, 101, 32, 32, 32, 32, 104, 97, 115, 32, 32, 32, 32, 32, 97, 116, 32, 32, 32, 32, 32, 32, 119, 105, 116, 104, 32, 32, 32, 32, 109, 97, 114, 107, 115, 32, 32, 32, 110, 97, 109, 101, 100, 32, 32, 32, 110, 117, 109, 98, 101, 114, 32, 32]
theorem tz_of {x : List Int} {y : List Int32} (h : y = x.map Int32.ofInt) (j : Nat) : y.getD j 0 = Int32.ofInt (x.getD j 0) := by
  subst h
  rw [List.getD_eq_getElem?_getD, List.getD_eq_getElem?_getD, List.getElem?_map]
  cases x[j]? <;> rfl
theorem tz_0 : tby_0 = (ztx 10).map Int32.ofInt := by decide +kernel
theorem tz_1 : tby_1 = (ztx 11).map Int32.ofInt := by decide +kernel
theorem tz_2 : tby_2 = (ztx 12).map Int32.ofInt := by decide +kernel
set_option maxRecDepth 100000 in
theorem tbl_2_e : ((flatC (Jvm.Cond.and given_1 narrow_1)).drop 229).take 88 = (List.range 88).map (fun j => Cond.eq (.elem (.field (.string "NounFast$Text" 94) "java/lang/String" "value" "[B") (.int (Int32.ofNat j))) (.int (tby_2.getD j 0))) := by decide +kernel
theorem tbm_2 : ∀ j : Fin 88, Cond.eq (.elem (.field (.string "NounFast$Text" 94) "java/lang/String" "value" "[B") (.int (Int32.ofNat j.val))) (.int (tby_2.getD j.val 0)) ∈ flatC (Jvm.Cond.and given_1 narrow_1) := fun j => List.mem_of_mem_drop (List.mem_of_mem_take (by rw [tbl_2_e]; exact List.mem_map.mpr ⟨j.val, List.mem_range.mpr j.isLt, rfl⟩))
theorem arr_of {args : Array Value} {s : State} {ty : FieldType} (h : (Cond.arrayClass ty).before args s = true) (hp : ∀ cA : ClassId, s.vm.findClass ("[" ++ ty.toString) = some cA → va_RA s cA ty) : ∃ cA : ClassId, ArrOfT s cA ty ∧ va_RA s cA ty := by
  obtain ⟨c, k, comp, h1, h2, h3⟩ := Cond.arrayClass_spec h
  exact ⟨c, fun n z => ⟨fun k9 h9 => (by cases h9), k, h2, comp, h3⟩, hp c h1⟩
theorem arr_ofo {args : Array Value} {s : State} {C : String} (h : (Cond.arrayOver (.object C)).before args s = true) : ∃ cA : ClassId, ArrOfT s cA (.object C) ∧ va_RA s cA (.object C) := by
  obtain ⟨comp, c, k, h1, -, h3, h4, h5⟩ := Cond.arrayOver_spec h
  exact ⟨c, fun n z => ⟨fun k9 h9 => (by cases h9), k, h3, comp, h4⟩, k, comp, h3, h4, h1, h5⟩
set_option maxHeartbeats 8000000 in
set_option maxRecDepth 100000 in
theorem whole_start {p : Program} {e : Env} {s : State} {m : MethodId} {below : List Frame} {meth : Method} {c : Code} (l : Launch) (hfl : l.flags = flags0) {b L : Nat} {xs : Nat → Int32} (hL : L ≤ 3072) (C0 : lw_At p s m meth c b L xs) : W p l e room_1 s m #[Value.ref b] below meth c s.heap [] 0 0 (lw_Z below #[Value.ref b] s) (entryFrame m ([Value.ref b] : List Value).toArray 7) := by
  obtain ⟨hx, hb, hr, hml, hown, hts, hX, hbl, hlocks, hgv⟩ := id C0
  have hst : l.stackTraces = false := by unfold Launch.stackTraces; rw [hfl]; decide +kernel
  obtain ⟨c0, iS0, hKn0⟩ := u_known (C := RX0) (T := TX0) (N := 6) (n := 6) hts inX0 (hts (.instantiable RX0 6) (by decide +kernel))
  obtain ⟨c1, iS1, hKn1⟩ := u_known (C := RX1) (T := TX1) (N := 9) (n := 9) hts inX1 (hts (.instantiable RX1 9) (by decide +kernel))
  obtain ⟨c2, iS2, hKn2⟩ := u_known (C := RX2) (T := TX2) (N := 3) (n := 3) hts inX2 (hts (.instantiable RX2 3) (by decide +kernel))
  obtain ⟨c3, iS3, hKn3⟩ := u_known (C := RX3) (T := TX3) (N := 1) (n := 1) hts inX3 (hts (.instantiable RX3 1) (by decide +kernel))
  obtain ⟨c4, iS4, hKn4⟩ := u_known (C := RX4) (T := TX4) (N := 3) (n := 3) hts inX4 (hts (.instantiable RX4 3) (by decide +kernel))
  obtain ⟨c5, iS5, hKn5⟩ := u_known (C := RX6) (T := TX6) (N := 2) (n := 2) hts inX6 (hts (.instantiable RX6 2) (by decide +kernel))
  obtain ⟨c6, iS6, hKn6⟩ := u_known (C := RX7) (T := TX7) (N := 10) (n := 10) hts inX7 (hts (.instantiable RX7 10) (by decide +kernel))
  obtain ⟨c7, iS7, hKn7⟩ := u_known (C := RX8) (T := TX8) (N := 6) (n := 6) hts inX8 (hts (.instantiable RX8 6) (by decide +kernel))
  obtain ⟨c8, iS8, hKn8⟩ := u_known (C := RX9) (T := TX9) (N := 2) (n := 2) hts inX9 (hts (.instantiable RX9 2) (by decide +kernel))
  obtain ⟨c9, iS9, hKn9⟩ := u_known (C := RX10) (T := TX10) (N := 11) (n := 11) hts inX10 (hts (.instantiable RX10 11) (by decide +kernel))
  obtain ⟨c10, iS10, hKn10⟩ := u_known (C := RX11) (T := TX11) (N := 18) (n := 18) hts inX11 (hts (.instantiable RX11 18) (by decide +kernel))
  obtain ⟨c11, iS11, hKn11⟩ := u_known (C := RX12) (T := TX12) (N := 53) (n := 53) hts inX12 (hts (.instantiable RX12 53) (by decide +kernel))
  obtain ⟨dC, dI, hKc⟩ : ∃ (dC : Nat → ClassId) (dI : Nat → Nat → Nat), ∀ (k : Nat) (q : vw_C), vwCl[k]? = some q → u_Kn s q.1 q.2.1 q.2.2 (dC k) (dI k) := by
    refine ⟨fun k => match k with | 0 => c0 | 1 => c1 | 2 => c2 | 3 => c3 | 4 => c4 | 5 => c5 | 6 => c6 | 7 => c7 | 8 => c8 | 9 => c9 | 10 => c10 | _ => c11, fun k => match k with | 0 => iS0 | 1 => iS1 | 2 => iS2 | 3 => iS3 | 4 => iS4 | 5 => iS5 | 6 => iS6 | 7 => iS7 | 8 => iS8 | 9 => iS9 | 10 => iS10 | _ => iS11, ?_⟩
    intro k q hq
    match k, hq with
    | 0, hq => cases hq; exact hKn0
    | 1, hq => cases hq; exact hKn1
    | 2, hq => cases hq; exact hKn2
    | 3, hq => cases hq; exact hKn3
    | 4, hq => cases hq; exact hKn4
    | 5, hq => cases hq; exact hKn5
    | 6, hq => cases hq; exact hKn6
    | 7, hq => cases hq; exact hKn7
    | 8, hq => cases hq; exact hKn8
    | 9, hq => cases hq; exact hKn9
    | 10, hq => cases hq; exact hKn10
    | 11, hq => cases hq; exact hKn11
    | k + 12, hq => simp [vwCl] at hq
  obtain ⟨y0, hy0⟩ := arr_of (hts (.arrayClass .int) (by decide +kernel)) (fun _ h => h)
  obtain ⟨y1, hy1⟩ := arr_of (hts (.arrayClass .byte) (by decide +kernel)) (fun _ h => h)
  obtain ⟨y2, hy2⟩ := arr_of (hts (.arrayClass .boolean) (by decide +kernel)) (fun _ h => h)
  obtain ⟨y3, hy3⟩ := arr_of (hts (.arrayClass .long) (by decide +kernel)) (fun _ h => h)
  obtain ⟨y4, hy4⟩ := arr_ofo (hts (.arrayOver (.object "NounFast$Scene")) (by decide +kernel))
  obtain ⟨y5, hy5⟩ := arr_ofo (hts (.arrayOver (.object "NounFast$Sentence")) (by decide +kernel))
  obtain ⟨cy, hcy⟩ : ∃ cy : Nat → ClassId, va_K (dC, dI) vwCl (atys cy) s := by
    refine ⟨fun t => match t with | 0 => y0 | 1 => y1 | 2 => y2 | 3 => y3 | 4 => y4 | _ => y5, hKc, ?_⟩
    intro k q hq
    match k, hq with
    | 0, hq => cases hq; exact hy0
    | 1, hq => cases hq; exact hy1
    | 2, hq => cases hq; exact hy2
    | 3, hq => cases hq; exact hy3
    | 4, hq => cases hq; exact hy4
    | 5, hq => cases hq; exact hy5
    | k + 6, hq => simp [atys] at hq
  have hKK : KK (dC, dI) cy s := by
    refine ⟨hcy, fun w hw => ?_, va_AO.of (hts (.arrayOver (.object "NounFast$Scene")) (by decide +kernel)), va_AO.of (hts (.arrayOver (.object "NounFast$Sentence")) (by decide +kernel))⟩
    have h1 := List.mem_filter.mp hw
    have h2 := h1.2
    have h3 := hts w h1.1
    unfold isNest at h2
    split at h2
    · exact va_Nw.of rfl h3
    · exact va_Nw.of rfl h3
    · cases h2
  have hs := flat_of_before _ hgv
  have hnA : ∀ a : Nat, a < s.heap.size → ¬ (fun q : Nat => s.heap.size ≤ q) a := fun a h => Nat.not_le.mpr h
  have hXK : XK (fun q => s.heap.size ≤ q) s := by
    refine ⟨fun w hw => ?_, ?_, ?_, fun q hq => ?_⟩
    · have g2 := List.all_eq_true.mp xbad_mov w hw
      have g1 := hts w (xbad_in w hw)
      unfold isMov at g2
      split at g2
      · exact va_Nw.of rfl g1
      · exact va_Nw.of rfl g1
      · cases g2
    · exact vx_Zqof (hts (.laysStatic Bundle.tN "UNASSIGNED_STACK" Bundle.steD) (by decide +kernel)) (hts (.initialized Bundle.tN) (by decide +kernel)) (hs (.isRef (.static Bundle.tN "UNASSIGNED_STACK" Bundle.steD)) (by decide +kernel)) hnA
    · exact vx_Zqof (hts (.laysStatic Bundle.tN "SUPPRESSED_SENTINEL" Bundle.listD) (by decide +kernel)) (hts (.initialized Bundle.tN) (by decide +kernel)) (hs (.isRef (.static Bundle.tN "SUPPRESSED_SENTINEL" Bundle.listD)) (by decide +kernel)) hnA
    · have key : ∀ (k : Nat) (tx : String), Cond.stringRef RX11 k tx ∈ lw_tbl → (Cond.exactly (.string RX11 k) "java/lang/String").before #[Value.ref b] s = true → ∃ sa, vk_R RX11 k tx sa s := by
        intro k tx h1 h2
        obtain ⟨a, c9, cell, k9, h3, -⟩ := Cond.exactly_spec h2
        exact ⟨a, vk_R.of (A := #[Value.ref b]) (hts _ h1) h3⟩
      simp only [XSTR, List.mem_cons, List.not_mem_nil, or_false] at hq
      rcases hq with rfl | rfl | rfl | rfl | rfl | rfl | rfl
      · exact key 148 "no such thing" (by decide +kernel) (hs _ (by decide +kernel))
      · exact key 167 "nothing such of a thing" (by decide +kernel) (hs _ (by decide +kernel))
      · exact key 169 "no such person" (by decide +kernel) (hs _ (by decide +kernel))
      · exact key 187 "nothing such of a person" (by decide +kernel) (hs _ (by decide +kernel))
      · exact key 281 "a fraction has two numbers" (by decide +kernel) (hs _ (by decide +kernel))
      · exact key 283 "no such ones" (by decide +kernel) (hs _ (by decide +kernel))
      · exact key 285 "it is carried or has no marks" (by decide +kernel) (hs _ (by decide +kernel))
  obtain ⟨t20, ht20, hT20⟩ := va_Tof (tm := (.static "NounFast" "MOST_OF_SORT" "[I")) (ty := .int) (N := 4) (f := fun j => .int (Int32.ofInt (([4, 10, 8, 6] : List Int).getD j 0))) (A := fun q => s.heap.size ≤ q) (by decide) (hs (.arrayOf (.static "NounFast" "MOST_OF_SORT" "[I") .int) (by decide +kernel)) (va_eqt (hs (.eq (.length (.static "NounFast" "MOST_OF_SORT" "[I")) (.int 4)) (by decide +kernel))) (fun j hj => by
    rcases (show j = 0 ∨ j = 1 ∨ j = 2 ∨ j = 3 by omega) with rfl | rfl | rfl | rfl
    · exact va_eqt (hs (.eq (.elem (.static "NounFast" "MOST_OF_SORT" "[I") (.int 0)) (.int 4)) (by decide +kernel))
    · exact va_eqt (hs (.eq (.elem (.static "NounFast" "MOST_OF_SORT" "[I") (.int 1)) (.int 10)) (by decide +kernel))
    · exact va_eqt (hs (.eq (.elem (.static "NounFast" "MOST_OF_SORT" "[I") (.int 2)) (.int 8)) (by decide +kernel))
    · exact va_eqt (hs (.eq (.elem (.static "NounFast" "MOST_OF_SORT" "[I") (.int 3)) (.int 6)) (by decide +kernel))) hnA
  have hZ20 := va_Zref (hts (.laysStatic "NounFast" "MOST_OF_SORT" "[I") (by decide +kernel)) (hts (.initialized "NounFast") (by decide +kernel)) ht20 hnA
  obtain ⟨t21, ht21, hT21⟩ := va_Tof (tm := (.static "NounFast" "LEAST_SETTING" "[I")) (ty := .int) (N := 4) (f := fun j => .int (Int32.ofInt (([1, 0, 0, 0] : List Int).getD j 0))) (A := fun q => s.heap.size ≤ q) (by decide) (hs (.arrayOf (.static "NounFast" "LEAST_SETTING" "[I") .int) (by decide +kernel)) (va_eqt (hs (.eq (.length (.static "NounFast" "LEAST_SETTING" "[I")) (.int 4)) (by decide +kernel))) (fun j hj => by
    rcases (show j = 0 ∨ j = 1 ∨ j = 2 ∨ j = 3 by omega) with rfl | rfl | rfl | rfl
    · exact va_eqt (hs (.eq (.elem (.static "NounFast" "LEAST_SETTING" "[I") (.int 0)) (.int 1)) (by decide +kernel))
    · exact va_eqt (hs (.eq (.elem (.static "NounFast" "LEAST_SETTING" "[I") (.int 1)) (.int 0)) (by decide +kernel))
    · exact va_eqt (hs (.eq (.elem (.static "NounFast" "LEAST_SETTING" "[I") (.int 2)) (.int 0)) (by decide +kernel))
    · exact va_eqt (hs (.eq (.elem (.static "NounFast" "LEAST_SETTING" "[I") (.int 3)) (.int 0)) (by decide +kernel))) hnA
  have hZ21 := va_Zref (hts (.laysStatic "NounFast" "LEAST_SETTING" "[I") (by decide +kernel)) (hts (.initialized "NounFast") (by decide +kernel)) ht21 hnA
  obtain ⟨t22, ht22, hT22⟩ := va_Tof (tm := (.static "NounFast" "MOST_SETTING" "[I")) (ty := .int) (N := 4) (f := fun j => .int (Int32.ofInt (([20, 9, 9, 6] : List Int).getD j 0))) (A := fun q => s.heap.size ≤ q) (by decide) (hs (.arrayOf (.static "NounFast" "MOST_SETTING" "[I") .int) (by decide +kernel)) (va_eqt (hs (.eq (.length (.static "NounFast" "MOST_SETTING" "[I")) (.int 4)) (by decide +kernel))) (fun j hj => by
    rcases (show j = 0 ∨ j = 1 ∨ j = 2 ∨ j = 3 by omega) with rfl | rfl | rfl | rfl
    · exact va_eqt (hs (.eq (.elem (.static "NounFast" "MOST_SETTING" "[I") (.int 0)) (.int 20)) (by decide +kernel))
    · exact va_eqt (hs (.eq (.elem (.static "NounFast" "MOST_SETTING" "[I") (.int 1)) (.int 9)) (by decide +kernel))
    · exact va_eqt (hs (.eq (.elem (.static "NounFast" "MOST_SETTING" "[I") (.int 2)) (.int 9)) (by decide +kernel))
    · exact va_eqt (hs (.eq (.elem (.static "NounFast" "MOST_SETTING" "[I") (.int 3)) (.int 6)) (by decide +kernel))) hnA
  have hZ22 := va_Zref (hts (.laysStatic "NounFast" "MOST_SETTING" "[I") (by decide +kernel)) (hts (.initialized "NounFast") (by decide +kernel)) ht22 hnA
  have hC1 : va_Z jS "COMPACT_STRINGS" "Z" (.int 1) (fun q => s.heap.size ≤ q) s s.heap := va_Zof (hts (.laysStatic "java/lang/String" "COMPACT_STRINGS" "Z") (by decide +kernel)) (hts (.initialized "java/lang/String") (by decide +kernel)) (va_eqi (hs (.eq (.static "java/lang/String" "COMPACT_STRINGS" "Z") (.int 1)) (by decide +kernel))) hnA
  have hC2 : va_Zq "jdk/internal/util/Preconditions" "SIOOBE_FORMATTER" "Ljava/util/function/BiFunction;" (fun q => s.heap.size ≤ q) s s.heap := va_Zqof (hts (.laysStatic "jdk/internal/util/Preconditions" "SIOOBE_FORMATTER" "Ljava/util/function/BiFunction;") (by decide +kernel)) (hts (.initialized "jdk/internal/util/Preconditions") (by decide +kernel)) (hs (.isRef (.static "jdk/internal/util/Preconditions" "SIOOBE_FORMATTER" "Ljava/util/function/BiFunction;")) (by decide +kernel)) hnA
  obtain ⟨adK, adV, hTS, hTE⟩ := vk_Sof (args := #[Value.ref b]) (s := s) (N := 3) (tm := fun i => Term.string "NounFast$Text" ([86, 92, 94].getD i 0)) (len := [88, 56, 88]) (byt := [tby_0, tby_1, tby_2]) (A := fun q => s.heap.size ≤ q)
   (fun i hi => by
    rcases (show i = 0 ∨ i = 1 ∨ i = 2 by omega) with rfl | rfl | rfl
    · decide
    · decide
    · decide)
   (fun i hi => by
    rcases (show i = 0 ∨ i = 1 ∨ i = 2 by omega) with rfl | rfl | rfl
    · exact hs (.exactly (.string "NounFast$Text" 86) "java/lang/String") (by decide +kernel)
    · exact hs (.exactly (.string "NounFast$Text" 92) "java/lang/String") (by decide +kernel)
    · exact hs (.exactly (.string "NounFast$Text" 94) "java/lang/String") (by decide +kernel))
   (fun i hi => by
    rcases (show i = 0 ∨ i = 1 ∨ i = 2 by omega) with rfl | rfl | rfl
    · exact hs (.eq (.field (.string "NounFast$Text" 86) "java/lang/String" "coder" "B") (.int 0)) (by decide +kernel)
    · exact hs (.eq (.field (.string "NounFast$Text" 92) "java/lang/String" "coder" "B") (.int 0)) (by decide +kernel)
    · exact hs (.eq (.field (.string "NounFast$Text" 94) "java/lang/String" "coder" "B") (.int 0)) (by decide +kernel))
   (fun i hi => by
    rcases (show i = 0 ∨ i = 1 ∨ i = 2 by omega) with rfl | rfl | rfl
    · exact hs (.arrayOf (.field (.string "NounFast$Text" 86) "java/lang/String" "value" "[B") .byte) (by decide +kernel)
    · exact hs (.arrayOf (.field (.string "NounFast$Text" 92) "java/lang/String" "value" "[B") .byte) (by decide +kernel)
    · exact hs (.arrayOf (.field (.string "NounFast$Text" 94) "java/lang/String" "value" "[B") .byte) (by decide +kernel))
   (fun i hi => by
    rcases (show i = 0 ∨ i = 1 ∨ i = 2 by omega) with rfl | rfl | rfl
    · exact hs (.eq (.length (.field (.string "NounFast$Text" 86) "java/lang/String" "value" "[B")) (.int 88)) (by decide +kernel)
    · exact hs (.eq (.length (.field (.string "NounFast$Text" 92) "java/lang/String" "value" "[B")) (.int 56)) (by decide +kernel)
    · exact hs (.eq (.length (.field (.string "NounFast$Text" 94) "java/lang/String" "value" "[B")) (.int 88)) (by decide +kernel))
   (fun i hi => by
    rcases (show i = 0 ∨ i = 1 ∨ i = 2 by omega) with rfl | rfl | rfl
    · exact fun j hj => hs _ (tbm_0 ⟨j, hj⟩)
    · exact fun j hj => hs _ (tbm_1 ⟨j, hj⟩)
    · exact fun j hj => hs _ (tbm_2 ⟨j, hj⟩))
   (fun i j hi hj hij => by
    rcases (show (i = 0 ∧ j = 1) ∨ (i = 1 ∧ j = 0) ∨ (i = 0 ∧ j = 2) ∨ (i = 2 ∧ j = 0) ∨ (i = 1 ∧ j = 2) ∨ (i = 2 ∧ j = 1) by omega) with ⟨rfl, rfl⟩ | ⟨rfl, rfl⟩ | ⟨rfl, rfl⟩ | ⟨rfl, rfl⟩ | ⟨rfl, rfl⟩ | ⟨rfl, rfl⟩
    · exact Or.inl (hs (.not (.eq (.string "NounFast$Text" 86) (.string "NounFast$Text" 92))) (by decide +kernel))
    · exact Or.inr (hs (.not (.eq (.string "NounFast$Text" 86) (.string "NounFast$Text" 92))) (by decide +kernel))
    · exact Or.inl (hs (.not (.eq (.string "NounFast$Text" 86) (.string "NounFast$Text" 94))) (by decide +kernel))
    · exact Or.inr (hs (.not (.eq (.string "NounFast$Text" 86) (.string "NounFast$Text" 94))) (by decide +kernel))
    · exact Or.inl (hs (.not (.eq (.string "NounFast$Text" 92) (.string "NounFast$Text" 94))) (by decide +kernel))
    · exact Or.inr (hs (.not (.eq (.string "NounFast$Text" 92) (.string "NounFast$Text" 94))) (by decide +kernel))) hnA
  obtain ⟨ex, x0, x1, x10, x11, x12, x20, x21, x22⟩ : ∃ ex : Nat → Nat, ex 0 = b ∧ ex 1 = L ∧ ex 10 = adK 0 ∧ ex 11 = adK 1 ∧ ex 12 = adK 2 ∧ ex 20 = t20 ∧ ex 21 = t21 ∧ ex 22 = t22 := ⟨fun k => match k with | 0 => b | 1 => L | 10 => adK 0 | 11 => adK 1 | 12 => adK 2 | 20 => t20 | 21 => t21 | 22 => t22 | _ => 0, rfl, rfl, rfl, rfl, rfl, rfl, rfl, rfl⟩
  have hEW : EWX xs ex (fun q => s.heap.size ≤ q) s := by
    refine ⟨⟨by rw [x0, x1]; exact hX, by rw [x0]; exact hbl, by rw [x0]; exact Nat.not_le.mpr hbl⟩, fun q hq => ?_, fun q hq => ?_, hXK⟩
    · simp only [ZROW, List.mem_cons, List.not_mem_nil, or_false] at hq
      rcases hq with rfl | rfl | rfl
      · exact ⟨by rw [x20]; exact hZ20, by rw [x20]; exact hT20⟩
      · exact ⟨by rw [x21]; exact hZ21, by rw [x21]; exact hT21⟩
      · exact ⟨by rw [x22]; exact hZ22, by rw [x22]; exact hT22⟩
    · simp only [ZTXT, List.mem_cons, List.not_mem_nil, or_false] at hq
      have key : ∀ (i : Nat), i < 3 → JA (adK i) (adV i) ([88, 56, 88].getD i 0) (fun j => ([tby_0, tby_1, tby_2].getD i []).getD j 0) (fun q => s.heap.size ≤ q) s := by
        intro i hi
        obtain ⟨g1, g2, g3, g4⟩ := hTS.1 i hi
        exact ⟨hC1, hC2, g1, g2, g3, g4⟩
      rcases hq with rfl | rfl | rfl
      · exact ⟨vk_R.of (A := #[Value.ref b]) (hts _ (by decide +kernel)) (by rw [x10]; exact hTE 0 (by omega)), _, _, fun j => tz_of tz_0 j, by rw [x10]; exact key 0 (by omega)⟩
      · exact ⟨vk_R.of (A := #[Value.ref b]) (hts _ (by decide +kernel)) (by rw [x11]; exact hTE 1 (by omega)), _, _, fun j => tz_of tz_1 j, by rw [x11]; exact key 1 (by omega)⟩
      · exact ⟨vk_R.of (A := #[Value.ref b]) (hts _ (by decide +kernel)) (by rw [x12]; exact hTE 2 (by omega)), _, _, fun j => tz_of tz_2 j, by rw [x12]; exact key 2 (by omega)⟩
  have hl := lv_entry ([.ref b]) (n := 7) (Nat.le_of_ble_eq_true rfl)
  rw [lg_entry_eq]
  generalize (lg_sl ([.ref b]) ++ List.replicate (7 - (lg_sl ([.ref b])).length) Slot.unset).toArray = ls at hl ⊢
  have hl : lv_has ls 7 [(0, .ref b)] := hl
  rw [← x0] at hl
  exact law_first (A := fun q => s.heap.size ≤ q) (ex := ex) (xs := xs) (D := (dC, dI)) (cy := cy) (fun j sp hj hs9 => spa_294 j sp (by rw [ln_spl] at hj; exact hj) hs9) (hpm hst) hx hb hml hown (fun w hw => hts w (big_in w hw)) hKK (fun _ h => h) hEW (by rw [x1]; exact hL) (fun H locs ls9 hS => va_forget (fun q hq => hS.2.2 q hq) (lw_ret hx hb hr hlocks dl_1470)) hl
-- ===== YOUR PART ENDS =====
set_option maxHeartbeats 4000000 in
theorem lw_walk (l : Launch) (hfl : l.flags = flags0) (b : Addr) (xs : List Int32) : MetFree l x (headSpec (Jvm.Cond.code x code maxLocals ret :: tables_1) room_1) (lw_P b xs) (fun _ _ _ _ _ => True) lw_Q := by
  refine MetFree.of_bodyS (code := code) (maxLocals := maxLocals) (ret := ret) (by decide) ?_ ?_
  · intro args s m h hn
    obtain ⟨meth, c, h1, h2, h3, h4, h5, h6, -, -⟩ := Cond.code_spec hn (atoms_spec (ws := Jvm.Cond.code x code maxLocals ret :: tables_1) h _ List.mem_cons_self)
    exact ⟨meth, c, h1, h2, h3, h4, h5, h6⟩
  · intro p e s m args below meth c s₁ B hml0 hP _
    obtain ⟨rfl, hx, hbd, hgv⟩ := hP
    obtain ⟨scr, harrAt, hlist, hof, hsmall⟩ := hx
    obtain ⟨hcb, hkn, -, -⟩ := State.arrayAt?_spec harrAt
    have hown : s.vm.findClass R_law = some m.cls := findClass_of_methodNamed B.named
    have hts0 : ∀ c ∈ (Jvm.Cond.code x code maxLocals ret :: tables_1), c.before #[Value.ref b] s = true := atoms_spec (ws := Jvm.Cond.code x code maxLocals ret :: tables_1) B.pre
    have hts : ∀ w ∈ lw_tbl, w.before #[Value.ref b] s = true := k2_hts_sels lw_privs (fun w hw => hts0 w (List.mem_cons_of_mem _ hw)) lw_privs_ok
    have hml : c.maxLocals = 7 := B.maxLocals_eq (hts0 _ List.mem_cons_self)
    have X₀ : Stand p l e room_1 s m #[Value.ref b] below meth c s₁ [] 0 0 := Stand.of_body B
    have hh0 : s₁.heap = s.heap := by rw [B.state]; rfl
    have hsz : scr.slots.size = xs.length := by rw [← Array.length_toList, hlist, List.length_map]
    have hval : ∀ j : Nat, j < xs.length → scr.slots[j]? = some (.int (xs.getD j 0)) := fun j hj => by
      rw [← Array.getElem?_toList, hlist]
      simp [hj]
    have hbl : b < s.heap.size := (Array.getElem?_eq_some_iff.mp hcb).1
    have hX : va_X b xs.length (fun j => xs.getD j 0) s s.heap := ⟨scr, hcb, hof, hkn, hsz, hval⟩
    have K : W p l e room_1 s m #[Value.ref b] below meth c s₁.heap [] 0 0 (lw_Z below #[Value.ref b] s) (entryFrame m ([Value.ref b] : List Value).toArray 7) := by
      rw [hh0]
      exact whole_start l hfl hbd ⟨B.exec, B.bytes, B.returns, hml, hown, hts, hX, hbl, B.notSynchronized, hgv⟩
    obtain ⟨t, a1, o, b1, b2, b3⟩ := K s₁ rfl X₀
    exact ⟨t, o, a1, b1, b2, b3⟩
theorem lw_pre_spec {args : Array Value} {s : State} (h : (Jvm.Cond.and given_1 narrow_1).before args s = true) (hr : rest_1_c.before args s = true) : ∃ (b : Addr) (xs : List Int32), lw_P b xs args s := by
  have hs := flat_of_before _ h
  have hq := flat_of_before _ hr
  have hc : (Cond.count 1).before args s = true := hs _ (by decide +kernel)
  have harr : (Cond.arrayOf (.arg 0) .int).before args s = true := hs _ (by decide +kernel)
  have hle : (Cond.le (.length (.arg 0)) (.int 3072)).before args s = true := hs _ (by decide +kernel)
  have hlen : (Cond.isInt (.length (.arg 0))).before args s = true := hq _ (by decide +kernel)
  have hall : (Cond.all (.arg 0) (.isInt (.elem (.arg 0) (.index 0)))).before args s = true := hq _ (by decide +kernel)
  obtain ⟨b, xs, hb, hx⟩ := State.ints_of_pre rfl harr hlen hall
  have hsm : xs.length < 2 ^ 31 := hx.choose_spec.2.2.2
  have hev : (Term.length (.arg 0)).eval args s none [] s = some (.int xs.length.toInt32) := hx.length_eval hb
  have hv := Cond.le_ints hev (show (Term.int 3072).eval args s none [] s = some (.int 3072) from rfl)
  have hd : xs.length.toInt32 ≤ 3072 := by
    simpa [Cond.before, Cond.holds, hv] using hle
  have hN : xs.length ≤ 3072 := (Int32.ofNat_le_ofNat hsm (by decide)).mp (show Int32.ofNat xs.length ≤ Int32.ofNat 3072 from hd)
  exact ⟨b, xs, Cond.one_arg hc (show args[0]? = some (.ref b) from hb), hx, hN, h⟩
theorem lw_comes (l : Launch) (hfl : l.flags = flags0) : Comes l x (Jvm.Cond.code x code maxLocals ret :: tables_1) room_1 (fun tb e args s => Calls_1 tb e args s ∧ rest_1 tb e args s ∧ Pre_1 tb e args s)
    (fun _ _ args s o t => lw_Q args s o t) := by
  intro p e ha hc hk s m args below hf hfit hheap happ hpre
  obtain ⟨b, xs, hP⟩ := lw_pre_spec hpre.2.2 hpre.2.1
  obtain ⟨k, o, h1, h2, h3, hQ⟩ := lw_walk l hfl b xs p e ha hc hk s m args below hf ((Spec.applies_iff_loose hf).mp happ).1 hP trivial
  exact ⟨k, o, h1, h2, h3, hQ⟩
theorem lw_frame {s t : State} {o : Outcome} {args : Array Value} (h : Framed s o t [] 601024 7293034) :
    Framed s o t (fieldLocs frame_1_writes args s ++ arrayLocs frame_1_arrays args s ++ staticLocs frame_1_statics s) 601024 7293034 := h
theorem lw_limb (L : Cond) (hL : ∀ (args : Array Value) (s t : State), L.after args s (.returned (some (.int 1))) t = true) :
    ArmFor flags0 classFile x code maxLocals ret World_1 tables_1 room_1 Calls_1 rest_1 Pre_1
      (fun tb e a s o t => postC L tb e a s o t ∧ Framed s o t (fieldLocs frame_1_writes a s ++ arrayLocs frame_1_arrays a s ++ staticLocs frame_1_statics s) 601024 7293034) := by
  intro l hfl _ _ p e ha hc hk s m args below hf hfit hheap happ hpre
  obtain ⟨k, o, h1, h2, h3, rfl, hF⟩ := lw_comes l hfl p e ha hc hk s m args below hf hfit hheap happ hpre
  exact ⟨k, _, h1, h2, h3, hL args s _, lw_frame hF⟩
theorem i_vc : Claimed_1_1 ∧ Claimed_1_2 := ⟨lw_limb limb_1_1 (fun args s t => by simp [limb_1_1, Cond.after, Cond.holds, Cond.value]), lw_limb limb_1_2 (fun args s t => Cond.after_iff.mpr (by
  first | (rw [show limb_1_2 = Cond.eq .result (.int 1) from rfl, Cond.eq_ints (x := 1) (y := 1) rfl rfl]; simp; done) | (simp [limb_1_2, Cond.value, Term.eval]; done)))⟩
