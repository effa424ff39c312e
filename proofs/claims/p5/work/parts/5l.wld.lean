/-! throws of the class, and the law's own calls that catch them -/
abbrev xNS : String := "java/util/NoSuchElementException"
abbrev xNM : List String := ["java/lang/RuntimeException", "java/lang/Exception"]
abbrev xRX : ByteArray := prog_29_method_4_code
def XAT : List Cond := vx_atX RX11 150 xNS 13 xRX xNM
theorem xx0 : decode xRX 0 = .ok (.aload_n 0, 1) := by decide +kernel
theorem xx1 : decode xRX 1 = .ok (.aload_n 1, 1) := by decide +kernel
theorem xx2 : decode xRX 2 = .ok (.invokespecial 13, 3) := by decide +kernel
theorem xx5 : decode xRX 5 = .ok (.return_, 1) := by decide +kernel
def XBAD : List Cond := XAT.filter (fun w => !goodWord w)
def isMov (w : Cond) : Bool := match w with
  | .castable _ _ => true
  | .declares _ => true
  | _ => false
theorem xbad_mov : XBAD.all isMov = true := by decide +kernel
theorem xbad_in : ∀ w ∈ XBAD, w ∈ lw_tbl := by decide +kernel
set_option maxRecDepth 20000 in
theorem xgood_in : ∀ w ∈ XAT.filter goodWord, w ∈ lw_tbl := by decide +kernel
theorem xot : ∀ w ∈ Cond.classLink RX11 146 xNS :: Cond.initialized xNS :: XAT, vx_ot w = true := by decide +kernel
def XSTR : List (Nat × String) := [(148, "no such thing"), (167, "nothing such of a thing"), (169, "no such person"), (187, "nothing such of a person"), (281, "a fraction has two numbers"), (283, "no such ones"), (285, "it is carried or has no marks")]
def XK (A : Nat → Prop) (U : State) : Prop := (∀ w ∈ XBAD, va_Nw w U) ∧ vx_Zq Bundle.tN "UNASSIGNED_STACK" Bundle.steD A U U.heap ∧ vx_Zq Bundle.tN "SUPPRESSED_SENTINEL" Bundle.listD A U U.heap ∧ ∀ q ∈ XSTR, ∃ sa, vk_R RX11 q.1 q.2 sa U
theorem XK.warm {A A1 : Nat → Prop} {s U : State} {locs : List Loc} {H : Heap} (h : XK A s) (hW : s.WarmedH U.vm) (hH : U.heap = H) (hS : va_S A s.heap H locs) (hA : ∀ q, A1 q → A q) : XK A1 U := by
  obtain ⟨h1, h2, h3, h4⟩ := h
  refine ⟨fun w hw => ?_, ?_, ?_, fun q hq => ?_⟩
  · have g1 := h1 w hw
    have g2 := List.all_eq_true.mp xbad_mov w hw
    unfold isMov at g2
    split at g2
    · exact va_Nw.warmC hW g1
    · exact va_Nw.warmD hW g1
    · cases g2
  · rw [hH]
    exact ((h2.kept hS.2.1).moved hW.alike).narrow hA
  · rw [hH]
    exact ((h3.kept hS.2.1).moved hW.alike).narrow hA
  · obtain ⟨sa, g⟩ := h4 q hq
    exact ⟨sa, vk_R.warm hW g⟩
theorem XK.calling {A : Nat → Prop} {U : State} {g : JFrame} {mk : MethodId} {a : Array Value} (h : XK A U) : XK A (U.calling g mk a) := by
  obtain ⟨h1, h2, h3, h4⟩ := h
  refine ⟨fun w hw => ?_, ?_, ?_, fun q hq => ?_⟩
  · have g1 := h1 w hw
    have g2 := List.all_eq_true.mp xbad_mov w hw
    unfold isMov at g2
    split at g2
    · exact va_Nw.same rfl rfl g1
    · exact va_Nw.same rfl rfl g1
    · cases g2
  · exact vx_Zq.moved (u := U) (U := U.calling g mk a) (Vm.Alike.refl U.vm) h2
  · exact vx_Zq.moved (u := U) (U := U.calling g mk a) (Vm.Alike.refl U.vm) h3
  · obtain ⟨sa, g⟩ := h4 q hq
    exact ⟨sa, vk_R.same rfl g⟩
/-! the world outside: the script, rows, texts, what is wanted for a throw -/
def JA (q av N : Nat) (f : Nat → Int32) (A : Nat → Prop) (U : State) : Prop := va_Z jS "COMPACT_STRINGS" "Z" (.int 1) A U U.heap ∧ va_Zq "jdk/internal/util/Preconditions" "SIOOBE_FORMATTER" "Ljava/util/function/BiFunction;" A U U.heap ∧ va_O jS q A U U.heap ∧ va_OF jS "coder" "B" (.int 0) q A U U.heap ∧ va_OF jS "value" "[B" (.ref av) q A U U.heap ∧ va_T .byte av N (fun j => .int (f j)) A U U.heap
def ZROW : List (Nat × String × List Int) := [(20, "MOST_OF_SORT", [4, 10, 8, 6]), (21, "LEAST_SETTING", [1, 0, 0, 0]), (22, "MOST_SETTING", [20, 9, 9, 6])]
def ZTXT : List (Nat × Nat × String × Nat) := [(10, 86, "place   mark    thing   person  fine    mite    wage    fast    is      knows   foreign ", 88), (11, 92, "goes    asks    names   points  puts    learns  day     ", 56), (12, 94, "or      and     not     carried lone    has     at      with    marks   named   number  ", 88)]
def EWX (xs : Nat → Int32) : EWt := fun ex A U => (va_X (ex 0) (ex 1) xs U U.heap ∧ ex 0 < U.heap.size ∧ ¬ A (ex 0)) ∧ (∀ q ∈ ZROW, va_Z "NounFast" q.2.1 "[I" (.ref (ex q.1)) A U U.heap ∧ va_T .int (ex q.1) 4 (fun j => .int (Int32.ofInt (q.2.2.getD j 0))) A U U.heap) ∧
  (∀ q ∈ ZTXT, vk_R "NounFast$Text" q.2.1 q.2.2.1 (ex q.1) U ∧ ∃ (av : Nat) (f : Nat → Int32), (∀ j, f j = Int32.ofInt ((ztx q.1).getD j 0)) ∧ JA (ex q.1) av q.2.2.2 f A U) ∧ XK A U
theorem va_O.narrow9 {E : String} {t : Nat} {A B : Nat → Prop} {U : State} {H : Heap} (h : va_O E t A U H) (hAB : ∀ q, B q → A q) : va_O E t B U H := by
  obtain ⟨cell, h1, h2, h3, h4⟩ := h
  exact ⟨cell, h1, h2, h3, fun hb => h4 (hAB _ hb)⟩
theorem JA.warm {q av N : Nat} {f : Nat → Int32} {A A1 : Nat → Prop} {s U : State} {H : Heap} {locs : List Loc} (h : JA q av N f A s) (hW : s.WarmedH U.vm) (hH : U.heap = H) (hS : va_S A s.heap H locs) (hA : ∀ q, A1 q → A q) : JA q av N f A1 U := by
  obtain ⟨h1, h2, h3, h4, h5, h6⟩ := h
  unfold JA
  rw [hH]
  exact ⟨((h1.kept hS.2.1).moved hW.alike).narrow hA, ((h2.kept hS.2.1).moved hW.alike).narrow hA, (va_O.moved hW.alike (h3.kept hS.2.1)).narrow9 hA, (va_OF.moved hW.alike (h4.kept hS.2.1)).narrow hA, (va_OF.moved hW.alike (h5.kept hS.2.1)).narrow hA, (va_T.moved hW.alike (h6.kept hS.2.1)).narrow hA⟩
theorem JA.calling {q av N : Nat} {f : Nat → Int32} {A : Nat → Prop} {U : State} {g : JFrame} {mk : MethodId} {a : Array Value} (h : JA q av N f A U) : JA q av N f A (U.calling g mk a) := by
  obtain ⟨h1, h2, h3, h4, h5, h6⟩ := h
  have hA : U.vm.Alike (U.calling g mk a).vm := Vm.Alike.refl U.vm
  exact ⟨va_Z.moved (u := U) (U := U.calling g mk a) hA h1, va_Zq.moved (u := U) (U := U.calling g mk a) hA h2, va_O.moved (u := U) (U := U.calling g mk a) hA h3, va_OF.moved (u := U) (U := U.calling g mk a) hA h4, va_OF.moved (u := U) (U := U.calling g mk a) hA h5, va_T.moved (u := U) (U := U.calling g mk a) hA h6⟩
theorem JA.jb {q av N : Nat} {f : Nat → Int32} {A : Nat → Prop} {s U : State} {H : Heap} {locs : List Loc} (h : JA q av N f A s) (hW : s.WarmedH U.vm) (hH : U.heap = H) (hS : va_S A s.heap H locs) : JB q av N f U := h.warm (A1 := jF) hW hH hS (fun _ h => h.elim)
theorem EWX_ok {xs : Nat → Int32} : EWOK (EWX xs) := by
  refine ⟨fun ex A A1 s U locs H h hW hH hS hA => ?_, fun ex A U g mk a h => ?_⟩
  · obtain ⟨⟨h1, h2, h3⟩, h4, h5, h6⟩ := h
    refine ⟨⟨?_, ?_, fun h => h3 (hA _ h)⟩, fun q hq => ?_, fun q hq => ?_, XK.warm h6 hW hH hS hA⟩
    · rw [hH]
      exact va_X.moved hW.alike (h1.kept (hS.2.1 _ h2 h3))
    · rw [hH]
      exact Nat.lt_of_lt_of_le h2 hS.1
    · obtain ⟨g1, g2⟩ := h4 q hq
      rw [hH]
      exact ⟨((g1.kept hS.2.1).moved hW.alike).narrow hA, (va_T.moved hW.alike (g2.kept hS.2.1)).narrow hA⟩
    · obtain ⟨g1, av, f, hf9, g2⟩ := h5 q hq
      exact ⟨vk_R.warm hW g1, av, f, hf9, g2.warm hW hH hS hA⟩
  · obtain ⟨⟨h1, h2, h3⟩, h4, h5, h6⟩ := h
    have hAl : U.vm.Alike (U.calling g mk a).vm := Vm.Alike.refl U.vm
    refine ⟨⟨va_X.moved (u := U) (U := U.calling g mk a) hAl h1, h2, h3⟩, fun q hq => ?_, fun q hq => ?_, XK.calling h6⟩
    · obtain ⟨g1, g2⟩ := h4 q hq
      exact ⟨va_Z.moved (u := U) (U := U.calling g mk a) hAl g1, va_T.moved (u := U) (U := U.calling g mk a) hAl g2⟩
    · obtain ⟨g1, av, f, hf9, g2⟩ := h5 q hq
      exact ⟨vk_R.same rfl g1, av, f, hf9, g2.calling⟩
