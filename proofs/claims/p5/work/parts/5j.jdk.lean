/-! the JDK's own: length and charAt of a text that is known -/
abbrev jF : Nat → Prop := fun _ => False
abbrev jS : String := "java/lang/String"
/-- a text: its cell, its bytes -/
def JB (q av N : Nat) (f : Nat → Int32) (U : State) : Prop := va_Z jS "COMPACT_STRINGS" "Z" (.int 1) jF U U.heap ∧ va_Zq "jdk/internal/util/Preconditions" "SIOOBE_FORMATTER" "Ljava/util/function/BiFunction;" jF U U.heap ∧ va_O jS q jF U U.heap ∧ va_OF jS "coder" "B" (.int 0) q jF U U.heap ∧ va_OF jS "value" "[B" (.ref av) q jF U U.heap ∧ va_T .byte av N (fun j => .int (f j)) jF U U.heap
theorem JB.warm {q av N : Nat} {f : Nat → Int32} {s U : State} {H : Heap} {locs : List Loc} (h : JB q av N f s) (hW : s.WarmedH U.vm) (hH : U.heap = H) (hS : va_S jF s.heap H locs) : JB q av N f U := by
  obtain ⟨h1, h2, h3, h4, h5, h6⟩ := h
  unfold JB
  rw [hH]
  exact ⟨(h1.kept hS.2.1).moved hW.alike, (h2.kept hS.2.1).moved hW.alike, va_O.moved hW.alike (h3.kept hS.2.1), va_OF.moved hW.alike (h4.kept hS.2.1), va_OF.moved hW.alike (h5.kept hS.2.1), va_T.moved hW.alike (h6.kept hS.2.1)⟩
theorem JB.calling {q av N : Nat} {f : Nat → Int32} {U : State} {g : JFrame} {mk : MethodId} {a : Array Value} (h : JB q av N f U) : JB q av N f (U.calling g mk a) := by
  obtain ⟨h1, h2, h3, h4, h5, h6⟩ := h
  have hA : U.vm.Alike (U.calling g mk a).vm := Vm.Alike.refl U.vm
  exact ⟨va_Z.moved (u := U) (U := U.calling g mk a) hA h1, va_Zq.moved (u := U) (U := U.calling g mk a) hA h2, va_O.moved (u := U) (U := U.calling g mk a) hA h3, va_OF.moved (u := U) (U := U.calling g mk a) hA h4, va_OF.moved (u := U) (U := U.calling g mk a) hA h5, va_T.moved (u := U) (U := U.calling g mk a) hA h6⟩
/-- a method that changes nothing and answers an int -/
theorem jm_met {l : Launch} {y : MethodName} {cc : ByteArray} {maxL fr lo : Nat} {ty : FieldType} {vs : List Value} {B0 : State → Prop} {post : Int32 → Prop} (hpl : plainFor y = true) (hlen : (lg_sl vs).length ≤ maxL)
    (walk : ∀ (p : Program) (e : Env) (s : State) (m : MethodId) (below : List Frame) (meth : Method) (c : Code) (Q : State → Prop) (ls : Array Slot), p.tables.exec = Jvm.exec → c.code = cc → c.maxLocals = maxL → s.vm.findClass y.cls = some m.cls → (∀ w ∈ BIG, w.before vs.toArray s = true) → B0 s → lv_has ls maxL (lv_args 0 vs) →
      (∀ (H : Heap) (locs : List Loc) (pc : Nat) (ls : Array Slot) (r : Int32), va_S jF s.heap H locs → narrow ty (.int r) = .int r → post r → decode cc pc = .ok (.ireturn, 1) → W p l e (rmR (fr, 0, 0, lo)) s m vs.toArray below meth c H locs 0 0 Q (F0 m pc ls [.int r])) →
      W p l e (rmR (fr, 0, 0, lo)) s m vs.toArray below meth c s.heap [] 0 0 Q (F0 m 0 ls [])) :
    Met l y (Cond.code y cc maxL (some ty) :: BIG) (rmR (fr, 0, 0, lo)) (va_Pc vs B0) (va_Qi (fun r (_ : Unit) => post r) (fun _ _ => True) jF) 0 0 jF := by
  refine va_MetF (cc := cc) (maxL := maxL) (ret := some ty) hpl rfl ?_
  intro p e s m args below meth c s₁ B hml hv0
  obtain ⟨rfl, hB⟩ := hv0
  have hx := B.exec
  have hb := B.bytes
  have hr := B.returns
  have hts := atoms_spec (ws := Cond.code y cc maxL (some ty) :: BIG) B.pre
  have hown : s.vm.findClass y.cls = some m.cls := findClass_of_methodNamed B.named
  have hlv := lv_entry vs (n := maxL) hlen
  rw [lg_entry_eq]
  generalize (lg_sl vs ++ List.replicate (maxL - (lg_sl vs).length) Slot.unset).toArray = ls at hlv ⊢
  exact walk p e s m below meth c _ ls hx hb hml hown (fun w hw => hts w (List.mem_cons_of_mem _ hw)) hB hlv (fun H locs pc ls r hS hn hp hd => W.zret hx hb hr hn (fun t ht hW9 => ⟨⟨r, (), rfl, hp, trivial⟩, hS.F ht⟩) hS.2.2 hd)
theorem jm_metv {l : Launch} {y : MethodName} {cc : ByteArray} {maxL fr lo : Nat} {vs : List Value} {B0 : State → Prop} (hpl : plainFor y = true) (hlen : (lg_sl vs).length ≤ maxL)
    (walk : ∀ (p : Program) (e : Env) (s : State) (m : MethodId) (below : List Frame) (meth : Method) (c : Code) (Q : State → Prop) (ls : Array Slot), p.tables.exec = Jvm.exec → c.code = cc → c.maxLocals = maxL → s.vm.findClass y.cls = some m.cls → (∀ w ∈ BIG, w.before vs.toArray s = true) → B0 s → lv_has ls maxL (lv_args 0 vs) →
      (∀ (H : Heap) (locs : List Loc) (pc : Nat) (ls : Array Slot), va_S jF s.heap H locs → decode cc pc = .ok (.return_, 1) → W p l e (rmR (fr, 0, 0, lo)) s m vs.toArray below meth c H locs 0 0 Q (F0 m pc ls [])) →
      W p l e (rmR (fr, 0, 0, lo)) s m vs.toArray below meth c s.heap [] 0 0 Q (F0 m 0 ls [])) :
    Met l y (Cond.code y cc maxL none :: BIG) (rmR (fr, 0, 0, lo)) (va_Pc vs B0) (va_Qv (fun (_ : Unit) => True) (fun _ _ => True) jF) 0 0 jF := by
  refine va_MetF (cc := cc) (maxL := maxL) (ret := none) hpl rfl ?_
  intro p e s m args below meth c s₁ B hml hv0
  obtain ⟨rfl, hB⟩ := hv0
  have hx := B.exec
  have hb := B.bytes
  have hr := B.returns
  have hts := atoms_spec (ws := Cond.code y cc maxL none :: BIG) B.pre
  have hown : s.vm.findClass y.cls = some m.cls := findClass_of_methodNamed B.named
  have hlv := lv_entry vs (n := maxL) hlen
  rw [lg_entry_eq]
  generalize (lg_sl vs ++ List.replicate (maxL - (lg_sl vs).length) Slot.unset).toArray = ls at hlv ⊢
  exact walk p e s m below meth c _ ls hx hb hml hown (fun w hw => hts w (List.mem_cons_of_mem _ hw)) hB hlv (fun H locs pc ls hS hd => W.vret hx hb hr (fun t ht hW9 => ⟨⟨(), rfl, trivial, trivial⟩, hS.F ht⟩) hS.2.2 hd)
theorem jm_good {w : Cond} (h : w ∈ BIG) : GoodIn BIG (w :: BIG) := by
  intro x hx
  rcases List.mem_cons.mp hx with rfl | hx
  · exact ⟨h, good_of_word (big_good _ h)⟩
  · exact ⟨hx, good_of_word (big_good _ hx)⟩
section JDK
variable {p : Program} {l : Launch} {e : Env} {R : Room} {s : State} {m : MethodId} {args : Array Value} {below : List Frame} {meth : Method} {c : Code} {H : Heap} {locs : List Loc} {cells slots : Nat} {Q : State → Prop} {A : Nat → Prop}
variable {y : MethodName} {cc bytes : ByteArray} {maxL nL fr lo n i pc : Nat} {ty : FieldType} {vs rest : List Value} {B0 : State → Prop} {post : Int32 → Prop} {own : String} {ls : Array Slot}
theorem jm_runS (met : Met l y (Cond.code y bytes maxL (some ty) :: BIG) (rmR (fr, 0, 0, lo)) (va_Pc vs B0) (va_Qi (fun r (_ : Unit) => post r) (fun _ _ => True) jF) 0 0 jF) (hbl : ∀ U g mk a, B0 U → B0 (U.calling g mk a)) (hpre : ∀ U : State, U.heap = H → s.WarmedH U.vm → B0 U)
    (w1 : Cond.code y bytes maxL (some ty) ∈ BIG) (w2 : Cond.initialized y.cls ∈ BIG) (w3 : Cond.methodLink own i y ∈ BIG) (w4 : Cond.static y ∈ BIG) (w5 : y.cls ≠ "java/lang/invoke/MethodHandle") (w6 : y.cls ≠ "java/lang/invoke/VarHandle") (w7 : (parseMethodDescriptor y.desc).map (fun d => d.parameters.length) = some n) (hn : vs.length = n)
    (hx : p.tables.exec = Jvm.exec) (hb : c.code = cc) (hml : c.maxLocals = nL) (hown : s.vm.findClass own = some m.cls) (hbig : ∀ w ∈ BIG, w.before args s = true) (hls : ls.size = nL) (hrest : (rest.map fun v => v.category).sum ≤ 8) (r1 : fr + 1 ≤ R.frames) (r2 : 8 + (maxL + 11) + lo ≤ R.locals) (r3 : cells ≤ R.cells) (r4 : slots ≤ R.slots) (hd : decode cc pc = .ok (.invokestatic i, 3)) (hS : va_S A s.heap H locs)
    (kk : ∀ (r : Int32) (H1 : Heap) (locs1 : List Loc), post r → (∀ q : Nat, q < H.size → H1[q]? = H[q]?) → va_S A s.heap H1 locs1 → W p l e R s m args below meth c H1 locs1 cells slots Q (F0 m (pc + 3) ls (.int r :: rest))) : W p l e R s m args below meth c H locs cells slots Q (F0 m pc ls (vs.reverse ++ rest)) := by
  have fix : CallFix p m c cc nL s args BIG own := ⟨hx, hb, hml, hown, hbig⟩
  have hW9 := lv_room (m := m) (pc := pc) (ls := ls) (rest := vs.reverse ++ rest) (st := rest) hrest
  have run := va_runS (g := F0 m pc ls (vs.reverse ++ rest)) (cells := cells) (slots := slots) (p := p) (e := e) (below := below) (meth := meth) (H := H) (locs := locs) (R := R) fix met ⟨callB_of n hbig (jm_good w1) rfl rfl rfl (hbig _ w2) (hbig _ w3) ⟨w5, w6, w7⟩ ⟨r1, r2⟩, hbig _ w4⟩ ⟨fun a U g mk q => ⟨q.1, hbl _ _ _ _ q.2⟩, fun U hU hW => ⟨rfl, hpre U hU hW⟩⟩ rfl hn hls rfl hW9 hd ⟨r3, r4⟩
  refine va_calli (a := vs.toArray) run hS (fun q _ h => h.elim) (fun q h => h.elim) (fun r u t H1 locs1 ht hvm hw hB hz hk hS1 => ?_)
  exact kk r H1 locs1 hw (fun q hq => hk q hq id) hS1
theorem jm_runSv (met : Met l y (Cond.code y bytes maxL none :: BIG) (rmR (fr, 0, 0, lo)) (va_Pc vs B0) (va_Qv (fun (_ : Unit) => True) (fun _ _ => True) jF) 0 0 jF) (hbl : ∀ U g mk a, B0 U → B0 (U.calling g mk a)) (hpre : ∀ U : State, U.heap = H → s.WarmedH U.vm → B0 U)
    (w1 : Cond.code y bytes maxL none ∈ BIG) (w2 : Cond.initialized y.cls ∈ BIG) (w3 : Cond.methodLink own i y ∈ BIG) (w4 : Cond.static y ∈ BIG) (w5 : y.cls ≠ "java/lang/invoke/MethodHandle") (w6 : y.cls ≠ "java/lang/invoke/VarHandle") (w7 : (parseMethodDescriptor y.desc).map (fun d => d.parameters.length) = some n) (hn : vs.length = n)
    (hx : p.tables.exec = Jvm.exec) (hb : c.code = cc) (hml : c.maxLocals = nL) (hown : s.vm.findClass own = some m.cls) (hbig : ∀ w ∈ BIG, w.before args s = true) (hls : ls.size = nL) (hrest : (rest.map fun v => v.category).sum ≤ 8) (r1 : fr + 1 ≤ R.frames) (r2 : 8 + (maxL + 11) + lo ≤ R.locals) (r3 : cells ≤ R.cells) (r4 : slots ≤ R.slots) (hd : decode cc pc = .ok (.invokestatic i, 3)) (hS : va_S A s.heap H locs)
    (kk : ∀ (H1 : Heap) (locs1 : List Loc), (∀ q : Nat, q < H.size → H1[q]? = H[q]?) → va_S A s.heap H1 locs1 → W p l e R s m args below meth c H1 locs1 cells slots Q (F0 m (pc + 3) ls rest)) : W p l e R s m args below meth c H locs cells slots Q (F0 m pc ls (vs.reverse ++ rest)) := by
  have fix : CallFix p m c cc nL s args BIG own := ⟨hx, hb, hml, hown, hbig⟩
  have hW9 := lv_room (m := m) (pc := pc) (ls := ls) (rest := vs.reverse ++ rest) (st := rest) hrest
  have run := va_runS (g := F0 m pc ls (vs.reverse ++ rest)) (cells := cells) (slots := slots) (p := p) (e := e) (below := below) (meth := meth) (H := H) (locs := locs) (R := R) fix met ⟨callB_of n hbig (jm_good w1) rfl rfl rfl (hbig _ w2) (hbig _ w3) ⟨w5, w6, w7⟩ ⟨r1, r2⟩, hbig _ w4⟩ ⟨fun a U g mk q => ⟨q.1, hbl _ _ _ _ q.2⟩, fun U hU hW => ⟨rfl, hpre U hU hW⟩⟩ rfl hn hls rfl hW9 hd ⟨r3, r4⟩
  refine va_callv (a := vs.toArray) run hS (fun q _ h => h.elim) (fun q h => h.elim) (fun u t H1 locs1 ht hvm hw hB hz hk hS1 => ?_)
  exact kk H1 locs1 (fun q hq => hk q hq id) hS1
theorem jm_runV {q : Nat} (met : Met l y (Cond.code y bytes maxL (some ty) :: BIG) (rmR (fr, 0, 0, lo)) (va_Pc (.ref q :: vs) B0) (va_Qi (fun r (_ : Unit) => post r) (fun _ _ => True) jF) 0 0 jF) (hbl : ∀ U g mk a, B0 U → B0 (U.calling g mk a)) (hpre : ∀ U : State, U.heap = H → s.WarmedH U.vm → B0 U)
    (w1 : Cond.code y bytes maxL (some ty) ∈ BIG) (w2 : Cond.initialized y.cls ∈ BIG) (w3 : Cond.methodLink own i y ∈ BIG) (w4 : Cond.instanceMethod y ∈ BIG) (w8 : Cond.selects y.cls y y ∈ BIG) (w5 : y.cls ≠ "java/lang/invoke/MethodHandle") (w6 : y.cls ≠ "java/lang/invoke/VarHandle") (w7 : (parseMethodDescriptor y.desc).map (fun d => d.parameters.length) = some n) (hn : vs.length = n)
    (hrecv : ∃ cell : Cell, H[q]? = some cell ∧ cell.vm.isStatics = false ∧ s.vm.findClass y.cls = some cell.cls)
    (hx : p.tables.exec = Jvm.exec) (hb : c.code = cc) (hml : c.maxLocals = nL) (hown : s.vm.findClass own = some m.cls) (hbig : ∀ w ∈ BIG, w.before args s = true) (hls : ls.size = nL) (hrest : (rest.map fun v => v.category).sum ≤ 8) (r1 : fr + 1 ≤ R.frames) (r2 : 8 + (maxL + 11) + lo ≤ R.locals) (r3 : cells ≤ R.cells) (r4 : slots ≤ R.slots) (hd : decode cc pc = .ok (.invokevirtual i, 3)) (hS : va_S A s.heap H locs)
    (kk : ∀ (r : Int32) (H1 : Heap) (locs1 : List Loc), post r → (∀ q : Nat, q < H.size → H1[q]? = H[q]?) → va_S A s.heap H1 locs1 → W p l e R s m args below meth c H1 locs1 cells slots Q (F0 m (pc + 3) ls (.int r :: rest))) : W p l e R s m args below meth c H locs cells slots Q (F0 m pc ls (vs.reverse ++ .ref q :: rest)) := by
  have fix : CallFix p m c cc nL s args BIG own := ⟨hx, hb, hml, hown, hbig⟩
  have hW9 := lv_room (m := m) (pc := pc) (ls := ls) (rest := vs.reverse ++ .ref q :: rest) (st := rest) hrest
  have run := va_runV (C := y.cls) (b := q) (As := vs) (g := F0 m pc ls (vs.reverse ++ .ref q :: rest)) (cells := cells) (slots := slots) (p := p) (e := e) (below := below) (meth := meth) (H := H) (locs := locs) (R := R) fix met ⟨callB_of n hbig (jm_good w1) rfl rfl rfl (hbig _ w2) (hbig _ w3) ⟨w5, w6, w7⟩ ⟨r1, r2⟩, hbig _ w4, hbig _ w8⟩ ⟨fun a U g mk q => ⟨q.1, hbl _ _ _ _ q.2⟩, hrecv, fun U hU hW => ⟨rfl, hpre U hU hW⟩⟩ rfl hn hls rfl hW9 hd ⟨r3, r4⟩
  refine va_calli (a := (.ref q :: vs).toArray) run hS (fun q _ h => h.elim) (fun q h => h.elim) (fun r u t H1 locs1 ht hvm hw hB hz hk hS1 => ?_)
  exact kk r H1 locs1 hw (fun q hq => hk q hq id) hS1
end JDK
theorem dJ_coder_0 : decode cJ0_coder_7d493 0 = .ok (.getstatic 38, 3) := by decide +kernel
theorem dJ_coder_3 : decode cJ0_coder_7d493 3 = .ok (.ifCond .eq 10, 3) := by decide +kernel
theorem dJ_coder_6 : decode cJ0_coder_7d493 6 = .ok (.aload_n 0, 1) := by decide +kernel
theorem dJ_coder_7 : decode cJ0_coder_7d493 7 = .ok (.getfield 15, 3) := by decide +kernel
theorem dJ_coder_10 : decode cJ0_coder_7d493 10 = .ok (.goto 4, 3) := by decide +kernel
theorem dJ_coder_13 : decode cJ0_coder_7d493 13 = .ok (.iconst 1, 1) := by decide +kernel
theorem dJ_coder_14 : decode cJ0_coder_7d493 14 = .ok (.ireturn, 1) := by decide +kernel
theorem dJ_isLatin1_0 : decode cJ0_isLatin1_aae02 0 = .ok (.getstatic 38, 3) := by decide +kernel
theorem dJ_isLatin1_3 : decode cJ0_isLatin1_aae02 3 = .ok (.ifCond .eq 14, 3) := by decide +kernel
theorem dJ_isLatin1_6 : decode cJ0_isLatin1_aae02 6 = .ok (.aload_n 0, 1) := by decide +kernel
theorem dJ_isLatin1_7 : decode cJ0_isLatin1_aae02 7 = .ok (.getfield 15, 3) := by decide +kernel
theorem dJ_isLatin1_10 : decode cJ0_isLatin1_aae02 10 = .ok (.ifCond .ne 7, 3) := by decide +kernel
theorem dJ_isLatin1_13 : decode cJ0_isLatin1_aae02 13 = .ok (.iconst 1, 1) := by decide +kernel
theorem dJ_isLatin1_14 : decode cJ0_isLatin1_aae02 14 = .ok (.goto 4, 3) := by decide +kernel
theorem dJ_isLatin1_17 : decode cJ0_isLatin1_aae02 17 = .ok (.iconst 0, 1) := by decide +kernel
theorem dJ_isLatin1_18 : decode cJ0_isLatin1_aae02 18 = .ok (.ireturn, 1) := by decide +kernel
theorem dJ_length_0 : decode cJ0_length_8abf5 0 = .ok (.aload_n 0, 1) := by decide +kernel
theorem dJ_length_1 : decode cJ0_length_8abf5 1 = .ok (.getfield 9, 3) := by decide +kernel
theorem dJ_length_4 : decode cJ0_length_8abf5 4 = .ok (.arraylength, 1) := by decide +kernel
theorem dJ_length_5 : decode cJ0_length_8abf5 5 = .ok (.aload_n 0, 1) := by decide +kernel
theorem dJ_length_6 : decode cJ0_length_8abf5 6 = .ok (.invokevirtual 335, 3) := by decide +kernel
theorem dJ_length_9 : decode cJ0_length_8abf5 9 = .ok (.ishr, 1) := by decide +kernel
theorem dJ_length_10 : decode cJ0_length_8abf5 10 = .ok (.ireturn, 1) := by decide +kernel
theorem dJ_chk3_0 : decode cJ3_checkIndex_8e157 0 = .ok (.iload_n 0, 1) := by decide +kernel
theorem dJ_chk3_1 : decode cJ3_checkIndex_8e157 1 = .ok (.ifCond .lt 8, 3) := by decide +kernel
theorem dJ_chk3_4 : decode cJ3_checkIndex_8e157 4 = .ok (.iload_n 0, 1) := by decide +kernel
theorem dJ_chk3_5 : decode cJ3_checkIndex_8e157 5 = .ok (.iload_n 1, 1) := by decide +kernel
theorem dJ_chk3_6 : decode cJ3_checkIndex_8e157 6 = .ok (.if_icmp .lt 10, 3) := by decide +kernel
theorem dJ_chk3_9 : decode cJ3_checkIndex_8e157 9 = .ok (.aload_n 2, 1) := by decide +kernel
theorem dJ_chk3_10 : decode cJ3_checkIndex_8e157 10 = .ok (.iload_n 0, 1) := by decide +kernel
theorem dJ_chk3_11 : decode cJ3_checkIndex_8e157 11 = .ok (.iload_n 1, 1) := by decide +kernel
theorem dJ_chk3_12 : decode cJ3_checkIndex_8e157 12 = .ok (.invokestatic 95, 3) := by decide +kernel
theorem dJ_chk3_15 : decode cJ3_checkIndex_8e157 15 = .ok (.athrow, 1) := by decide +kernel
theorem dJ_chk3_16 : decode cJ3_checkIndex_8e157 16 = .ok (.iload_n 0, 1) := by decide +kernel
theorem dJ_chk3_17 : decode cJ3_checkIndex_8e157 17 = .ok (.ireturn, 1) := by decide +kernel
theorem dJ_chk_0 : decode cJ0_checkIndex_df160 0 = .ok (.iload_n 0, 1) := by decide +kernel
theorem dJ_chk_1 : decode cJ0_checkIndex_df160 1 = .ok (.iload_n 1, 1) := by decide +kernel
theorem dJ_chk_2 : decode cJ0_checkIndex_df160 2 = .ok (.getstatic 1053, 3) := by decide +kernel
theorem dJ_chk_5 : decode cJ0_checkIndex_df160 5 = .ok (.invokestatic 1059, 3) := by decide +kernel
theorem dJ_chk_8 : decode cJ0_checkIndex_df160 8 = .ok (.pop, 1) := by decide +kernel
theorem dJ_chk_9 : decode cJ0_checkIndex_df160 9 = .ok (.return_, 1) := by decide +kernel
theorem dJ_charL_0 : decode cJ1_charAt_3b067 0 = .ok (.iload_n 1, 1) := by decide +kernel
theorem dJ_charL_1 : decode cJ1_charAt_3b067 1 = .ok (.aload_n 0, 1) := by decide +kernel
theorem dJ_charL_2 : decode cJ1_charAt_3b067 2 = .ok (.arraylength, 1) := by decide +kernel
theorem dJ_charL_3 : decode cJ1_charAt_3b067 3 = .ok (.invokestatic 9, 3) := by decide +kernel
theorem dJ_charL_6 : decode cJ1_charAt_3b067 6 = .ok (.aload_n 0, 1) := by decide +kernel
theorem dJ_charL_7 : decode cJ1_charAt_3b067 7 = .ok (.iload_n 1, 1) := by decide +kernel
theorem dJ_charL_8 : decode cJ1_charAt_3b067 8 = .ok (.baload, 1) := by decide +kernel
theorem dJ_charL_9 : decode cJ1_charAt_3b067 9 = .ok (.sipush 255, 3) := by decide +kernel
theorem dJ_charL_12 : decode cJ1_charAt_3b067 12 = .ok (.iand, 1) := by decide +kernel
theorem dJ_charL_13 : decode cJ1_charAt_3b067 13 = .ok (.i2c, 1) := by decide +kernel
theorem dJ_charL_14 : decode cJ1_charAt_3b067 14 = .ok (.ireturn, 1) := by decide +kernel
theorem dJ_charAt_0 : decode cJ0_charAt_5068e 0 = .ok (.aload_n 0, 1) := by decide +kernel
theorem dJ_charAt_1 : decode cJ0_charAt_5068e 1 = .ok (.invokevirtual 492, 3) := by decide +kernel
theorem dJ_charAt_4 : decode cJ0_charAt_5068e 4 = .ok (.ifCond .eq 12, 3) := by decide +kernel
theorem dJ_charAt_7 : decode cJ0_charAt_5068e 7 = .ok (.aload_n 0, 1) := by decide +kernel
theorem dJ_charAt_8 : decode cJ0_charAt_5068e 8 = .ok (.getfield 9, 3) := by decide +kernel
theorem dJ_charAt_11 : decode cJ0_charAt_5068e 11 = .ok (.iload_n 1, 1) := by decide +kernel
theorem dJ_charAt_12 : decode cJ0_charAt_5068e 12 = .ok (.invokestatic 495, 3) := by decide +kernel
theorem dJ_charAt_15 : decode cJ0_charAt_5068e 15 = .ok (.ireturn, 1) := by decide +kernel
theorem dJ_charAt_16 : decode cJ0_charAt_5068e 16 = .ok (.aload_n 0, 1) := by decide +kernel
theorem dJ_charAt_17 : decode cJ0_charAt_5068e 17 = .ok (.getfield 9, 3) := by decide +kernel
theorem dJ_charAt_20 : decode cJ0_charAt_5068e 20 = .ok (.iload_n 1, 1) := by decide +kernel
theorem dJ_charAt_21 : decode cJ0_charAt_5068e 21 = .ok (.invokestatic 498, 3) := by decide +kernel
theorem dJ_charAt_24 : decode cJ0_charAt_5068e 24 = .ok (.ireturn, 1) := by decide +kernel
theorem j_same {s : State} {x : ClassId × Class × Nat × Field} {C n d : String} : s.fieldFound? C n d = some x → s.fieldFound? C n d = some x := fun h => h
theorem jm_coder {l : Launch} {q av N : Nat} {f : Nat → Int32} : Met l yJ0_coder_7d493 (Cond.code yJ0_coder_7d493 cJ0_coder_7d493 1 (some .byte) :: BIG) (rmR (0, 0, 0, 0)) (va_Pc [.ref q] (JB q av N f)) (va_Qi (fun r (_ : Unit) => r = 0) (fun _ _ => True) jF) 0 0 jF := by
  refine jm_met (by decide +kernel) (Nat.le_of_ble_eq_true rfl) ?_
  intro p e s m below meth c Q ls hx hb hml hown hbig hB hlv ret
  obtain ⟨h1, h2, h3, h4, h5, h6⟩ := hB
  have hlv : lv_has ls 1 [(0, .ref q)] := hlv
  refine va_gets hx hb h1 va_S.rf hown (hbig _ (h_at_ok (pos := 525) (by decide +kernel))) (fun _ => j_same) dJ_coder_0 ?_
  refine lv_if_eq hx hb dJ_coder_3 (tgt := 13) (by decide) (fun h => absurd h (by decide)) (fun _ => ?_)
  refine lv_aload_n hx hb dJ_coder_6 rfl (lv_at hlv 0 rfl) ?_
  refine vk_getf hx hb h4 va_S.rf hown (hbig _ (h_at_ok (pos := 2021) (by decide +kernel))) (fun _ => j_same) dJ_coder_7 ?_
  refine lv_goto hx hb dJ_coder_10 (tgt := 14) (by decide) ?_
  exact ret _ _ 14 ls 0 va_S.rf (by decide) rfl (by decide +kernel)
theorem jm_isLatin1 {l : Launch} {q av N : Nat} {f : Nat → Int32} : Met l yJ0_isLatin1_aae02 (Cond.code yJ0_isLatin1_aae02 cJ0_isLatin1_aae02 1 (some .boolean) :: BIG) (rmR (0, 0, 0, 0)) (va_Pc [.ref q] (JB q av N f)) (va_Qi (fun r (_ : Unit) => r = 1) (fun _ _ => True) jF) 0 0 jF := by
  refine jm_met (by decide +kernel) (Nat.le_of_ble_eq_true rfl) ?_
  intro p e s m below meth c Q ls hx hb hml hown hbig hB hlv ret
  obtain ⟨h1, h2, h3, h4, h5, h6⟩ := hB
  have hlv : lv_has ls 1 [(0, .ref q)] := hlv
  refine va_gets hx hb h1 va_S.rf hown (hbig _ (h_at_ok (pos := 525) (by decide +kernel))) (fun _ => j_same) dJ_isLatin1_0 ?_
  refine lv_if_eq hx hb dJ_isLatin1_3 (tgt := 17) (by decide) (fun h => absurd h (by decide)) (fun _ => ?_)
  refine lv_aload_n hx hb dJ_isLatin1_6 rfl (lv_at hlv 0 rfl) ?_
  refine vk_getf hx hb h4 va_S.rf hown (hbig _ (h_at_ok (pos := 2021) (by decide +kernel))) (fun _ => j_same) dJ_isLatin1_7 ?_
  refine lv_if_ne hx hb dJ_isLatin1_10 (tgt := 17) (by decide) (fun h => absurd rfl h) (fun _ => ?_)
  refine lv_iconst (v := 1) hx hb (pc := 13) dJ_isLatin1_13 (by decide) ?_
  refine lv_goto hx hb dJ_isLatin1_14 (tgt := 18) (by decide) ?_
  exact ret _ _ 18 ls 1 va_S.rf (by decide) rfl (by decide +kernel)
theorem jm_length {l : Launch} {q av N : Nat} {f : Nat → Int32} (hN : N < 2 ^ 31) : Met l yJ0_length_8abf5 (Cond.code yJ0_length_8abf5 cJ0_length_8abf5 1 (some .int) :: BIG) (rmR (2, 0, 0, 60)) (va_Pc [.ref q] (JB q av N f)) (va_Qi (fun r (_ : Unit) => r = nI N) (fun _ _ => True) jF) 0 0 jF := by
  refine jm_met (by decide +kernel) (Nat.le_of_ble_eq_true rfl) ?_
  intro p e s m below meth c Q ls hx hb hml hown hbig hB hlv ret
  have hB0 := hB
  obtain ⟨h1, h2, h3, h4, h5, h6⟩ := hB
  have hlv : lv_has ls 1 [(0, .ref q)] := hlv
  refine lv_aload_n hx hb dJ_length_0 rfl (lv_at hlv 0 rfl) ?_
  refine vk_getf hx hb h5 va_S.rf hown (hbig _ (h_at_ok (pos := 2020) (by decide +kernel))) (fun _ => j_same) dJ_length_1 ?_
  refine va_tlen hx hb h6 va_S.rf (v := nI N) rfl (pc := 4) dJ_length_4 ?_
  refine lv_aload_n hx hb dJ_length_5 rfl (lv_at hlv 0 rfl) ?_
  refine jm_runV (A := jF) (vs := []) (rest := [.int (nI N)]) (pc := 6) (i := 335) (n := 0) (q := q) (jm_coder (l := l) (q := q) (av := av) (N := N) (f := f)) (fun U g mk a h => h.calling) (fun U hU hW => hB0.warm hW hU va_S.rf) (h_at_ok (pos := 524) (by decide +kernel)) (h_at_ok (pos := 129) (by decide +kernel)) (h_at_ok (pos := 521) (by decide +kernel)) (h_at_ok (pos := 522) (by decide +kernel)) (h_at_ok (pos := 523) (by decide +kernel)) (by decide +kernel) (by decide +kernel) (by decide +kernel) rfl ?_ hx hb hml hown hbig hlv.1 (Nat.le_of_ble_eq_true rfl) (by decide) (by decide) (by decide) (by decide) (by decide +kernel) va_S.rf (fun r H1 locs1 hr hk hS1 => ?_)
  · obtain ⟨cell, a1, a2, a3, -⟩ := h3
    exact ⟨cell, a1, a2, a3⟩
  · have hr : r = 0 := hr
    subst hr
    refine lv_ishr hx hb (pc := 9) dJ_length_9 ?_
    have e0 : nI N >>> ((0 : Int32) &&& 31) = nI N := by
      rw [pk_shrN hN ((0 : Int32) &&& 31) 0 (by decide)]
      simp
    rw [e0]
    exact ret _ _ 10 ls _ hS1 rfl rfl (by decide +kernel)
theorem jm_chk3 {l : Launch} {i n : Nat} {v : Value} {B0 : State → Prop} (hi : i < n) (hn : n < 2 ^ 31) (hv9 : v.category = 1) : Met l yJ3_checkIndex_8e157 (Cond.code yJ3_checkIndex_8e157 cJ3_checkIndex_8e157 3 (some .int) :: BIG) (rmR (1, 0, 0, 40)) (va_Pc [.int (nI i), .int (nI n), v] B0) (va_Qi (fun r (_ : Unit) => r = nI i) (fun _ _ => True) jF) 0 0 jF := by
  refine jm_met (by decide +kernel) ?_ ?_
  · rw [lg_len]
    show (1 + (1 + (v.category + 0))) ≤ 3
    omega
  intro p e s m below meth c Q ls hx hb hml hown hbig hB hlv ret
  have hlv : lv_has ls 3 [(0, .int (nI i)), (1, .int (nI n)), (2, v)] := hlv
  refine lv_iload_n hx hb dJ_chk3_0 rfl (lv_at hlv 0 rfl) ?_
  refine lv_if_lt hx hb dJ_chk3_1 (tgt := 9) (by decide) (fun h => absurd h (nI_pos (by omega))) (fun _ => ?_)
  refine lv_iload_n hx hb dJ_chk3_4 rfl (lv_at hlv 0 rfl) ?_
  refine lv_iload_n hx hb dJ_chk3_5 rfl (lv_at hlv 1 rfl) ?_
  refine lv_icmp_lt hx hb dJ_chk3_6 (tgt := 16) (by decide) (fun _ => ?_) (fun h => absurd (nI_lt hi hn) h)
  refine lv_iload_n hx hb dJ_chk3_16 rfl (lv_at hlv 0 rfl) ?_
  exact ret _ _ 17 ls _ va_S.rf rfl rfl (by decide +kernel)
theorem jm_chk {l : Launch} {q av N i : Nat} {f : Nat → Int32} (hi : i < N) (hn : N < 2 ^ 31) : Met l yJ0_checkIndex_df160 (Cond.code yJ0_checkIndex_df160 cJ0_checkIndex_df160 2 none :: BIG) (rmR (2, 0, 0, 80)) (va_Pc [.int (nI i), .int (nI N)] (JB q av N f)) (va_Qv (fun (_ : Unit) => True) (fun _ _ => True) jF) 0 0 jF := by
  refine jm_metv (by decide +kernel) (Nat.le_of_ble_eq_true rfl) ?_
  intro p e s m below meth c Q ls hx hb hml hown hbig hB hlv ret
  have hB0 := hB
  obtain ⟨h1, h2, h3, h4, h5, h6⟩ := hB
  have hlv : lv_has ls 2 [(0, .int (nI i)), (1, .int (nI N))] := hlv
  refine lv_iload_n hx hb dJ_chk_0 rfl (lv_at hlv 0 rfl) ?_
  refine lv_iload_n hx hb dJ_chk_1 rfl (lv_at hlv 1 rfl) ?_
  have go : ∀ v : Value, v.category = 1 → va_Z "jdk/internal/util/Preconditions" "SIOOBE_FORMATTER" "Ljava/util/function/BiFunction;" v jF s s.heap → W p l e (rmR (2, 0, 0, 80)) s m [.int (nI i), .int (nI N)].toArray below meth c s.heap [] 0 0 Q (F0 m 2 ls [.int (nI N), .int (nI i)]) := by
    intro v hv9 hz
    refine va_gets hx hb hz va_S.rf hown (hbig _ (h_at_ok (pos := 545) (by decide +kernel))) (fun _ => j_same) dJ_chk_2 ?_
    refine jm_runS (A := jF) (vs := [.int (nI i), .int (nI N), v]) (rest := []) (pc := 5) (i := 1059) (n := 3) (B0 := fun _ => True) (jm_chk3 (l := l) hi hn hv9) (fun U g mk a h => h) (fun U hU hW => trivial) (h_at_ok (pos := 549) (by decide +kernel)) (h_at_ok (pos := 131) (by decide +kernel)) (h_at_ok (pos := 547) (by decide +kernel)) (h_at_ok (pos := 548) (by decide +kernel)) (by decide +kernel) (by decide +kernel) (by decide +kernel) rfl hx hb hml hown hbig hlv.1 (Nat.le_of_ble_eq_true rfl) (by decide) (by decide) (by decide) (by decide) (by decide +kernel) va_S.rf (fun r H1 locs1 hr hk hS1 => ?_)
    refine lv_pop hx hb (pc := 8) dJ_chk_8 rfl ?_
    exact ret _ _ 9 ls hS1 (by decide +kernel)
  rcases h2 with h2 | ⟨t, h2⟩
  · exact go .null rfl h2
  · exact go (.ref t) rfl h2
theorem jc_tab (b : Int32) : 0 ≤ (b &&& 255).toInt ∧ (b &&& 255).toInt ≤ 255 := en_andr (x := b) (y := 255) (by decide)
theorem jm_charL {l : Launch} {q av N i : Nat} {f : Nat → Int32} (hi : i < N) (hn : N < 2 ^ 31) : Met l yJ1_charAt_3b067 (Cond.code yJ1_charAt_3b067 cJ1_charAt_3b067 2 (some .char) :: BIG) (rmR (3, 0, 0, 110)) (va_Pc [.ref av, .int (nI i)] (JB q av N f)) (va_Qi (fun r (_ : Unit) => 0 ≤ r.toInt ∧ r.toInt ≤ 255) (fun _ _ => True) jF) 0 0 jF := by
  refine jm_met (by decide +kernel) (Nat.le_of_ble_eq_true rfl) ?_
  intro p e s m below meth c Q ls hx hb hml hown hbig hB hlv ret
  have hB0 := hB
  obtain ⟨h1, h2, h3, h4, h5, h6⟩ := hB
  have hlv : lv_has ls 2 [(0, .ref av), (1, .int (nI i))] := hlv
  refine lv_iload_n hx hb dJ_charL_0 rfl (lv_at hlv 1 rfl) ?_
  refine lv_aload_n hx hb dJ_charL_1 rfl (lv_at hlv 0 rfl) ?_
  refine va_tlen hx hb h6 va_S.rf (v := nI N) rfl (pc := 2) dJ_charL_2 ?_
  refine jm_runSv (A := jF) (vs := [.int (nI i), .int (nI N)]) (rest := []) (pc := 3) (i := 9) (n := 2) (jm_chk (l := l) (q := q) (av := av) (f := f) hi hn) (fun U g mk a h => h.calling) (fun U hU hW => hB0.warm hW hU va_S.rf) (h_at_ok (pos := 544) (by decide +kernel)) (h_at_ok (pos := 129) (by decide +kernel)) (h_at_ok (pos := 542) (by decide +kernel)) (h_at_ok (pos := 543) (by decide +kernel)) (by decide +kernel) (by decide +kernel) (by decide +kernel) rfl hx hb hml hown hbig hlv.1 (Nat.le_of_ble_eq_true rfl) (by decide) (by decide) (by decide) (by decide) (by decide +kernel) va_S.rf (fun H1 locs1 hk hS1 => ?_)
  refine lv_aload_n hx hb dJ_charL_6 rfl (lv_at hlv 0 rfl) ?_
  refine lv_iload_n hx hb dJ_charL_7 rfl (lv_at hlv 1 rfl) ?_
  refine va_tb hx hb h6 hS1 (vp_in_nI hi hn) (v := .int (f i)) (by rw [nI_clamp (by omega)]) (pc := 8) dJ_charL_8 ?_
  refine lv_sipush (v := 255) hx hb (pc := 9) dJ_charL_9 (by decide) ?_
  refine lv_iand hx hb (pc := 12) dJ_charL_12 ?_
  refine lv_i2c hx hb (pc := 13) dJ_charL_13 (sc_c2 (f i)) ?_
  exact ret _ _ 14 ls _ hS1 (sc_nar _) (jc_tab _) (by decide +kernel)
theorem jm_charAt {l : Launch} {q av N i : Nat} {f : Nat → Int32} (hi : i < N) (hn : N < 2 ^ 31) : Met l yJ0_charAt_5068e (Cond.code yJ0_charAt_5068e cJ0_charAt_5068e 2 (some .char) :: BIG) (rmR (4, 0, 0, 139)) (va_Pc [.ref q, .int (nI i)] (JB q av N f)) (va_Qi (fun r (_ : Unit) => 0 ≤ r.toInt ∧ r.toInt ≤ 255) (fun _ _ => True) jF) 0 0 jF := by
  refine jm_met (by decide +kernel) (Nat.le_of_ble_eq_true rfl) ?_
  intro p e s m below meth c Q ls hx hb hml hown hbig hB hlv ret
  have hB0 := hB
  obtain ⟨h1, h2, h3, h4, h5, h6⟩ := hB
  have hlv : lv_has ls 2 [(0, .ref q), (1, .int (nI i))] := hlv
  refine lv_aload_n hx hb dJ_charAt_0 rfl (lv_at hlv 0 rfl) ?_
  refine jm_runV (A := jF) (vs := []) (rest := []) (pc := 1) (i := 492) (n := 0) (q := q) (jm_isLatin1 (l := l) (q := q) (av := av) (N := N) (f := f)) (fun U g mk a h => h.calling) (fun U hU hW => hB0.warm hW hU va_S.rf) (h_at_ok (pos := 538) (by decide +kernel)) (h_at_ok (pos := 129) (by decide +kernel)) (h_at_ok (pos := 535) (by decide +kernel)) (h_at_ok (pos := 536) (by decide +kernel)) (h_at_ok (pos := 537) (by decide +kernel)) (by decide +kernel) (by decide +kernel) (by decide +kernel) rfl ?_ hx hb hml hown hbig hlv.1 (Nat.le_of_ble_eq_true rfl) (by decide) (by decide) (by decide) (by decide) (by decide +kernel) va_S.rf (fun r H1 locs1 hr hk hS1 => ?_)
  · obtain ⟨cell, a1, a2, a3, -⟩ := h3
    exact ⟨cell, a1, a2, a3⟩
  · have hr : r = 1 := hr
    subst hr
    refine lv_if_eq hx hb dJ_charAt_4 (tgt := 16) (by decide) (fun h => absurd h (by decide)) (fun _ => ?_)
    refine lv_aload_n hx hb dJ_charAt_7 rfl (lv_at hlv 0 rfl) ?_
    refine vk_getf hx hb h5 hS1 hown (hbig _ (h_at_ok (pos := 2020) (by decide +kernel))) (fun _ => j_same) dJ_charAt_8 ?_
    refine lv_iload_n hx hb dJ_charAt_11 rfl (lv_at hlv 1 rfl) ?_
    refine jm_runS (A := jF) (vs := [.ref av, .int (nI i)]) (rest := []) (pc := 12) (i := 495) (n := 2) (jm_charL (l := l) (q := q) (f := f) hi hn) (fun U g mk a h => h.calling) (fun U hU hW => hB0.warm hW hU hS1) (h_at_ok (pos := 541) (by decide +kernel)) (h_at_ok (pos := 130) (by decide +kernel)) (h_at_ok (pos := 539) (by decide +kernel)) (h_at_ok (pos := 540) (by decide +kernel)) (by decide +kernel) (by decide +kernel) (by decide +kernel) rfl hx hb hml hown hbig hlv.1 (Nat.le_of_ble_eq_true rfl) (by decide) (by decide) (by decide) (by decide) (by decide +kernel) hS1 (fun r H2 locs2 hr hk2 hS2 => ?_)
    have e2 : narrow .char (.int r) = .int r := by
      obtain ⟨k, e1, e2, e3⟩ := en_nn hr.1
      rw [e1]
      exact (pk_charN (by omega)).1
    exact ret _ _ 15 ls r hS2 e2 hr (by decide +kernel)
