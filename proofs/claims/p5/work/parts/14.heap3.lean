/-! what is made; rows copied -/
def e_dflt (ty : FieldType) : Option AV := match ty with
  | .int => some (aI 0)
  | .boolean => some (aI 0)
  | .long => some (aL 0 0)
  | .object _ => some aN
  | .array _ => some aN
  | _ => none
def e_dflts (ty : Nat → FieldType) (k n : Nat) : Option (List AV) := match n with
  | 0 => some []
  | n + 1 => (match e_dflt (ty k), e_dflts ty (k + 1) n with
    | some a, some r => some (a :: r)
    | _, _ => none)
def v_dflts (ty : Nat → FieldType) (k n : Nat) : List Value := match n with
  | 0 => []
  | n + 1 => defaultValue (ty k) :: v_dflts ty (k + 1) n
section HEAP3
variable {ν : Nat → Int} {b : Nat} {cy : Nat → ClassId} {C : List AC} {ws pool : va_W} {D : va_G} {A : Nat → Prop} {H0 : Heap}
variable {p : Program} {l : Launch} {e : Env} {R : Room} {s : State} {m : MethodId} {args : Array Value} {below : List Frame} {meth : Method} {c : Code} {H : Heap} {locs : List Loc} {cells slots : Nat} {Q : State → Prop}
variable {cc : ByteArray} {pc nL : Nat} {ls : Array Slot} {rest : List Value} {own : String}
theorem e_dflt_ok {al : List Nat} {ty : FieldType} {a : AV} (h : e_dflt ty = some a) : gv ν al b a (defaultValue ty) := by
  cases ty <;> simp [e_dflt] at h <;> subst h <;> first | exact ⟨0, rfl, by decide, by decide⟩ | rfl
theorem e_dflts_ok {al : List Nat} {ty : Nat → FieldType} : ∀ (n k : Nat) (fs : List AV), e_dflts ty k n = some fs → gvs ν al b fs (v_dflts ty k n) := by
  intro n
  induction n with
  | zero => intro k fs h; cases h; trivial
  | succ n ih =>
    intro k fs h
    simp only [e_dflts] at h
    split at h
    · rename_i a r h1 h2
      cases h
      exact ⟨e_dflt_ok h1, ih _ _ h2⟩
    · cases h
theorem v_dflts_at {ty : Nat → FieldType} : ∀ (n k j : Nat), j < n → vp_V (v_dflts ty k n) j = defaultValue (ty (k + j)) := by
  intro n
  induction n with
  | zero => intro k j h; omega
  | succ n ih =>
    intro k j h
    cases j with
    | zero => rfl
    | succ j =>
      have := ih (k + 1) j (by omega)
      rw [show k + (j + 1) = k + 1 + j by omega, ← this]
      rfl
theorem alw_push {q : Nat} {e1 : va_E} : alw (ws ++ [(q, e1)]) = alw ws ++ [q] := by simp [alw]
theorem gv_new {q : Nat} {e1 : va_E} (h : gW ν b cy C ws) : gv ν (alw (ws ++ [(q, e1)])) b (aR C.length) (.ref q) := by
  refine ⟨q, ?_, rfl⟩
  rw [alw_push, List.getElem?_append_right (by simp [h.1]), h.1]
  simp
theorem h_new {idx ci : Nat} {fs : List AV} {r : vw_C} (hx9 : p.tables.exec = Jvm.exec) (hb : c.code = cc) (hts : ∀ w ∈ BIG, w.before args s = true) (hown : s.vm.findClass own = some m.cls) (hK : va_K D vwCl (atys cy) s) (hW : Wd D cy A H0 pool ν b C ws H locs) (hA : ∀ q, H0.size ≤ q → A q)
    (hc : vwCl[ci]? = some r) (hfs : e_dflts (clTy ci) 0 r.2.2 = some fs) (hcl : (Cond.classLink own idx r.1).before args s = true) (hinst : (Cond.instantiable r.1 r.2.2).before args s = true) (hini : (Cond.initialized r.1).before args s = true) (hcells : cells + 1 ≤ R.cells) (hslots : slots + r.2.2 ≤ R.slots) (hd : decode cc pc = .ok (.new idx, 3))
    (kk : ∀ ws' q H', alw ws' = alw ws ++ [q] → gv ν (alw ws') b (aR C.length) (.ref q) → Wd D cy A H0 pool ν b (C ++ [.inr (ci, fs)]) ws' H' locs → W p l e R s m args below meth c H' locs (cells + 1) (slots + r.2.2) Q (F0 m (pc + 3) ls (.ref q :: rest))) : W p l e R s m args below meth c H locs cells slots Q (F0 m pc ls rest) := by
  obtain ⟨r1, r2, r3⟩ := cl_ok ci r hc
  refine va_new (ci := ci) (fs := v_dflts (clTy ci) 0 r.2.2) (C := r.1) (T := r.2.1) (N := r.2.2) hx9 hb hts r3 (clTy ci) r1 hown hcl hinst hini hK hW.2.1 hW.2.2.1 hW.2.2.2 hA hc (fun j hj => ?_) hcells hslots hd (fun q H1 g1 g2 g3 => ?_)
  · rw [v_dflts_at _ _ _ hj, Nat.zero_add]
  · rw [List.append_assoc] at g1 g2
    exact kk _ q H1 alw_push (gv_new hW.1) ⟨gW_push hW.1 ⟨_, rfl, e_dflts_ok _ _ _ hfs⟩, g1, g2, g3⟩
def e_atype (t : ArrayType) : Option Nat := match t with
  | .int => some 0
  | .byte => some 1
  | .boolean => some 2
  | .long => some 3
  | _ => none
theorem en_len {n : Int32} {k : Nat} (h : n.toInt = (k : Int)) (hk : k < 2147483648) : ¬ n < 0 ∧ n.toNatClampNeg = k := by
  have e : n = nI k := (fa_eq _ _).mpr (by rw [nI_toInt (by omega)]; exact h)
  subst e
  exact ⟨nI_pos (by omega), nI_clamp (by omega)⟩
theorem h_newa {at9 : ArrayType} {t k : Nat} {n : Int32} (hx9 : p.tables.exec = Jvm.exec) (hb : c.code = cc) (harr : (Cond.arrayClass (newarray.typeOf at9)).before args s = true) (hK : va_K D vwCl (atys cy) s) (hW : Wd D cy A H0 pool ν b C ws H locs) (hA : ∀ q, H0.size ≤ q → A q)
    (ht : e_atype at9 = some t) (hn : n.toInt = (k : Int)) (hk : k < 65536) (hcells : cells + 1 ≤ R.cells) (hslots : slots + k ≤ R.slots) (hd : decode cc pc = .ok (.newarray at9, 2))
    (kk : ∀ ws' q H', alw ws' = alw ws ++ [q] → gv ν (alw ws') b (aR C.length) (.ref q) → Wd D cy A H0 pool ν b (C ++ [.inl (t, k, (if t = 3 then aL 0 0 else aI 0), [])]) ws' H' locs → W p l e R s m args below meth c H' locs (cells + 1) (slots + k) Q (F0 m (pc + 2) ls (.ref q :: rest))) : W p l e R s m args below meth c H locs cells slots Q (F0 m pc ls (.int n :: rest)) := by
  obtain ⟨n0, n1⟩ := en_len hn (by omega)
  have key : ∀ {a0 : vp_A} (hty : newarray.typeOf at9 = e_aty t) (ha : ∀ cA : ClassId, vp_cell cA a0 = arrV cA k (fun _ => defaultValue (e_aty t))) (hb8 : k * componentBytes (e_aty t) ≤ 536870912) (hRA : ∀ cA : ClassId, va_RA s cA (e_aty t) → cA = cy t) (hg : gC ν ([] : List Nat) b cy (.inl (t, k, (if t = 3 then aL 0 0 else aI 0), [])) (.inl (cy t, a0))), W p l e R s m args below meth c H locs cells slots Q (F0 m pc ls (.int n :: rest)) := by
    intro a0 hty ha hb8 hRA hg
    refine va_newa (a0 := a0) (N' := k) hx9 hb harr hty hK hW.2.1 hW.2.2.1 hW.2.2.2 hA ha n0 n1 hb8 hcells hslots hd (fun q cA H1 gK g1 g2 g3 => ?_)
    have e9 : cA = cy t := hRA cA (gK.2 6 _ rfl).2
    subst e9
    rw [List.append_assoc] at g1 g2
    refine kk _ q H1 alw_push (gv_new hW.1) ⟨gW_push hW.1 ?_, g1, g2, g3⟩
    have := gC_app (alw ws ++ [q]) hg
    exact this
  have inj : ∀ {ty : FieldType} {i : Nat}, (atys cy)[i]? = some (cy i, ty) → (∀ cA : ClassId, va_RA s cA ty → s.vm.findClass ("[" ++ ty.toString) = some cA) → ∀ cA : ClassId, va_RA s cA ty → cA = cy i := by
    intro ty i h1 h2 cA h3
    have a1 := h2 _ h3
    have a2 := h2 _ (hK.2 i _ h1).2
    rw [a1] at a2
    exact Option.some.inj a2
  cases at9 <;> simp [e_atype] at ht <;> subst ht
  · exact key (a0 := (k, .inl (fun _ => 0))) rfl (fun _ => rfl) (by show k * 1 ≤ _; omega) (inj (i := 2) rfl (fun _ h => h)) (Or.inl ⟨by omega, _, rfl, fun j _ => ⟨0, rfl, by decide, by decide⟩⟩)
  · exact key (a0 := (k, .inl (fun _ => 0))) rfl (fun _ => rfl) (by show k * 1 ≤ _; omega) (inj (i := 1) rfl (fun _ h => h)) (Or.inl ⟨by omega, _, rfl, fun j _ => ⟨0, rfl, by decide, by decide⟩⟩)
  · exact key (a0 := (k, .inl (fun _ => 0))) rfl (fun _ => rfl) (by show k * 4 ≤ _; omega) (inj (i := 0) rfl (fun _ h => h)) (Or.inl ⟨by omega, _, rfl, fun j _ => ⟨0, rfl, by decide, by decide⟩⟩)
  · exact key (a0 := (k, .inr (.inl (fun _ => 0)))) rfl (fun _ => rfl) (by show k * 8 ≤ _; omega) (inj (i := 3) rfl (fun _ h => h)) (Or.inr (Or.inl ⟨rfl, _, rfl, fun j _ => ⟨0, rfl, by decide, by decide⟩⟩))
theorem h_newq {idx t k : Nat} {n : Int32} {r : vw_C} (hx9 : p.tables.exec = Jvm.exec) (hb : c.code = cc) (hown : s.vm.findClass own = some m.cls) (hK : va_K D vwCl (atys cy) s) (hW : Wd D cy A H0 pool ν b C ws H locs) (hA : ∀ q, H0.size ≤ q → A q)
    (ht : 4 ≤ t) (ht6 : t < 6) (hr : vwCl[e_acls t]? = some r) (hcl : (Cond.classLink own idx r.1).before args s = true) (hover : va_AO r.1 s) (hn : n.toInt = (k : Int)) (hk : k < 65536) (hcells : cells + 1 ≤ R.cells) (hslots : slots + k ≤ R.slots) (hd : decode cc pc = .ok (.anewarray idx, 3))
    (kk : ∀ ws' q H', alw ws' = alw ws ++ [q] → gv ν (alw ws') b (aR C.length) (.ref q) → Wd D cy A H0 pool ν b (C ++ [.inl (t, k, aN, [])]) ws' H' locs → W p l e R s m args below meth c H' locs (cells + 1) (slots + k) Q (F0 m (pc + 3) ls (.ref q :: rest))) : W p l e R s m args below meth c H locs cells slots Q (F0 m pc ls (.int n :: rest)) := by
  obtain ⟨n0, n1⟩ := en_len hn (by omega)
  obtain ⟨r', hr1, hr2⟩ := vwCl_acls t ht ht6
  rw [hr] at hr1
  cases hr1
  have hT := atys_at cy t ht6
  rw [hr2] at hT
  refine va_newq (C := r.1) (N' := k) hx9 hb hown hcl hover hK hW.2.1 hW.2.2.1 hW.2.2.2 hA n0 n1 (by omega) hcells hslots hd (fun q cA H1 gK g1 g2 g3 => ?_)
  have e9 : cA = cy t := by
    obtain ⟨k1, c1, -, -, -, f1⟩ := (gK.2 6 _ rfl).2
    obtain ⟨k2, c2, -, -, -, f2⟩ := (hK.2 t _ hT).2
    rw [f1] at f2
    exact Option.some.inj f2
  subst e9
  rw [List.append_assoc] at g1 g2
  exact kk _ q H1 alw_push (gv_new hW.1) ⟨gW_push hW.1 (Or.inr (Or.inr ⟨ht, fun _ => none, rfl, fun j _ => by show va_rf none = Value.null; rfl⟩)), g1, g2, g3⟩
/-- a whole row of ints is copied into another of its length -/
theorem h_copy {idx i0 i1 q0 q1 n : Nat} {d0 d1 : AV} {x0 x1 : List (Nat × AV)} {sp dp nn : Int32} (hx9 : p.tables.exec = Jvm.exec) (hb : c.code = cc) (hml : c.maxLocals = ls.size) (hown : s.vm.findClass own = some m.cls) (hlink : (Cond.methodLink own idx arraycopyName).before args s = true) (hnat : (Cond.native arraycopyName).before args s = true) (hstat : (Cond.static arraycopyName).before args s = true) (hini : (Cond.initialized "java/lang/System").before args s = true) (hK : va_K D vwCl (atys cy) s) (hW : Wd D cy A H0 pool ν b C ws H locs)
    (hi0 : C[i0]? = some (.inl (0, n, d0, x0))) (hq0 : (alw ws)[i0]? = some q0) (hi1 : C[i1]? = some (.inl (0, n, d1, x1))) (hq1 : (alw ws)[i1]? = some q1) (h1 : sp.toInt = 0) (h2 : dp.toInt = 0) (h3 : nn.toInt = (n : Int)) (hn : n < 65536) (hframes : 1 ≤ R.frames) (hlocals : (rest.map fun v => v.category).sum + (nativeFrameWords "java/lang/System" "arraycopy" 5 + 11) ≤ R.locals) (hd : decode cc pc = .ok (.invokestatic idx, 3))
    (kk : ∀ ws' H' locs', alw ws' = alw ws → Wd D cy A H0 pool ν b (C.set i1 (.inl (0, n, d0, x0))) ws' H' locs' → W p l e R s m args below meth c H' locs' cells slots Q (F0 m (pc + 3) ls rest)) : W p l e R s m args below meth c H locs cells slots Q (F0 m pc ls (.int nn :: .int dp :: .ref q1 :: .int sp :: .ref q0 :: rest)) := by
  obtain ⟨s0, s1⟩ := en_len (k := 0) h1 (by omega)
  obtain ⟨t0, t1⟩ := en_len (k := 0) h2 (by omega)
  obtain ⟨u0, u1⟩ := en_len h3 (by omega)
  obtain ⟨q0', e0, a1, a2, a3⟩ := gW_at hW.1 hi0
  obtain ⟨q1', e1, b1, b2, b3⟩ := gW_at hW.1 hi1
  rw [hq0] at a2
  rw [hq1] at b2
  cases a2
  cases b2
  rcases a3 with ⟨-, f, rfl, a4⟩ | ⟨g0, -⟩ | ⟨g0, -⟩
  · rcases b3 with ⟨-, g, rfl, b4⟩ | ⟨g0, -⟩ | ⟨g0, -⟩
    · refine va_copyi hx9 hb hml hown hlink hnat hstat hini hK hW.2.1 hW.2.2.1 hW.2.2.2 (pool.length + i0) (pool.length + i1) 0 0 (pw_at a1) (pw_at b1) rfl rfl rfl s0 t0 u0 (by rw [s1, u1]; omega) (by rw [t1, u1]; omega) (fun i _ => rfl) hframes hlocals hd (fun H1 locs1 g1 g2 g3 => ?_)
      rw [pw_set] at g1 g2
      refine kk _ H1 locs1 (alw_set b1) ⟨gW_set hW.1 b1 (Or.inl ⟨by omega, _, rfl, fun j hj => ?_⟩), g1, g2, g3⟩
      rw [s1, t1, u1, pk_cpy_in (by omega) (by omega)]
      rw [show 0 + (j - 0) = j by omega]
      exact a4 j hj
    · omega
    · omega
  · omega
  · omega
end HEAP3
