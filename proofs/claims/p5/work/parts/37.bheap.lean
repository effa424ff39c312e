/-! the heap's steps -/
/-- pc, locals, stack, numbers and facts, what is being made (its name, its class), cells made, slots made -/
abbrev SB : Type := Nat × List (Nat × BV) × List BV × FS × Option (Nat × Nat) × Nat × Nat
/-- places that may be written: a kind, from, to -/
abbrev WR : Type := List (Nat × Nat × Nat)
def f_wr (wr : WR) (κ lo hi : Nat) : Bool := wr.any (fun w => Nat.beq w.1 κ && (Nat.ble w.2.1 lo && Nat.ble hi w.2.2))
def inwr (wr : WR) (κ j : Nat) : Prop := ∃ w ∈ wr, w.1 = κ ∧ w.2.1 ≤ j ∧ j ≤ w.2.2
theorem f_wr_ok {wr : WR} {κ lo hi j : Nat} (h : f_wr wr κ lo hi = true) (h1 : lo ≤ j) (h2 : j ≤ hi) : inwr wr κ j := by
  obtain ⟨w, hw, h3⟩ := List.any_eq_true.mp h
  simp only [Bool.and_eq_true] at h3
  have a1 := Nat.le_of_ble_eq_true h3.2.1
  have a2 := Nat.le_of_ble_eq_true h3.2.2
  exact ⟨w, hw, Nat.eq_of_beq_eq_true h3.1, by omega, by omega⟩
/-- nothing but these places has changed -/
def Unch (wr : WR) (ks0 : List Nat) (wp0 : va_W) (ks : List Nat) (wp : va_W) : Prop := (∃ more, ks = ks0 ++ more) ∧ ∀ (i κ q : Nat) (e : va_E), ks0[i]? = some κ → wp0[i]? = some (q, e) → ∃ e', wp[i]? = some (q, e') ∧ ∀ j, ¬ inwr wr κ j → cval e' j = cval e j
theorem Unch.rf {wr : WR} {ks : List Nat} {wp : va_W} : Unch wr ks wp ks wp := ⟨⟨[], by simp⟩, fun i κ q e _ h => ⟨e, h, fun _ _ => rfl⟩⟩
theorem Unch.tr {wr wr' : WR} {ks0 ks1 ks2 : List Nat} {wp0 wp1 wp2 : va_W} (h1 : Unch wr ks0 wp0 ks1 wp1) (h2 : Unch wr' ks1 wp1 ks2 wp2) (hs : ∀ κ j, inwr wr' κ j → inwr wr κ j) : Unch wr ks0 wp0 ks2 wp2 := by
  obtain ⟨⟨m1, e1⟩, g1⟩ := h1
  obtain ⟨⟨m2, e2⟩, g2⟩ := h2
  refine ⟨⟨m1 ++ m2, by rw [e2, e1, List.append_assoc]⟩, fun i κ q e h3 h4 => ?_⟩
  obtain ⟨e', a1, a2⟩ := g1 i κ q e h3 h4
  obtain ⟨e'', b1, b2⟩ := g2 i κ q e' (by rw [e1, List.getElem?_append_left (List.getElem?_eq_some_iff.mp h3).1]; exact h3) a1
  exact ⟨e'', b1, fun j hj => (b2 j (fun h => hj (hs κ j h))).trans (a2 j hj)⟩
theorem Unch.set {wr : WR} {ks0 ks : List Nat} {wp0 wp : va_W} {i κ q z : Nat} {e e' : va_E} (h : Unch wr ks0 wp0 ks wp) (hi : ks[i]? = some κ) (hw : wp[i]? = some (q, e)) (he : ∀ j, j ≠ z → cval e' j = cval e j) (hz : inwr wr κ z) : Unch wr ks0 wp0 ks (wp.set i (q, e')) := by
  obtain ⟨⟨m1, e1⟩, g1⟩ := h
  refine ⟨⟨m1, e1⟩, fun i1 κ1 q1 e2 h3 h4 => ?_⟩
  obtain ⟨e3, a1, a2⟩ := g1 i1 κ1 q1 e2 h3 h4
  by_cases e9 : i = i1
  · subst e9
    rw [hw] at a1
    cases a1
    have k9 : κ1 = κ := by
      have : ks[i]? = some κ1 := by rw [e1, List.getElem?_append_left (List.getElem?_eq_some_iff.mp h3).1]; exact h3
      rw [hi] at this
      exact (Option.some.inj this).symm
    subst k9
    refine ⟨e', by rw [List.getElem?_set, if_pos rfl, if_pos (List.getElem?_eq_some_iff.mp hw).1], fun j hj => ?_⟩
    rw [he j (fun h => hj (by rw [h]; exact hz))]
    exact a2 j hj
  · exact ⟨e3, by rw [List.getElem?_set, if_neg e9]; exact a1, a2⟩
section BHEAP
variable {cy : Nat → ClassId} {ww : va_W} {D : va_G} {A : Nat → Prop} {H0 : Heap}
variable {p : Program} {l : Launch} {e : Env} {R : Room} {s : State} {m : MethodId} {args : Array Value} {below : List Frame} {meth : Method} {c : Code} {H : Heap} {locs : List Loc} {cells slots : Nat} {Q : State → Prop}
variable {cc : ByteArray} {pc nL : Nat} {ls : Array Slot} {rest : List Value} {own : String}
theorem b_get {idx i q ci k : Nat} {vs : List Value} {r : vw_C} {v : Value} (hx9 : p.tables.exec = Jvm.exec) (hb : c.code = cc) (hts : ∀ w ∈ BIG, w.before args s = true) (hown : s.vm.findClass own = some m.cls) (hK : KK D cy s) (hP : va_P D vwCl ww H)
    (hi : ww[i]? = some (q, .inr (ci, vs))) (hc : vwCl[ci]? = some r) (hk : k < r.2.2) (hv9 : vs[k]? = some v) (hlink : (Cond.fieldLink own idx (r.2.1 k).1 (r.2.1 k).2.1 (r.2.1 k).2.2.1).before args s = true ∨ ∃ host, (Cond.fieldLinkNest own idx (r.2.1 k).1 (r.2.1 k).2.1 (r.2.1 k).2.2.1 host).before args s = true) (hd : decode cc pc = .ok (.getfield idx, 3))
    (kk : W p l e R s m args below meth c H locs cells slots Q (F0 m (pc + 3) ls (v :: rest))) : W p l e R s m args below meth c H locs cells slots Q (F0 m pc ls (.ref q :: rest)) := by
  obtain ⟨r1, r2, r3⟩ := cl_ok ci r hc
  rcases hlink with hlink | ⟨host, hlink⟩
  · exact va_get (D := D) (ci := ci) (v := v) (C := r.1) (T := r.2.1) (N := r.2.2) hx9 hb hts r3 hown hK.1 hP i hi hc k hk hlink (fun _ h9 => h9) hv9 hd kk
  · exact va_getN (D := D) (ci := ci) (v := v) (C := r.1) (T := r.2.1) (N := r.2.2) hx9 hb hts r3 hown hK.1 hP i hi hc k hk hlink (fun _ h9 => h9) hv9 hd kk
theorem b_put {idx i q ci k : Nat} {vs : List Value} {r : vw_C} {v : Value} (hx9 : p.tables.exec = Jvm.exec) (hb : c.code = cc) (hts : ∀ w ∈ BIG, w.before args s = true) (hown : s.vm.findClass own = some m.cls) (hK : KK D cy s) (hP : va_P D vwCl ww H) (hD : va_D A ww) (hS : va_S A H0 H locs)
    (hi : ww[i]? = some (q, .inr (ci, vs))) (hc : vwCl[ci]? = some r) (hk : k < r.2.2) (hl9 : k < vs.length) (f1 : narrow (clTy ci k) v = v) (f2 : fits (clTy ci k) v = true) (hfin : (r.2.1 k).2.2.2 = false) (hlink : (Cond.fieldLink own idx (r.2.1 k).1 (r.2.1 k).2.1 (r.2.1 k).2.2.1).before args s = true ∨ ∃ host, (Cond.fieldLinkNest own idx (r.2.1 k).1 (r.2.1 k).2.1 (r.2.1 k).2.2.1 host).before args s = true) (hd : decode cc pc = .ok (.putfield idx, 3))
    (kk : ∀ (H1 : Heap) (locs1 : List Loc), va_P D vwCl (ww.set i (q, .inr (ci, vs.set k v))) H1 → va_D A (ww.set i (q, .inr (ci, vs.set k v))) → va_S A H0 H1 locs1 → W p l e R s m args below meth c H1 locs1 cells slots Q (F0 m (pc + 3) ls rest)) : W p l e R s m args below meth c H locs cells slots Q (F0 m pc ls (v :: .ref q :: rest)) := by
  obtain ⟨r1, r2, r3⟩ := cl_ok ci r hc
  rcases hlink with hlink | ⟨host, hlink⟩
  · exact va_put (D := D) (ci := ci) (v := v) (ty := clTy ci k) (C := r.1) (T := r.2.1) (N := r.2.2) hx9 hb hts r3 (clTy ci) r1 r2 hown hK.1 hP hD hS i hi hc k hk hlink (fun _ h9 => h9) hfin (r1 k hk) f1 f2 hl9 hd kk
  · exact va_putN (D := D) (ci := ci) (v := v) (ty := clTy ci k) (C := r.1) (T := r.2.1) (N := r.2.2) hx9 hb hts r3 (clTy ci) r1 r2 hown hK.1 hP hD hS i hi hc k hk hlink (fun _ h9 => h9) hfin (r1 k hk) f1 f2 hl9 hd kk
theorem b_ald {ins : Instr} {i q t n z : Nat} {x : List (Nat × BT)} {e0 : va_E} {v : Value} {j : Int32} (hx9 : p.tables.exec = Jvm.exec) (hb : c.code = cc) (hK : KK D cy s) (hP : va_P D vwCl ww H)
    (hi : ww[i]? = some (q, e0)) (hsh : kshape cy (.inl (t, n, x)) e0) (ht : t < 6) (hj : j.toInt = (z : Int)) (hk : z < n) (hn : n < 2147483648) (hv9 : cval e0 z = some v) (hins : e_ald ins t = true) (hd : decode cc pc = .ok (ins, 1))
    (kk : W p l e R s m args below meth c H locs cells slots Q (F0 m (pc + 1) ls (v :: rest))) : W p l e R s m args below meth c H locs cells slots Q (F0 m pc ls (.int j :: .ref q :: rest)) := by
  obtain ⟨hin, hcl⟩ := en_in hj hk hn
  have hT := atys_at cy t ht
  rcases hsh with ⟨g0, f, rfl⟩ | ⟨g0, f, rfl⟩ | ⟨g0, f, rfl⟩
  · simp only [cval, if_pos hk, Option.some.injEq] at hv9
    subst hv9
    rw [← hcl] at kk
    rcases (show t = 0 ∨ t = 1 ∨ t = 2 by omega) with rfl | rfl | rfl
    · cases ins <;> simp [e_ald] at hins
      exact va_iald hx9 hb hK.1 hP i 0 hi hT hin hd kk
    · cases ins <;> simp [e_ald] at hins
      exact va_bald hx9 hb hK.1 hP i 1 hi hT hin hd kk
    · cases ins <;> simp [e_ald] at hins
      exact va_zald hx9 hb hK.1 hP i 2 hi hT hin hd kk
  · subst g0
    simp only [cval, if_pos hk, Option.some.injEq] at hv9
    subst hv9
    rw [← hcl] at kk
    cases ins <;> simp [e_ald] at hins
    exact va_lald hx9 hb hK.1 hP i 3 hi hT hin hd kk
  · simp only [cval, if_pos hk, Option.some.injEq] at hv9
    subst hv9
    rw [← hcl] at kk
    have hins2 : ins = .aaload := by
      cases ins <;> simp [e_ald] at hins <;> first | rfl | omega
    subst hins2
    rcases (show t = 4 ∨ t = 5 by omega) with rfl | rfl
    · exact va_aldq hx9 hb hK.1 hP i 4 hi hT hin hd kk
    · exact va_aldq hx9 hb hK.1 hP i 5 hi hT hin hd kk
/-- may an array of this type hold it as it is -/
def v_afit (t : Nat) (v : Value) : Prop := (t = 0 ∧ ∃ y : Int32, v = .int y) ∨ (t = 1 ∧ ∃ y : Int32, v = .int y ∧ -128 ≤ y.toInt ∧ y.toInt ≤ 127) ∨ (t = 2 ∧ ∃ y : Int32, v = .int y ∧ 0 ≤ y.toInt ∧ y.toInt ≤ 1) ∨ (t = 3 ∧ ∃ y : Int64, v = .long y)
theorem b_ast {ins : Instr} {i q t n z : Nat} {x : List (Nat × BT)} {e0 : va_E} {v : Value} {j : Int32} (hx9 : p.tables.exec = Jvm.exec) (hb : c.code = cc) (hK : KK D cy s) (hP : va_P D vwCl ww H) (hD : va_D A ww) (hS : va_S A H0 H locs)
    (hi : ww[i]? = some (q, e0)) (hsh : kshape cy (.inl (t, n, x)) e0) (ht : t < 6) (hj : j.toInt = (z : Int)) (hk : z < n) (hn : n < 2147483648) (hf : v_afit t v ∨ (4 ≤ t ∧ (v = .null ∨ ∃ (i2 q2 : Nat) (vs2 : List Value), v = .ref q2 ∧ ww[i2]? = some (q2, .inr (e_acls t, vs2))))) (hins : e_aop ins t = true) (hd : decode cc pc = .ok (ins, 1))
    (kk : ∀ (e1 : va_E), kshape cy (.inl (t, n, x)) e1 → cval e1 z = some v → (∀ j, j ≠ z → cval e1 j = cval e0 j) → ∀ (H1 : Heap) (locs1 : List Loc), va_P D vwCl (ww.set i (q, e1)) H1 → va_D A (ww.set i (q, e1)) → va_S A H0 H1 locs1 → W p l e R s m args below meth c H1 locs1 cells slots Q (F0 m (pc + 1) ls rest)) : W p l e R s m args below meth c H locs cells slots Q (F0 m pc ls (v :: .int j :: .ref q :: rest)) := by
  obtain ⟨hin, hcl⟩ := en_in hj hk hn
  have hT := atys_at cy t ht
  have ki : ∀ (f : Nat → Int32) (y : Int32), e0 = .inl (cy t, n, .inl f) → t ≤ 2 → v = .int y → ∀ (H1 : Heap) (locs1 : List Loc), va_P D vwCl (ww.set i (q, .inl (cy t, n, .inl (upd f z y)))) H1 → va_D A (ww.set i (q, .inl (cy t, n, .inl (upd f z y)))) → va_S A H0 H1 locs1 → W p l e R s m args below meth c H1 locs1 cells slots Q (F0 m (pc + 1) ls rest) := by
    intro f y he ht2 hvy H1 locs1 g1 g2 g3
    refine kk (.inl (cy t, n, .inl (upd f z y))) (Or.inl ⟨ht2, _, rfl⟩) ?_ (fun j hj => ?_) H1 locs1 g1 g2 g3
    · simp only [cval, if_pos hk]; rw [pk_us, hvy]
    · rw [he]
      simp only [cval]
      split
      · rw [pk_un hj]
      · rfl
  rcases hsh with ⟨g0, f, rfl⟩ | ⟨g0, f, rfl⟩ | ⟨g0, f, rfl⟩
  · rcases hf with (⟨rfl, y, rfl⟩ | ⟨rfl, y, rfl, y1, y2⟩ | ⟨rfl, y, rfl, y1, y2⟩ | ⟨rfl, y, rfl⟩) | ⟨h4, -⟩
    · cases ins <;> simp [e_aop] at hins
      exact va_iast hx9 hb hK.1 hP hD hS i 0 hi hT hin hd (by rw [hcl]; exact ki f y rfl g0 rfl)
    · have e8 : vp_nar .byte y = y := (vp_nar_byte y).trans (en_i8 (by omega) (by omega))
      cases ins <;> simp [e_aop] at hins
      exact va_bast hx9 hb hK.1 hP hD hS i 1 hi hT hin hd (by rw [hcl, e8]; exact ki f y rfl g0 rfl)
    · have e8 : vp_nar .boolean y = y := by
        rcases en_b01 (x := y) (by omega) (by omega) with rfl | rfl <;> decide
      cases ins <;> simp [e_aop] at hins
      exact va_zast hx9 hb hK.1 hP hD hS i 2 hi hT hin hd (by rw [hcl, e8]; exact ki f y rfl g0 rfl)
    · omega
    · omega
  · subst g0
    rcases hf with (⟨h0, -⟩ | ⟨h0, -⟩ | ⟨h0, -⟩ | ⟨-, y, rfl⟩) | ⟨h4, -⟩
    · omega
    · omega
    · omega
    · cases ins <;> simp [e_aop] at hins
      refine va_last hx9 hb hK.1 hP hD hS i 3 hi hT hin hd ?_
      rw [hcl]
      intro H1 locs1 g1 g2 g3
      refine kk _ (Or.inr (Or.inl ⟨rfl, _, rfl⟩)) ?_ (fun j hj => ?_) H1 locs1 g1 g2 g3
      · simp only [cval, if_pos hk]; rw [pk_uLs]
      · simp only [cval]
        split
        · rw [pk_uLn hj]
        · rfl
    · omega
  · obtain ⟨r, hr1, hr2⟩ := vwCl_acls t g0 ht
    have kr : ∀ y : Option Nat, v = va_rf y → ∀ (H1 : Heap) (locs1 : List Loc), va_P D vwCl (ww.set i (q, .inl (cy t, n, .inr (.inr (.inr (.inr (va_up f z y))))))) H1 → va_D A (ww.set i (q, .inl (cy t, n, .inr (.inr (.inr (.inr (va_up f z y))))))) → va_S A H0 H1 locs1 → W p l e R s m args below meth c H1 locs1 cells slots Q (F0 m (pc + 1) ls rest) := by
      intro y hvy H1 locs1 g1 g2 g3
      refine kk _ (Or.inr (Or.inr ⟨g0, _, rfl⟩)) ?_ (fun j hj => ?_) H1 locs1 g1 g2 g3
      · simp only [cval, if_pos hk, va_up]
        rw [hvy]; simp
      · simp only [cval, va_up]
        split
        · first | rfl | rw [if_neg hj]
        · rfl
    rw [hr2] at hT
    have hins2 : ins = .aastore := by
      cases ins <;> simp [e_aop] at hins <;> first | rfl | omega
    subst hins2
    rcases hf with (⟨h0, -⟩ | ⟨h0, -⟩ | ⟨h0, -⟩ | ⟨h0, -⟩) | ⟨-, rfl | ⟨i2, q2, vs2, rfl, h5⟩⟩
    · omega
    · omega
    · omega
    · omega
    · exact va_astqN hx9 hb hK.1 hP hD hS i t hi hT hin hd (by rw [hcl]; exact kr none rfl)
    · exact va_astq hx9 hb hK.1 hP hD hS i t i2 (e_acls t) hi hT h5 hr1 hin hd (by rw [hcl]; exact kr (some q2) rfl)
theorem b_alen {i q t n : Nat} {x : List (Nat × BT)} {e0 : va_E} (hx9 : p.tables.exec = Jvm.exec) (hb : c.code = cc) (hK : KK D cy s) (hP : va_P D vwCl ww H)
    (hi : ww[i]? = some (q, e0)) (hsh : kshape cy (.inl (t, n, x)) e0) (ht : t < 6) (hd : decode cc pc = .ok (.arraylength, 1))
    (kk : W p l e R s m args below meth c H locs cells slots Q (F0 m (pc + 1) ls (.int (nI n) :: rest))) : W p l e R s m args below meth c H locs cells slots Q (F0 m pc ls (.ref q :: rest)) := by
  have hT := atys_at cy t ht
  rcases hsh with ⟨g0, f, rfl⟩ | ⟨g0, f, rfl⟩ | ⟨g0, f, rfl⟩
  · exact va_alen hx9 hb hK.1 hP i t hi hT rfl hd kk
  · exact va_alen hx9 hb hK.1 hP i t hi hT rfl hd kk
  · exact va_alen hx9 hb hK.1 hP i t hi hT rfl hd kk
end BHEAP
