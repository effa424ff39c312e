section HEAP
variable {ν : Nat → Int} {b : Nat} {cy : Nat → ClassId} {C : List AC} {ws pool : va_W} {D : va_G} {A : Nat → Prop} {H0 : Heap}
variable {p : Program} {l : Launch} {e : Env} {R : Room} {s : State} {m : MethodId} {args : Array Value} {below : List Frame} {meth : Method} {c : Code} {H : Heap} {locs : List Loc} {cells slots : Nat} {Q : State → Prop}
variable {cc : ByteArray} {pc nL : Nat} {ls : Array Slot} {rest : List Value} {own : String}
theorem h_get {idx i q ci k : Nat} {fs : List AV} {r : vw_C} {a : AV} (hx9 : p.tables.exec = Jvm.exec) (hb : c.code = cc) (hts : ∀ w ∈ BIG, w.before args s = true) (hown : s.vm.findClass own = some m.cls) (hK : va_K D vwCl (atys cy) s) (hW : Wd D cy A H0 pool ν b C ws H locs)
    (hi : C[i]? = some (.inr (ci, fs))) (hq : (alw ws)[i]? = some q) (hc : vwCl[ci]? = some r) (hk : k < r.2.2) (ha : fs[k]? = some a) (hlink : (Cond.fieldLink own idx (r.2.1 k).1 (r.2.1 k).2.1 (r.2.1 k).2.2.1).before args s = true) (hd : decode cc pc = .ok (.getfield idx, 3))
    (kk : ∀ v, gv ν (alw ws) b a v → W p l e R s m args below meth c H locs cells slots Q (F0 m (pc + 3) ls (v :: rest))) : W p l e R s m args below meth c H locs cells slots Q (F0 m pc ls (.ref q :: rest)) := by
  obtain ⟨q', e', h1, h2, vs, rfl, h3⟩ := gW_at hW.1 hi
  rw [hq] at h2
  cases h2
  obtain ⟨v, hv, gvv⟩ := gvs_get h3 ha
  obtain ⟨r1, r2, r3⟩ := cl_ok ci r hc
  exact va_get (D := D) (ci := ci) (v := v) (C := r.1) (T := r.2.1) (N := r.2.2) hx9 hb hts r3 hown hK hW.2.1 (pool.length + i) (pw_at h1) hc k hk hlink (fun _ h9 => h9) hv hd (kk v gvv)
theorem h_getN {idx i q ci k : Nat} {host : String} {fs : List AV} {r : vw_C} {a : AV} (hx9 : p.tables.exec = Jvm.exec) (hb : c.code = cc) (hts : ∀ w ∈ BIG, w.before args s = true) (hown : s.vm.findClass own = some m.cls) (hK : va_K D vwCl (atys cy) s) (hW : Wd D cy A H0 pool ν b C ws H locs)
    (hi : C[i]? = some (.inr (ci, fs))) (hq : (alw ws)[i]? = some q) (hc : vwCl[ci]? = some r) (hk : k < r.2.2) (ha : fs[k]? = some a) (hlink : (Cond.fieldLinkNest own idx (r.2.1 k).1 (r.2.1 k).2.1 (r.2.1 k).2.2.1 host).before args s = true) (hd : decode cc pc = .ok (.getfield idx, 3))
    (kk : ∀ v, gv ν (alw ws) b a v → W p l e R s m args below meth c H locs cells slots Q (F0 m (pc + 3) ls (v :: rest))) : W p l e R s m args below meth c H locs cells slots Q (F0 m pc ls (.ref q :: rest)) := by
  obtain ⟨q', e', h1, h2, vs, rfl, h3⟩ := gW_at hW.1 hi
  rw [hq] at h2
  cases h2
  obtain ⟨v, hv, gvv⟩ := gvs_get h3 ha
  obtain ⟨r1, r2, r3⟩ := cl_ok ci r hc
  exact va_getN (D := D) (ci := ci) (v := v) (C := r.1) (T := r.2.1) (N := r.2.2) hx9 hb hts r3 hown hK hW.2.1 (pool.length + i) (pw_at h1) hc k hk hlink (fun _ h9 => h9) hv hd (kk v gvv)
/-- may a field of this type hold it -/
def e_fits (E : EV) (ty : FieldType) (a : AV) : Bool := match ty with
  | .int => (match e_iv E a with | some _ => true | none => false)
  | .boolean => (match e_iv E a with | some (lo, hi) => decide (0 ≤ lo) && decide (hi ≤ 1) | none => false)
  | .long => e_isL a
  | .object _ => e_isR a
  | .array _ => e_isR a
  | _ => false
theorem en_b01 {x : Int32} (h1 : 0 ≤ x.toInt) (h2 : x.toInt ≤ 1) : x = 0 ∨ x = 1 := by
  rcases (show x.toInt = 0 ∨ x.toInt = 1 by omega) with h | h
  · exact Or.inl ((fa_eq _ _).mpr h)
  · exact Or.inr ((fa_eq _ _).mpr h)
theorem e_fits_ok {E : EV} {al : List Nat} {ty : FieldType} {a : AV} {v : Value} (hE : genv ν E) (h : gv ν al b a v) (hf : e_fits E ty a = true) : narrow ty v = v ∧ fits ty v = true := by
  unfold e_fits at hf
  split at hf
  · split at hf
    · rename_i q hq
      obtain ⟨x, rfl, -⟩ := gv_int hE h hq
      exact ⟨rfl, rfl⟩
    · cases hf
  · split at hf
    · rename_i lo hi hq
      simp only [Bool.and_eq_true, decide_eq_true_eq] at hf
      obtain ⟨x, rfl, h1, h2⟩ := gv_int hE h hq
      rcases en_b01 (x := x) (by omega) (by omega) with rfl | rfl <;> exact ⟨by decide, by decide⟩
    · cases hf
  · obtain ⟨x, rfl⟩ := gv_isL h hf
    exact ⟨rfl, rfl⟩
  · rcases gv_isR h hf with rfl | ⟨q, rfl⟩ <;> exact ⟨rfl, rfl⟩
  · rcases gv_isR h hf with rfl | ⟨q, rfl⟩ <;> exact ⟨rfl, rfl⟩
  · cases hf
theorem h_put {E : EV} {idx i q ci k : Nat} {fs : List AV} {r : vw_C} {a : AV} {v : Value} (hx9 : p.tables.exec = Jvm.exec) (hb : c.code = cc) (hts : ∀ w ∈ BIG, w.before args s = true) (hown : s.vm.findClass own = some m.cls) (hK : va_K D vwCl (atys cy) s) (hW : Wd D cy A H0 pool ν b C ws H locs) (hE : genv ν E)
    (hi : C[i]? = some (.inr (ci, fs))) (hq : (alw ws)[i]? = some q) (hc : vwCl[ci]? = some r) (hk : k < r.2.2) (hl9 : k < fs.length) (ha : gv ν (alw ws) b a v) (hf : e_fits E (clTy ci k) a = true) (hfin : (r.2.1 k).2.2.2 = false ∨ (meth.name = "<init>" ∧ (r.2.1 k).2.2.2 = true ∧ (r.2.1 k).1 = own)) (hlink : (Cond.fieldLink own idx (r.2.1 k).1 (r.2.1 k).2.1 (r.2.1 k).2.2.1).before args s = true) (hd : decode cc pc = .ok (.putfield idx, 3))
    (kk : ∀ ws' H' locs', alw ws' = alw ws → Wd D cy A H0 pool ν b (C.set i (.inr (ci, fs.set k a))) ws' H' locs' → W p l e R s m args below meth c H' locs' cells slots Q (F0 m (pc + 3) ls rest)) : W p l e R s m args below meth c H locs cells slots Q (F0 m pc ls (v :: .ref q :: rest)) := by
  obtain ⟨q', e', h1, h2, vs, rfl, h3⟩ := gW_at hW.1 hi
  rw [hq] at h2
  cases h2
  obtain ⟨r1, r2, r3⟩ := cl_ok ci r hc
  obtain ⟨f1, f2⟩ := e_fits_ok hE ha hf
  have hlen : k < vs.length := by rw [← gvs_len h3]; exact hl9
  have cont : ∀ (H1 : Heap) (locs1 : List Loc), va_P D vwCl ((pool ++ ws).set (pool.length + i) (q, .inr (ci, vs.set k v))) H1 → va_D A ((pool ++ ws).set (pool.length + i) (q, .inr (ci, vs.set k v))) → va_S A H0 H1 locs1 → W p l e R s m args below meth c H1 locs1 cells slots Q (F0 m (pc + 3) ls rest) := by
    intro H1 locs1 g1 g2 g3
    rw [pw_set] at g1 g2
    exact kk _ H1 locs1 (alw_set h1) ⟨gW_set hW.1 h1 ⟨_, rfl, gvs_set h3 ha⟩, g1, g2, g3⟩
  rcases hfin with hfin | ⟨hi2, hfin, hdecl⟩
  · exact va_put (D := D) (ci := ci) (v := v) (ty := clTy ci k) (C := r.1) (T := r.2.1) (N := r.2.2) hx9 hb hts r3 (clTy ci) r1 r2 hown hK hW.2.1 hW.2.2.1 hW.2.2.2 (pool.length + i) (pw_at h1) hc k hk hlink (fun _ h9 => h9) hfin (r1 k hk) f1 f2 hlen hd cont
  · exact va_putF (D := D) (ci := ci) (v := v) (ty := clTy ci k) (C := r.1) (T := r.2.1) (N := r.2.2) hx9 hb hts r3 (clTy ci) r1 r2 hown hK hW.2.1 hW.2.2.1 hW.2.2.2 (pool.length + i) (pw_at h1) hc k hk hlink (fun _ h9 => h9) hfin hi2 hdecl (r1 k hk) f1 f2 hlen hd cont
/-- a place of a row of ints, bytes, booleans, longs or references is read -/
theorem h_ald {ins : Instr} {i q t n k : Nat} {d : AV} {x : List (Nat × AV)} {j : Int32} (hx9 : p.tables.exec = Jvm.exec) (hb : c.code = cc) (hK : va_K D vwCl (atys cy) s) (hW : Wd D cy A H0 pool ν b C ws H locs)
    (hi : C[i]? = some (.inl (t, n, d, x))) (hq : (alw ws)[i]? = some q) (ht : t < 6) (hj : j.toInt = (k : Int)) (hk : k < n) (hn : n < 2147483648)
    (hins : (ins = .iaload ∧ t = 0) ∨ (ins = .baload ∧ t = 1) ∨ (ins = .baload ∧ t = 2) ∨ (ins = .laload ∧ t = 3) ∨ (ins = .aaload ∧ 4 ≤ t)) (hd : decode cc pc = .ok (ins, 1))
    (kk : ∀ v, gv ν (alw ws) b (e_get d x k) v → W p l e R s m args below meth c H locs cells slots Q (F0 m (pc + 1) ls (v :: rest))) : W p l e R s m args below meth c H locs cells slots Q (F0 m pc ls (.int j :: .ref q :: rest)) := by
  obtain ⟨q', e', h1, h2, h3⟩ := gW_at hW.1 hi
  rw [hq] at h2
  cases h2
  obtain ⟨hin, hcl⟩ := en_in hj hk hn
  have hT := atys_at cy t ht
  rcases h3 with ⟨g0, f, rfl, g2⟩ | ⟨g0, f, rfl, g2⟩ | ⟨g0, f, rfl, g2⟩
  · have g3 := g2 k hk
    rcases hins with ⟨rfl, rfl⟩ | ⟨rfl, rfl⟩ | ⟨rfl, rfl⟩ | ⟨rfl, rfl⟩ | ⟨rfl, h4⟩
    · exact va_iald hx9 hb hK hW.2.1 (pool.length + i) 0 (pw_at h1) hT hin hd (kk _ (by rw [hcl]; exact g3))
    · exact va_bald hx9 hb hK hW.2.1 (pool.length + i) 1 (pw_at h1) hT hin hd (kk _ (by rw [hcl]; exact g3))
    · exact va_zald hx9 hb hK hW.2.1 (pool.length + i) 2 (pw_at h1) hT hin hd (kk _ (by rw [hcl]; exact g3))
    · omega
    · omega
  · have g3 := g2 k hk
    rcases hins with ⟨rfl, h4⟩ | ⟨rfl, h4⟩ | ⟨rfl, h4⟩ | ⟨rfl, h4⟩ | ⟨rfl, h4⟩
    · omega
    · omega
    · omega
    · subst h4
      exact va_lald hx9 hb hK hW.2.1 (pool.length + i) 3 (pw_at h1) hT hin hd (kk _ (by rw [hcl]; exact g3))
    · omega
  · have g3 := g2 k hk
    rcases hins with ⟨rfl, h4⟩ | ⟨rfl, h4⟩ | ⟨rfl, h4⟩ | ⟨rfl, h4⟩ | ⟨rfl, h4⟩
    · omega
    · omega
    · omega
    · omega
    · rcases (show t = 4 ∨ t = 5 by omega) with rfl | rfl
      · exact va_aldq hx9 hb hK hW.2.1 (pool.length + i) 4 (pw_at h1) hT hin hd (kk _ (by rw [hcl]; exact g3))
      · exact va_aldq hx9 hb hK hW.2.1 (pool.length + i) 5 (pw_at h1) hT hin hd (kk _ (by rw [hcl]; exact g3))
end HEAP
