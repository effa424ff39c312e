section SIMPLE2
variable {ν : Nat → Int} {al : List Nat} {b : Nat} {E : EV}
variable {p : Program} {l : Launch} {e : Env} {R : Room} {s : State} {m : MethodId} {args : Array Value} {below : List Frame} {meth : Method} {c : Code} {H : Heap} {locs : List Loc} {cells slots : Nat} {Q : State → Prop}
variable {cc : ByteArray} {pc nL : Nat} {ls : Array Slot}
theorem en_o32 {n : Int} (h1 : -2147483648 ≤ n) (h2 : n < 2147483648) : (Int32.ofInt n).toInt = n := fb_ofI h1 h2
theorem en_o8 {n : Int} (h1 : -128 ≤ n) (h2 : n ≤ 127) : (Int8.ofInt n).toInt32.toInt = n := by
  rw [Int8.toInt_toInt32, Int8.toInt_ofInt]
  unfold Int.bmod
  simp only [Int8.size] at *
  split <;> omega
theorem en_o16 {n : Int} (h1 : -32768 ≤ n) (h2 : n ≤ 32767) : (Int16.ofInt n).toInt32.toInt = n := by
  rw [Int16.toInt_toInt32, Int16.toInt_ofInt]
  unfold Int.bmod
  simp only [Int16.size] at *
  split <;> omega
theorem en_cmp (x y : Int64) : -1 ≤ (lg_cmp x y).toInt ∧ (lg_cmp x y).toInt ≤ 1 := by
  unfold lg_cmp
  split
  · decide
  · split <;> decide
theorem e_ld_I {len i : Nat} {lo lo' : List (Nat × AV)} {st st' : List AV} {n : Nat} {lv : List (Nat × Value)} (h : e_ld len e_isI lo st i = some (n, lo', st')) (hl : lv_has ls nL lv) (hg : glv ν al b lo lv) : n = len ∧ lo' = lo ∧ ∃ (a : AV) (x : Int32), st' = a :: st ∧ ls[i]? = some (.val (.int x)) ∧ gv ν al b a (.int x) := by
  unfold e_ld at h
  split at h
  · rename_i a ea
    split at h
    · rename_i q
      cases h
      obtain ⟨k, v, e1, g1⟩ := e_find_ok hg ea
      obtain ⟨x, rfl⟩ := gv_isI g1 q
      exact ⟨rfl, rfl, a, x, rfl, lv_at hl k e1, g1⟩
    · cases h
  · cases h
theorem e_ld_L {len i : Nat} {lo lo' : List (Nat × AV)} {st st' : List AV} {n : Nat} {lv : List (Nat × Value)} (h : e_ld len e_isL lo st i = some (n, lo', st')) (hl : lv_has ls nL lv) (hg : glv ν al b lo lv) : n = len ∧ lo' = lo ∧ ∃ (a : AV) (x : Int64), st' = a :: st ∧ ls[i]? = some (.val (.long x)) ∧ gv ν al b a (.long x) := by
  unfold e_ld at h
  split at h
  · rename_i a ea
    split at h
    · rename_i q
      cases h
      obtain ⟨k, v, e1, g1⟩ := e_find_ok hg ea
      obtain ⟨x, rfl⟩ := gv_isL g1 q
      exact ⟨rfl, rfl, a, x, rfl, lv_at hl k e1, g1⟩
    · cases h
  · cases h
theorem e_ld_R {len i : Nat} {lo lo' : List (Nat × AV)} {st st' : List AV} {n : Nat} {lv : List (Nat × Value)} (h : e_ld len e_isR lo st i = some (n, lo', st')) (hl : lv_has ls nL lv) (hg : glv ν al b lo lv) : n = len ∧ lo' = lo ∧ ∃ (a : AV) (v : Value), st' = a :: st ∧ ls[i]? = some (.val v) ∧ gv ν al b a v ∧ (v = .null ∨ ∃ q : Nat, v = .ref q) := by
  unfold e_ld at h
  split at h
  · rename_i a ea
    split at h
    · rename_i q
      cases h
      obtain ⟨k, v, e1, g1⟩ := e_find_ok hg ea
      exact ⟨rfl, rfl, a, v, rfl, lv_at hl k e1, g1, gv_isR g1 q⟩
    · cases h
  · cases h
theorem e_sr_ok {len i : Nat} {k : AV → Bool} {lo lo' : List (Nat × AV)} {st st' : List AV} {n : Nat} (h : e_sr len k nL lo st i = some (n, lo', st')) : n = len ∧ ∃ a, st = a :: st' ∧ k a = true ∧ i < nL ∧ lo' = e_st1 lo i a := by
  unfold e_sr at h
  split at h
  · split at h
    · rename_i a st0 q
      simp only [Bool.and_eq_true, decide_eq_true_eq] at q
      cases h
      exact ⟨rfl, a, rfl, q.1, q.2, rfl⟩
    · cases h
  · cases h
theorem e_sr2_ok {len i : Nat} {lo lo' : List (Nat × AV)} {st st' : List AV} {n : Nat} (h : e_sr2 len nL lo st i = some (n, lo', st')) : n = len ∧ ∃ a, st = a :: st' ∧ e_isL a = true ∧ i + 1 < nL ∧ lo' = e_st2 lo i a := by
  unfold e_sr2 at h
  split at h
  · split at h
    · rename_i a st0 q
      simp only [Bool.and_eq_true, decide_eq_true_eq] at q
      cases h
      exact ⟨rfl, a, rfl, q.1, q.2, rfl⟩
    · cases h
  · cases h
set_option maxHeartbeats 4000000 in
theorem e_simple_ok {ins : Instr} {len : Nat} {lo lo' : List (Nat × AV)} {st st' : List AV} {lv : List (Nat × Value)} {vs : List Value} (hx9 : p.tables.exec = Jvm.exec) (hb : c.code = cc)
    (h : e_simple nL E ins lo st = some (len, lo', st')) (hd : decode cc pc = .ok (ins, len)) (hl : lv_has ls nL lv) (hg : glv ν al b lo lv) (hs : gvs ν al b st vs) (hE : genv ν E)
    (kk : ∀ ls' lv' vs', lv_has ls' nL lv' → glv ν al b lo' lv' → gvs ν al b st' vs' → W p l e R s m args below meth c H locs cells slots Q (F0 m (pc + len) ls' vs')) : W p l e R s m args below meth c H locs cells slots Q (F0 m pc ls vs) := by
  have bin : ∀ {i : Instr}, e_b2 i E lo st = some (len, lo', st') → decode cc pc = .ok (i, len) → W p l e R s m args below meth c H locs cells slots Q (F0 m pc ls vs) := by
    intro i h hd
    unfold e_b2 at h
    split at h
    · split at h
      · rename_i y x st0 r hr
        cases h
        obtain ⟨vy, vs1, rfl, g1, hs⟩ := gvs_cons hs
        obtain ⟨vx, vs2, rfl, g2, hs⟩ := gvs_cons hs
        exact e_bin_ok hx9 hb hd hE g2 g1 hr (fun v hv => kk _ _ _ hl hg ⟨hv, hs⟩)
      · cases h
    · cases h
  have un : ∀ {i : Instr}, e_u1 i E lo st = some (len, lo', st') → decode cc pc = .ok (i, len) → W p l e R s m args below meth c H locs cells slots Q (F0 m pc ls vs) := by
    intro i h hd
    unfold e_u1 at h
    split at h
    · split at h
      · rename_i x st0 r hr
        cases h
        obtain ⟨vx, vs2, rfl, g2, hs⟩ := gvs_cons hs
        exact e_un_ok hx9 hb hd hE g2 hr (fun v hv => kk _ _ _ hl hg ⟨hv, hs⟩)
      · cases h
    · cases h
  unfold e_simple at h
  split at h
  · -- iconst
    split at h
    · rename_i n q
      simp only [e_rng8, Bool.and_eq_true, decide_eq_true_eq] at q
      cases h
      exact lv_iconst hx9 hb hd rfl (kk _ _ _ hl hg ⟨⟨_, rfl, by rw [en_o32 (by omega) (by omega)]; omega, by rw [en_o32 (by omega) (by omega)]; omega⟩, hs⟩)
    · cases h
  · split at h
    · rename_i n q
      simp only [e_rng8, Bool.and_eq_true, decide_eq_true_eq] at q
      cases h
      exact lv_bipush hx9 hb hd rfl (kk _ _ _ hl hg ⟨⟨_, rfl, by rw [en_o8 q.1 q.2]; omega, by rw [en_o8 q.1 q.2]; omega⟩, hs⟩)
    · cases h
  · split at h
    · rename_i n q
      simp only [e_rng16, Bool.and_eq_true, decide_eq_true_eq] at q
      cases h
      exact lv_sipush hx9 hb hd rfl (kk _ _ _ hl hg ⟨⟨_, rfl, by rw [en_o16 q.1 q.2]; omega, by rw [en_o16 q.1 q.2]; omega⟩, hs⟩)
    · cases h
  · rename_i k
    cases h
    have w : (Int64.ofNat k.val).toInt = (k.val : Int) := lN_toInt (by have := k.isLt; omega)
    exact lv_lconst hx9 hb hd rfl (kk _ _ _ hl hg ⟨⟨_, rfl, by rw [w]; omega, by rw [w]; omega⟩, hs⟩)
  · cases h
    exact lv_null hx9 hb hd (kk _ _ _ hl hg ⟨rfl, hs⟩)
  · obtain ⟨rfl, rfl, a, x, rfl, e1, g1⟩ := e_ld_I h hl hg
    exact lv_iload_n hx9 hb hd rfl e1 (kk _ _ _ hl hg ⟨g1, hs⟩)
  · obtain ⟨rfl, rfl, a, x, rfl, e1, g1⟩ := e_ld_I h hl hg
    exact lv_iload hx9 hb hd e1 (kk _ _ _ hl hg ⟨g1, hs⟩)
  · obtain ⟨rfl, rfl, a, x, rfl, e1, g1⟩ := e_ld_L h hl hg
    exact lv_lload_n hx9 hb hd rfl e1 (kk _ _ _ hl hg ⟨g1, hs⟩)
  · obtain ⟨rfl, rfl, a, x, rfl, e1, g1⟩ := e_ld_L h hl hg
    exact lv_lload hx9 hb hd e1 (kk _ _ _ hl hg ⟨g1, hs⟩)
  · obtain ⟨rfl, rfl, a, v, rfl, e1, g1, rfl | ⟨q, rfl⟩⟩ := e_ld_R h hl hg
    · exact lv_aload_nN hx9 hb hd rfl e1 (kk _ _ _ hl hg ⟨g1, hs⟩)
    · exact lv_aload_n hx9 hb hd rfl e1 (kk _ _ _ hl hg ⟨g1, hs⟩)
  · obtain ⟨rfl, rfl, a, v, rfl, e1, g1, rfl | ⟨q, rfl⟩⟩ := e_ld_R h hl hg
    · exact lv_aloadN hx9 hb hd e1 (kk _ _ _ hl hg ⟨g1, hs⟩)
    · exact lv_aload hx9 hb hd e1 (kk _ _ _ hl hg ⟨g1, hs⟩)
  · obtain ⟨rfl, a, rfl, hk, hi, rfl⟩ := e_sr_ok h
    obtain ⟨v, vs1, rfl, g1, hs1⟩ := gvs_cons hs
    obtain ⟨x, rfl⟩ := gv_isI g1 hk
    exact lv_istore_n hx9 hb hd rfl hl hi rfl (fun ls' hl' => kk _ _ _ hl' (glv_st1 hg g1) hs1)
  · obtain ⟨rfl, a, rfl, hk, hi, rfl⟩ := e_sr_ok h
    obtain ⟨v, vs1, rfl, g1, hs1⟩ := gvs_cons hs
    obtain ⟨x, rfl⟩ := gv_isI g1 hk
    exact lv_istore hx9 hb hd hl hi rfl (fun ls' hl' => kk _ _ _ hl' (glv_st1 hg g1) hs1)
  · obtain ⟨rfl, a, rfl, hk, hi, rfl⟩ := e_sr_ok h
    obtain ⟨v, vs1, rfl, g1, hs1⟩ := gvs_cons hs
    rcases gv_isR g1 hk with rfl | ⟨q, rfl⟩
    · exact lv_astore_nN hx9 hb hd rfl hl hi rfl (fun ls' hl' => kk _ _ _ hl' (glv_st1 hg g1) hs1)
    · exact lv_astore_n hx9 hb hd rfl hl hi rfl (fun ls' hl' => kk _ _ _ hl' (glv_st1 hg g1) hs1)
  · obtain ⟨rfl, a, rfl, hk, hi, rfl⟩ := e_sr_ok h
    obtain ⟨v, vs1, rfl, g1, hs1⟩ := gvs_cons hs
    rcases gv_isR g1 hk with rfl | ⟨q, rfl⟩
    · exact lv_astoreN hx9 hb hd hl hi rfl (fun ls' hl' => kk _ _ _ hl' (glv_st1 hg g1) hs1)
    · exact lv_astore hx9 hb hd hl hi rfl (fun ls' hl' => kk _ _ _ hl' (glv_st1 hg g1) hs1)
  · obtain ⟨rfl, a, rfl, hk, hi, rfl⟩ := e_sr2_ok h
    obtain ⟨v, vs1, rfl, g1, hs1⟩ := gvs_cons hs
    obtain ⟨x, rfl⟩ := gv_isL g1 hk
    exact lv_lstore_n hx9 hb hd rfl hl hi rfl (fun ls' hl' => kk _ _ _ hl' (glv_st2 hg g1) hs1)
  · obtain ⟨rfl, a, rfl, hk, hi, rfl⟩ := e_sr2_ok h
    obtain ⟨v, vs1, rfl, g1, hs1⟩ := gvs_cons hs
    obtain ⟨x, rfl⟩ := gv_isL g1 hk
    exact lv_lstore hx9 hb hd hl hi rfl (fun ls' hl' => kk _ _ _ hl' (glv_st2 hg g1) hs1)
  · rename_i i n
    split at h
    · rename_i a ea
      split at h
      · rename_i r hr
        split at h
        · rename_i q
          simp only [e_rng16, Bool.and_eq_true, decide_eq_true_eq] at q
          cases h
          obtain ⟨k, v, e1, g1⟩ := e_find_ok hg ea
          have hv : ∃ x : Int32, v = .int x := by
            have : ∃ q1, e_iv E a = some q1 := by
              unfold e_add at hr
              rcases h1 : e_iv E a with _ | q1
              · simp [h1] at hr
              · exact ⟨q1, rfl⟩
            obtain ⟨⟨q1, q1'⟩, e1⟩ := this
            obtain ⟨i, ei, -⟩ := gv_int hE g1 e1
            exact ⟨i, ei⟩
          obtain ⟨x, rfl⟩ := hv
          have gn : gv ν al b (aI n) (.int (Int32.ofInt n)) := ⟨_, rfl, by rw [en_o32 (by omega) (by omega)]; omega, by rw [en_o32 (by omega) (by omega)]; omega⟩
          exact lv_iinc hx9 hb hd hl e1 rfl q.2 rfl (fun ls' hl' => kk _ _ _ hl' (glv_st1 hg (e_add_ok hE g1 gn hr)) hs)
        · cases h
      · cases h
    · cases h
  · exact bin h hd
  · exact bin h hd
  · exact bin h hd
  · exact bin h hd
  · exact bin h hd
  · exact bin h hd
  · exact bin h hd
  · exact bin h hd
  · exact bin h hd
  · exact bin h hd
  · exact bin h hd
  · exact un h hd
  · exact un h hd
  · exact un h hd
  · -- lcmp
    split at h
    · split at h
      · rename_i y x st0 q
        simp only [Bool.and_eq_true] at q
        cases h
        obtain ⟨vy, vs1, rfl, g1, hs⟩ := gvs_cons hs
        obtain ⟨vx, vs2, rfl, g2, hs3⟩ := gvs_cons hs
        obtain ⟨i, rfl⟩ := gv_isL g2 q.1
        obtain ⟨j, rfl⟩ := gv_isL g1 q.2
        refine W.lcmp hx9 hb hd (kk _ _ _ hl hg ⟨?_, hs3⟩)
        have w := en_cmp i j
        split
        · rename_i lx hx ly hy
          split
          · rename_i q2
            simp only [Bool.and_eq_true, decide_eq_true_eq] at q2
            obtain ⟨i', ei, i1, i2⟩ := g2
            obtain ⟨j', ej, j1, j2⟩ := g1
            cases ei
            cases ej
            have : i = j := (fa_eq64 _ _).mpr (by omega)
            subst this
            have : lg_cmp i i = 0 := by unfold lg_cmp; simp
            exact ⟨_, rfl, by rw [this]; decide, by rw [this]; decide⟩
          · exact ⟨_, rfl, w.1, w.2⟩
        · exact ⟨_, rfl, w.1, w.2⟩
      · cases h
    · cases h
  · split at h
    · split at h
      · rename_i a st0 q
        cases h
        obtain ⟨v, vs1, rfl, g1, hs⟩ := gvs_cons hs
        exact lv_dup hx9 hb hd (gv_cat1 g1 q) (kk _ _ _ hl hg ⟨g1, g1, hs⟩)
      · cases h
    · cases h
  · split at h
    · split at h
      · rename_i a c0 st0 q
        simp only [Bool.or_eq_false_iff] at q
        cases h
        obtain ⟨v, vs1, rfl, g1, hs⟩ := gvs_cons hs
        obtain ⟨v2, vs2, rfl, g2, hs⟩ := gvs_cons hs
        exact lv_dup_x1 hx9 hb hd (gv_cat1 g1 q.1) (gv_cat1 g2 q.2) (kk _ _ _ hl hg ⟨g1, g2, g1, hs⟩)
      · cases h
    · cases h
  · split at h
    · split at h
      · rename_i a c0 st0 q
        simp only [Bool.or_eq_false_iff] at q
        cases h
        obtain ⟨v, vs1, rfl, g1, hs⟩ := gvs_cons hs
        obtain ⟨v2, vs2, rfl, g2, hs⟩ := gvs_cons hs
        exact lv_dup2_11 hx9 hb hd (gv_cat1 g1 q.1) (gv_cat1 g2 q.2) (kk _ _ _ hl hg ⟨g1, g2, g1, g2, hs⟩)
      · cases h
    · cases h
  · split at h
    · split at h
      · rename_i a st0 q
        cases h
        obtain ⟨v, vs1, rfl, g1, hs⟩ := gvs_cons hs
        exact lv_pop hx9 hb hd (gv_cat1 g1 q) (kk _ _ _ hl hg hs)
      · cases h
    · cases h
  · cases h
end SIMPLE2
