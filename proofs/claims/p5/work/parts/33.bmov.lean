/-! steps that reckon nothing: loads, stores, constants, the stack -/
def f_find (lo : List (Nat × BV)) (i : Nat) : Option BV := match lo with
  | [] => none
  | (j, a) :: r => if Nat.beq j i = true then some a else f_find r i
def f_st1 (lo : List (Nat × BV)) (i : Nat) (a : BV) : List (Nat × BV) := (i, a) :: lo.filter (fun q => !(q.1 == i) && !(q.1 + 1 == i && f_isL q.2))
def f_st2 (lo : List (Nat × BV)) (i : Nat) (a : BV) : List (Nat × BV) := (i, a) :: lo.filter (fun q => !(q.1 == i) && (!(q.1 == i + 1) && !(q.1 + 1 == i && f_isL q.2)))
def f_ld (len : Nat) (k : BV → Bool) (lo : List (Nat × BV)) (st : List BV) (i : Nat) : Option (Nat × List (Nat × BV) × List BV) := match f_find lo i with
  | some a => if k a = true then some (len, lo, a :: st) else none
  | none => none
def f_sr (len : Nat) (k : BV → Bool) (nL : Nat) (lo : List (Nat × BV)) (st : List BV) (i : Nat) : Option (Nat × List (Nat × BV) × List BV) := match st with
  | a :: st' => if (k a && decide (i < nL)) = true then some (len, f_st1 lo i a, st') else none
  | [] => none
def f_sr2 (len : Nat) (nL : Nat) (lo : List (Nat × BV)) (st : List BV) (i : Nat) : Option (Nat × List (Nat × BV) × List BV) := match st with
  | a :: st' => if (f_isL a && decide (i + 1 < nL)) = true then some (len, f_st2 lo i a, st') else none
  | [] => none
def f_mov (nL : Nat) (ins : Instr) (lo : List (Nat × BV)) (st : List BV) : Option (Nat × List (Nat × BV) × List BV) := match ins with
  | .iconst n => if e_rng8 n = true then some (1, lo, bI n :: st) else none
  | .bipush n => if e_rng8 n = true then some (2, lo, bI n :: st) else none
  | .sipush n => if e_rng16 n = true then some (3, lo, bI n :: st) else none
  | .lconst k => some (1, lo, bL (k.val : Int) (k.val : Int) :: st)
  | .aconst_null => some (1, lo, bN :: st)
  | .iload_n k => f_ld 1 f_isI lo st k.val
  | .iload i => f_ld 2 f_isI lo st i
  | .lload_n k => f_ld 1 f_isL lo st k.val
  | .lload i => f_ld 2 f_isL lo st i
  | .aload_n k => f_ld 1 f_isR lo st k.val
  | .aload i => f_ld 2 f_isR lo st i
  | .istore_n k => f_sr 1 f_isI nL lo st k.val
  | .istore i => f_sr 2 f_isI nL lo st i
  | .astore_n k => f_sr 1 f_isR nL lo st k.val
  | .astore i => f_sr 2 f_isR nL lo st i
  | .lstore_n k => f_sr2 1 nL lo st k.val
  | .lstore i => f_sr2 2 nL lo st i
  | .dup => (match st with | a :: st' => if f_isL a = false then some (1, lo, a :: a :: st') else none | _ => none)
  | .dup_x1 => (match st with | a :: c :: st' => if (f_isL a || f_isL c) = false then some (1, lo, a :: c :: a :: st') else none | _ => none)
  | .dup2 => (match st with | a :: c :: st' => if (f_isL a || f_isL c) = false then some (1, lo, a :: c :: a :: c :: st') else none | _ => none)
  | .pop => (match st with | a :: st' => if f_isL a = false then some (1, lo, st') else none | _ => none)
  | _ => none
section MOV
variable {I : IN}
variable {p : Program} {l : Launch} {e : Env} {R : Room} {s : State} {m : MethodId} {args : Array Value} {below : List Frame} {meth : Method} {c : Code} {H : Heap} {locs : List Loc} {cells slots : Nat} {Q : State → Prop}
variable {cc : ByteArray} {pc nL : Nat} {ls : Array Slot}
theorem f_find_ok {lo : List (Nat × BV)} {lv : List (Nat × Value)} {i : Nat} {a : BV} (h : hlv I lo lv) (hf : f_find lo i = some a) : ∃ (k : Nat) (v : Value), lv[k]? = some (i, v) ∧ hv I a v := by
  induction lo generalizing lv with
  | nil => cases hf
  | cons q r ih =>
    cases lv with
    | nil => exact absurd h id
    | cons w ws =>
      obtain ⟨j, a0⟩ := q
      obtain ⟨j', v0⟩ := w
      obtain ⟨⟨h1, h2⟩, h3⟩ := h
      simp only at h1 h2
      subst h1
      simp only [f_find] at hf
      by_cases hj : Nat.beq j i = true
      · rw [if_pos hj] at hf
        cases hf
        have := Nat.eq_of_beq_eq_true hj
        subst this
        exact ⟨0, v0, rfl, h2⟩
      · rw [if_neg hj] at hf
        obtain ⟨k, v, e, g⟩ := ih h3 hf
        exact ⟨k + 1, v, e, g⟩
theorem hlv_filter {lo : List (Nat × BV)} {lv : List (Nat × Value)} (f : Nat × BV → Bool) (g : Nat × Value → Bool) (h : hlv I lo lv) (hfg : ∀ i a v, hv I a v → f (i, a) = g (i, v)) : hlv I (lo.filter f) (lv.filter g) := by
  induction lo generalizing lv with
  | nil => cases lv with
    | nil => exact h
    | cons => exact absurd h id
  | cons q r ih => cases lv with
    | nil => exact absurd h id
    | cons w ws =>
      obtain ⟨j, a0⟩ := q
      obtain ⟨j', v0⟩ := w
      obtain ⟨⟨h1, h2⟩, h3⟩ := h
      simp only at h1 h2
      subst h1
      have e := hfg j a0 v0 h2
      rw [List.filter_cons, List.filter_cons, e]
      by_cases hg : g (j, v0) = true
      · rw [if_pos hg, if_pos hg]
        exact ⟨⟨rfl, h2⟩, ih h3⟩
      · rw [if_neg hg, if_neg hg]
        exact ih h3
theorem hlv_st1 {lo : List (Nat × BV)} {lv : List (Nat × Value)} {i : Nat} {a : BV} {v : Value} (h : hlv I lo lv) (ha : hv I a v) : hlv I (f_st1 lo i a) ((i, v) :: lv.filter (fun q => !(q.1 == i) && !(q.1 + 1 == i && q.2.category == 2))) := by
  refine ⟨⟨rfl, ha⟩, hlv_filter _ _ h fun j a v hv => ?_⟩
  simp only [hv_cat hv]
theorem hlv_st2 {lo : List (Nat × BV)} {lv : List (Nat × Value)} {i : Nat} {a : BV} {v : Value} (h : hlv I lo lv) (ha : hv I a v) : hlv I (f_st2 lo i a) ((i, v) :: lv.filter (fun q => !(q.1 == i) && (!(q.1 == i + 1) && !(q.1 + 1 == i && q.2.category == 2)))) := by
  refine ⟨⟨rfl, ha⟩, hlv_filter _ _ h fun j a v hv => ?_⟩
  simp only [hv_cat hv]
/-! numbers -/
theorem f_ld_I {len i : Nat} {lo lo' : List (Nat × BV)} {st st' : List BV} {n : Nat} {lv : List (Nat × Value)} (h : f_ld len f_isI lo st i = some (n, lo', st')) (hl : lv_has ls nL lv) (hg : hlv I lo lv) : n = len ∧ lo' = lo ∧ ∃ (a : BV) (x : Int32), st' = a :: st ∧ ls[i]? = some (.val (.int x)) ∧ hv I a (.int x) := by
  unfold f_ld at h
  split at h
  · rename_i a ea
    split at h
    · rename_i q
      cases h
      obtain ⟨k, v, e1, g1⟩ := f_find_ok hg ea
      obtain ⟨x, rfl⟩ := hv_isI g1 q
      exact ⟨rfl, rfl, a, x, rfl, lv_at hl k e1, g1⟩
    · cases h
  · cases h
theorem f_ld_L {len i : Nat} {lo lo' : List (Nat × BV)} {st st' : List BV} {n : Nat} {lv : List (Nat × Value)} (h : f_ld len f_isL lo st i = some (n, lo', st')) (hl : lv_has ls nL lv) (hg : hlv I lo lv) : n = len ∧ lo' = lo ∧ ∃ (a : BV) (x : Int64), st' = a :: st ∧ ls[i]? = some (.val (.long x)) ∧ hv I a (.long x) := by
  unfold f_ld at h
  split at h
  · rename_i a ea
    split at h
    · rename_i q
      cases h
      obtain ⟨k, v, e1, g1⟩ := f_find_ok hg ea
      obtain ⟨x, rfl⟩ := hv_isL g1 q
      exact ⟨rfl, rfl, a, x, rfl, lv_at hl k e1, g1⟩
    · cases h
  · cases h
theorem f_ld_R {len i : Nat} {lo lo' : List (Nat × BV)} {st st' : List BV} {n : Nat} {lv : List (Nat × Value)} (h : f_ld len f_isR lo st i = some (n, lo', st')) (hl : lv_has ls nL lv) (hg : hlv I lo lv) : n = len ∧ lo' = lo ∧ ∃ (a : BV) (v : Value), st' = a :: st ∧ ls[i]? = some (.val v) ∧ hv I a v ∧ (v = .null ∨ ∃ q : Nat, v = .ref q) := by
  unfold f_ld at h
  split at h
  · rename_i a ea
    split at h
    · rename_i q
      cases h
      obtain ⟨k, v, e1, g1⟩ := f_find_ok hg ea
      exact ⟨rfl, rfl, a, v, rfl, lv_at hl k e1, g1, hv_isR g1 q⟩
    · cases h
  · cases h
theorem f_sr_ok {len i : Nat} {k : BV → Bool} {lo lo' : List (Nat × BV)} {st st' : List BV} {n : Nat} (h : f_sr len k nL lo st i = some (n, lo', st')) : n = len ∧ ∃ a, st = a :: st' ∧ k a = true ∧ i < nL ∧ lo' = f_st1 lo i a := by
  unfold f_sr at h
  split at h
  · split at h
    · rename_i a st0 q
      simp only [Bool.and_eq_true, decide_eq_true_eq] at q
      cases h
      exact ⟨rfl, a, rfl, q.1, q.2, rfl⟩
    · cases h
  · cases h
theorem f_sr2_ok {len i : Nat} {lo lo' : List (Nat × BV)} {st st' : List BV} {n : Nat} (h : f_sr2 len nL lo st i = some (n, lo', st')) : n = len ∧ ∃ a, st = a :: st' ∧ f_isL a = true ∧ i + 1 < nL ∧ lo' = f_st2 lo i a := by
  unfold f_sr2 at h
  split at h
  · split at h
    · rename_i a st0 q
      simp only [Bool.and_eq_true, decide_eq_true_eq] at q
      cases h
      exact ⟨rfl, a, rfl, q.1, q.2, rfl⟩
    · cases h
  · cases h
set_option maxHeartbeats 4000000 in
theorem f_mov_ok {ins : Instr} {len : Nat} {lo lo' : List (Nat × BV)} {st st' : List BV} {lv : List (Nat × Value)} {vs : List Value} (hx9 : p.tables.exec = Jvm.exec) (hb : c.code = cc)
    (h : f_mov nL ins lo st = some (len, lo', st')) (hd : decode cc pc = .ok (ins, len)) (hl : lv_has ls nL lv) (hg : hlv I lo lv) (hs : hvs I st vs)
    (kk : ∀ ls' lv' vs', lv_has ls' nL lv' → hlv I lo' lv' → hvs I st' vs' → W p l e R s m args below meth c H locs cells slots Q (F0 m (pc + len) ls' vs')) : W p l e R s m args below meth c H locs cells slots Q (F0 m pc ls vs) := by
  unfold f_mov at h
  split at h
  · split at h
    · rename_i n q
      simp only [e_rng8, Bool.and_eq_true, decide_eq_true_eq] at q
      cases h
      exact lv_iconst hx9 hb hd rfl (kk _ _ _ hl hg ⟨⟨_, rfl, en_o32 (by omega) (by omega)⟩, hs⟩)
    · cases h
  · split at h
    · rename_i n q
      simp only [e_rng8, Bool.and_eq_true, decide_eq_true_eq] at q
      cases h
      exact lv_bipush hx9 hb hd rfl (kk _ _ _ hl hg ⟨⟨_, rfl, en_o8 q.1 q.2⟩, hs⟩)
    · cases h
  · split at h
    · rename_i n q
      simp only [e_rng16, Bool.and_eq_true, decide_eq_true_eq] at q
      cases h
      exact lv_sipush hx9 hb hd rfl (kk _ _ _ hl hg ⟨⟨_, rfl, en_o16 q.1 q.2⟩, hs⟩)
    · cases h
  · rename_i k
    cases h
    have w : (Int64.ofNat k.val).toInt = (k.val : Int) := lN_toInt (by have := k.isLt; omega)
    exact lv_lconst hx9 hb hd rfl (kk _ _ _ hl hg ⟨⟨_, rfl, by rw [w]; omega, by rw [w]; omega⟩, hs⟩)
  · cases h
    exact lv_null hx9 hb hd (kk _ _ _ hl hg ⟨rfl, hs⟩)
  · obtain ⟨rfl, rfl, a, x, rfl, e1, g1⟩ := f_ld_I h hl hg
    exact lv_iload_n hx9 hb hd rfl e1 (kk _ _ _ hl hg ⟨g1, hs⟩)
  · obtain ⟨rfl, rfl, a, x, rfl, e1, g1⟩ := f_ld_I h hl hg
    exact lv_iload hx9 hb hd e1 (kk _ _ _ hl hg ⟨g1, hs⟩)
  · obtain ⟨rfl, rfl, a, x, rfl, e1, g1⟩ := f_ld_L h hl hg
    exact lv_lload_n hx9 hb hd rfl e1 (kk _ _ _ hl hg ⟨g1, hs⟩)
  · obtain ⟨rfl, rfl, a, x, rfl, e1, g1⟩ := f_ld_L h hl hg
    exact lv_lload hx9 hb hd e1 (kk _ _ _ hl hg ⟨g1, hs⟩)
  · obtain ⟨rfl, rfl, a, v, rfl, e1, g1, rfl | ⟨q, rfl⟩⟩ := f_ld_R h hl hg
    · exact lv_aload_nN hx9 hb hd rfl e1 (kk _ _ _ hl hg ⟨g1, hs⟩)
    · exact lv_aload_n hx9 hb hd rfl e1 (kk _ _ _ hl hg ⟨g1, hs⟩)
  · obtain ⟨rfl, rfl, a, v, rfl, e1, g1, rfl | ⟨q, rfl⟩⟩ := f_ld_R h hl hg
    · exact lv_aloadN hx9 hb hd e1 (kk _ _ _ hl hg ⟨g1, hs⟩)
    · exact lv_aload hx9 hb hd e1 (kk _ _ _ hl hg ⟨g1, hs⟩)
  · obtain ⟨rfl, a, rfl, hk, hi, rfl⟩ := f_sr_ok h
    obtain ⟨v, vs1, rfl, g1, hs1⟩ := hvs_cons hs
    obtain ⟨x, rfl⟩ := hv_isI g1 hk
    exact lv_istore_n hx9 hb hd rfl hl hi rfl (fun ls' hl' => kk _ _ _ hl' (hlv_st1 hg g1) hs1)
  · obtain ⟨rfl, a, rfl, hk, hi, rfl⟩ := f_sr_ok h
    obtain ⟨v, vs1, rfl, g1, hs1⟩ := hvs_cons hs
    obtain ⟨x, rfl⟩ := hv_isI g1 hk
    exact lv_istore hx9 hb hd hl hi rfl (fun ls' hl' => kk _ _ _ hl' (hlv_st1 hg g1) hs1)
  · obtain ⟨rfl, a, rfl, hk, hi, rfl⟩ := f_sr_ok h
    obtain ⟨v, vs1, rfl, g1, hs1⟩ := hvs_cons hs
    rcases hv_isR g1 hk with rfl | ⟨q, rfl⟩
    · exact lv_astore_nN hx9 hb hd rfl hl hi rfl (fun ls' hl' => kk _ _ _ hl' (hlv_st1 hg g1) hs1)
    · exact lv_astore_n hx9 hb hd rfl hl hi rfl (fun ls' hl' => kk _ _ _ hl' (hlv_st1 hg g1) hs1)
  · obtain ⟨rfl, a, rfl, hk, hi, rfl⟩ := f_sr_ok h
    obtain ⟨v, vs1, rfl, g1, hs1⟩ := hvs_cons hs
    rcases hv_isR g1 hk with rfl | ⟨q, rfl⟩
    · exact lv_astoreN hx9 hb hd hl hi rfl (fun ls' hl' => kk _ _ _ hl' (hlv_st1 hg g1) hs1)
    · exact lv_astore hx9 hb hd hl hi rfl (fun ls' hl' => kk _ _ _ hl' (hlv_st1 hg g1) hs1)
  · obtain ⟨rfl, a, rfl, hk, hi, rfl⟩ := f_sr2_ok h
    obtain ⟨v, vs1, rfl, g1, hs1⟩ := hvs_cons hs
    obtain ⟨x, rfl⟩ := hv_isL g1 hk
    exact lv_lstore_n hx9 hb hd rfl hl hi rfl (fun ls' hl' => kk _ _ _ hl' (hlv_st2 hg g1) hs1)
  · obtain ⟨rfl, a, rfl, hk, hi, rfl⟩ := f_sr2_ok h
    obtain ⟨v, vs1, rfl, g1, hs1⟩ := hvs_cons hs
    obtain ⟨x, rfl⟩ := hv_isL g1 hk
    exact lv_lstore hx9 hb hd hl hi rfl (fun ls' hl' => kk _ _ _ hl' (hlv_st2 hg g1) hs1)
  · split at h
    · split at h
      · rename_i a st0 q
        cases h
        obtain ⟨v, vs1, rfl, g1, hs⟩ := hvs_cons hs
        exact lv_dup hx9 hb hd (hv_cat1 g1 q) (kk _ _ _ hl hg ⟨g1, g1, hs⟩)
      · cases h
    · cases h
  · split at h
    · split at h
      · rename_i a c0 st0 q
        simp only [Bool.or_eq_false_iff] at q
        cases h
        obtain ⟨v, vs1, rfl, g1, hs⟩ := hvs_cons hs
        obtain ⟨v2, vs2, rfl, g2, hs⟩ := hvs_cons hs
        exact lv_dup_x1 hx9 hb hd (hv_cat1 g1 q.1) (hv_cat1 g2 q.2) (kk _ _ _ hl hg ⟨g1, g2, g1, hs⟩)
      · cases h
    · cases h
  · split at h
    · split at h
      · rename_i a c0 st0 q
        simp only [Bool.or_eq_false_iff] at q
        cases h
        obtain ⟨v, vs1, rfl, g1, hs⟩ := hvs_cons hs
        obtain ⟨v2, vs2, rfl, g2, hs⟩ := hvs_cons hs
        exact lv_dup2_11 hx9 hb hd (hv_cat1 g1 q.1) (hv_cat1 g2 q.2) (kk _ _ _ hl hg ⟨g1, g2, g1, g2, hs⟩)
      · cases h
    · cases h
  · split at h
    · split at h
      · rename_i a st0 q
        cases h
        obtain ⟨v, vs1, rfl, g1, hs⟩ := hvs_cons hs
        exact lv_pop hx9 hb hd (hv_cat1 g1 q) (kk _ _ _ hl hg hs)
      · cases h
    · cases h
  · cases h
end MOV
