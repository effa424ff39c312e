section STEPS3
variable {RT : List (List (Nat × RES))} {P : List MT} {OW : List String} {ν : Nat → Int} {b : Nat} {cy : Nat → ClassId} {pool : va_W} {D : va_G} {A : Nat → Prop} {al0 : List Nat} {M : MT} {own : String} {sc : Bool}
variable {p : Program} {l : Launch} {e : Env} {R : Room} {s : State} {m : MethodId} {args : Array Value} {below : List Frame} {meth : Method} {c : Code} {Q : State → Prop}
theorem e_span_ok {E : EV} {k : Nat} (hE : genv ν E) : ∀ (n : Nat) (lo : Int), lo ≤ ν k → ν k < lo + (n : Int) → ∃ E1, E1 ∈ e_span E k lo n ∧ genv ν E1 := by
  intro n
  induction n with
  | zero => intro lo h1 h2; omega
  | succ n ih =>
    intro lo h1 h2
    rcases (show ν k = lo ∨ lo + 1 ≤ ν k by omega) with q | q
    · exact ⟨E.set k (lo, lo), List.mem_cons_self, genv_set hE ⟨by simp only; omega, by simp only; omega⟩⟩
    · obtain ⟨E1, m1, g1⟩ := ih (lo + 1) q (by omega)
      exact ⟨E1, List.mem_cons_of_mem _ m1, g1⟩
theorem e_ald_ok {ins : Instr} {t : Nat} (h : e_ald ins t = true) : (ins = .iaload ∧ t = 0) ∨ (ins = .baload ∧ t = 1) ∨ (ins = .baload ∧ t = 2) ∨ (ins = .laload ∧ t = 3) ∨ (ins = .aaload ∧ 4 ≤ t) := by
  unfold e_ald at h
  split at h
  · exact Or.inl ⟨rfl, beq3 h⟩
  · simp only [Bool.or_eq_true] at h
    rcases h with h | h
    · exact Or.inr (Or.inl ⟨rfl, beq3 h⟩)
    · exact Or.inr (Or.inr (Or.inl ⟨rfl, beq3 h⟩))
  · exact Or.inr (Or.inr (Or.inr (Or.inl ⟨rfl, beq3 h⟩)))
  · exact Or.inr (Or.inr (Or.inr (Or.inr ⟨rfl, Nat.le_of_ble_eq_true h⟩)))
  · cases h
set_option maxHeartbeats 4000000 in
theorem s_astep {S : ST} {x : List ST} {ins : Instr} {len : Nat} (X : Ctx OW D cy ν b M own p R s m args meth c A sc) (h : e_astep M sc S ins len = some x) (hd : decode (mC M) S.1 = .ok (ins, len)) (k : ∀ S' ∈ x, Safe D cy ν b pool al0 M p l e R s m args below meth c A Q S') : Safe D cy ν b pool al0 M p l e R s m args below meth c A Q S := by
  obtain ⟨pc, lo, st, E, C, nc, ns⟩ := S
  obtain ⟨x1, x2, x3, x4, x5, x6, x7, x8, x9, x10, x11, x12⟩ := X
  subst x10
  intro H locs ls lv vs ws a1 a2 a3 a4 a5 a6
  have split9 : ∀ {kk : Nat} {lo9 hi9 : Int} {y : List ST}, E[kk]? = some (lo9, hi9) → (if decide (hi9 - lo9 < 64) = true then some ((e_span E kk lo9 (hi9 - lo9 + 1).toNat).map (fun E1 => ((pc, lo, st, E1, C, nc, ns) : ST))) else none) = some y → y = x → W p l e (mRm M) s m args below meth c H locs nc ns Q (F0 m pc ls vs) := by
    intro kk lo9 hi9 y hE h hy
    split at h
    · cases h
      subst hy
      have w := a4 kk _ hE
      simp only at w
      obtain ⟨E1, m1, g1⟩ := e_span_ok a4 (hi9 - lo9 + 1).toNat lo9 w.1 (by omega)
      exact k _ (List.mem_map.mpr ⟨E1, m1, rfl⟩) H locs ls lv vs ws a1 a2 a3 g1 a5 a6
    · cases h
  unfold e_astep at h
  simp only at h a2 a3 a4 a5 hd ⊢
  split at h
  · -- a load
    split at h
    · rename_i i a st'
      split at h
      · rename_i j hj
        split at h
        · rename_i n0 t n d y hc
          split at h
          · rename_i q
            simp only [Bool.and_eq_true, decide_eq_true_eq] at q
            obtain ⟨q1, q2, q3, q4, q5⟩ := q
            have q4 := beq3 q4
            cases h
            subst q4
            obtain ⟨rfl, hC⟩ := e_cell_ok hc
            obtain ⟨v0, vs1, rfl, g1, g2⟩ := gvs_cons a3
            obtain ⟨v1, vs2, rfl, g3, g4⟩ := gvs_cons g2
            obtain ⟨xi, rfl, hxi⟩ := e_known_ok a4 g1 hj
            obtain ⟨qa, gq, rfl⟩ := g3
            exact h_ald x1 x2 x7.1 a5 hC gq (by have := Nat.le_of_ble_eq_true q1; omega) hxi q2 (by omega) (e_ald_ok q5) hd (fun v gv9 => k _ List.mem_cons_self H locs ls lv _ ws a1 a2 ⟨gv9, g4⟩ a4 a5 a6)
          · cases h
        · split at h
          · split at h
            · rename_i l6 z6 h6
              split at h
              · rename_i q
                simp only [Bool.and_eq_true, decide_eq_true_eq] at q
                obtain ⟨q1, q2, q3, q4⟩ := q
                have q2 := beq3 q2
                cases h
                subst q2
                subst q3
                obtain ⟨v0, vs1, rfl, g1, g2⟩ := gvs_cons a3
                obtain ⟨v1, vs2, rfl, g3, g4⟩ := gvs_cons g2
                obtain ⟨xi, rfl, hxi⟩ := e_known_ok a4 g1 hj
                have g3 : v1 = .ref b := g3
                subst g3
                obtain ⟨L, xs, y1, y2, y3, y4, y5, y6⟩ := x12 q1
                have w6 := a4 6 _ h6
                simp only at w6
                have hjL : j < L := by omega
                obtain ⟨hin, hcl⟩ := en_in (n := L) hxi hjL (by omega)
                refine va_sld x1 x2 y1 y2 y3 a5.2.2.2 hin hd (k _ List.mem_cons_self H locs ls lv _ ws a1 a2 ⟨⟨_, rfl, ?_⟩, g4⟩ a4 a5 a6)
                rw [hcl, y4 j hjL]
                omega
              · cases h
            · cases h
          · cases h
      · split at h
        · split at h
          · rename_i hE
            exact split9 hE h rfl
          · cases h
        · cases h
    · cases h
  · -- a store
    split at h
    · rename_i v i a st'
      split at h
      · rename_i j hj
        split at h
        · rename_i n0 t n d y hc
          split at h
          · rename_i q
            simp only [Bool.and_eq_true, decide_eq_true_eq] at q
            obtain ⟨q1, q2, q3, q4, q5, q6⟩ := q
            have q4 := beq3 q4
            cases h
            subst q4
            obtain ⟨rfl, hC⟩ := e_cell_ok hc
            obtain ⟨u0, vs0, rfl, g0, g00⟩ := gvs_cons a3
            obtain ⟨v0, vs1, rfl, g1, g2⟩ := gvs_cons g00
            obtain ⟨v1, vs2, rfl, g3, g4⟩ := gvs_cons g2
            obtain ⟨xi, rfl, hxi⟩ := e_known_ok a4 g1 hj
            obtain ⟨qa, gq, rfl⟩ := g3
            exact h_ast x1 x2 x7.1 a5 a4 hC gq (by have := Nat.le_of_ble_eq_true q1; omega) hxi q2 (by omega) g0 q6 q5 hd (fun ws' H' locs' e1 w1 => k _ List.mem_cons_self H' locs' ls lv _ ws' a1 (by rw [e1]; exact a2) (by rw [e1]; exact g4) a4 w1 (by rw [e1]; exact a6))
          · cases h
        · cases h
      · split at h
        · split at h
          · rename_i hE
            exact split9 hE h rfl
          · cases h
        · cases h
    · cases h
  · cases h
theorem e_cat_ok {f : ST → Option (List OUT)} : ∀ {x : List ST} {outs : List OUT}, e_cat f x = some outs → ∀ S ∈ x, ∃ o1, f S = some o1 ∧ ∀ o ∈ o1, o ∈ outs := by
  intro x
  induction x with
  | nil => intro outs _ S h; cases h
  | cons S0 r ih =>
    intro outs h S hS
    simp only [e_cat] at h
    split at h
    · rename_i a ha
      split at h
      · rename_i q hq
        cases h
        rcases List.mem_cons.mp hS with rfl | hS
        · exact ⟨a, ha, fun o ho => List.mem_append_left _ ho⟩
        · obtain ⟨o1, h1, h2⟩ := ih hq S hS
          exact ⟨o1, h1, fun o ho => List.mem_append_right _ (h2 o ho)⟩
      · cases h
    · cases h
theorem e_suf_in {T : List INS} {pc : Nat} : ∀ q ∈ e_suf T pc, q ∈ T := by
  induction T with
  | nil => intro q h; cases h
  | cons x r ih =>
    intro q h
    simp only [e_suf] at h
    split at h
    · exact h
    · exact List.mem_cons_of_mem _ (ih q h)
theorem e_next_in {tl : List INS} {pc : Nat} (hM : ∀ q ∈ mT M, decode (mC M) q.1 = .ok (q.2.2.1, q.2.2.2)) (h : ∀ q ∈ tl, decode (mC M) q.1 = .ok (q.2.2.1, q.2.2.2)) : ∀ q ∈ e_next M tl pc, decode (mC M) q.1 = .ok (q.2.2.1, q.2.2.2) := by
  unfold e_next
  split
  · split
    · exact h
    · exact fun q hq => hM q (e_suf_in q hq)
  · exact fun q hq => hM q (e_suf_in q hq)
/-- what a call answers, and the world behind it -/
def PO (cy : Nat → ClassId) (ν : Nat → Int) (b : Nat) (al0 : List Nat) (outs : List OUT) (u : va_W × OUT) : Prop := u.2 ∈ outs ∧ genv ν u.2.2.1 ∧ gW ν b cy u.2.2.2 u.1 ∧ ∃ more, alw u.1 = al0 ++ more
def BO (D : va_G) (pool : va_W) (A : Nat → Prop) (u : va_W × OUT) (t : State) : Prop := va_P D vwCl (pool ++ u.1) t.heap ∧ va_D A (pool ++ u.1)
def QJ (D : va_G) (cy : Nat → ClassId) (ν : Nat → Int) (b : Nat) (pool : va_W) (al0 : List Nat) (outs : List OUT) (A : Nat → Prop) (ret : Option FieldType) : Array Value → State → Outcome → State → Prop := match ret with
  | none => va_Qv (fun u : va_W × OUT => PO cy ν b al0 outs u ∧ u.2.1 = none) (BO D pool A) A
  | some .long => va_Ql (fun (r : Int64) (u : va_W × OUT) => PO cy ν b al0 outs u ∧ ∃ a, u.2.1 = some a ∧ gv ν (alw u.1) b a (.long r)) (BO D pool A) A
  | some _ => va_Qi (fun (r : Int32) (u : va_W × OUT) => PO cy ν b al0 outs u ∧ ∃ a, u.2.1 = some a ∧ gv ν (alw u.1) b a (.int r)) (BO D pool A) A
abbrev mW (M : MT) : List Cond := Cond.code (mY M) (mC M) (mL M) (mR M) :: BIG
def PJ (D : va_G) (cy : Nat → ClassId) (pool ws : va_W) (vs : List Value) (sz : Nat) : Array Value → State → Prop := va_Pc vs (fun U => U.heap.size = sz ∧ va_P D vwCl (pool ++ ws) U.heap ∧ KK D cy U ∧ va_D (fun _ => True) (pool ++ ws))
theorem e_args_ok {al : List Nat} : ∀ {as : List AV} {vs : List Value} (i : Nat), gvs ν al b as vs → glv ν al b (e_args i as) (lv_args i vs) := by
  intro as
  induction as with
  | nil => intro vs i h; rw [gvs_nil h]; trivial
  | cons a r ih =>
    intro vs i h
    obtain ⟨v, vs', rfl, g1, g2⟩ := gvs_cons h
    refine ⟨⟨rfl, g1⟩, ?_⟩
    have e9 : (if v.category = 2 then i + 2 else i + 1) = (if e_isL a = true then i + 2 else i + 1) := by
      cases h9 : e_isL a with
      | true => rw [gv_cat2 g1 h9]; rfl
      | false => rw [gv_cat1 g1 h9]; rfl
    show glv ν al b (e_args _ r) (lv_args (if v.category = 2 then i + 2 else i + 1) vs')
    rw [e9]
    exact ih _ g2
theorem lg_len (vs : List Value) : (lg_sl vs).length = (vs.map fun v => v.category).sum := by
  induction vs with
  | nil => rfl
  | cons v r ih =>
    unfold lg_sl at ih ⊢
    rw [List.flatMap_cons, List.length_append, ih, List.map_cons, List.sum_cons]
    rcases lv_cat v with q | q
    · rw [if_neg (by omega), q]; rfl
    · rw [if_pos q, q]; rfl
end STEPS3
