section MAIN
variable {RT : List (List (Nat × RES))} {P : List MT} {OW : List String} {ν : Nat → Int} {b : Nat} {cy : Nat → ClassId} {pool : va_W} {D : va_G} {l : Launch} {cuts : List ST}
theorem s_ret {p : Program} {e : Env} {R : Room} {s : State} {m : MethodId} {args : Array Value} {below : List Frame} {meth : Method} {c : Code} {Q : State → Prop} {A : Nat → Prop} {al0 : List Nat} {M : MT} {S : ST} {ins : Instr} {len : Nat} {r : Option AV} {outs : List OUT}
    (h : e_ret M S ins len = some r) (hd : decode (mC M) S.1 = .ok (ins, len)) (ho : (r, S.2.2.2.1, S.2.2.2.2.1) ∈ outs) (hR : RetOK D cy ν b pool al0 M p l e R s m args below meth c A Q outs) : Safe D cy ν b pool al0 M p l e R s m args below meth c A Q S := by
  obtain ⟨pc, lo, st, E, C, nc, ns⟩ := S
  intro H locs ls lv vs ws a1 a2 a3 a4 a5 a6
  unfold e_ret at h
  simp only at h a2 a3 a4 a5 hd ho ⊢
  split at h
  · rename_i q
    simp only [Bool.and_eq_true] at q
    have q3 := beq3 q.2.2
    subst q3
    refine W.widen (k := mNc M) (n := mNs M) (Nat.le_of_ble_eq_true q.1) (Nat.le_of_ble_eq_true q.2.1) ?_
    split at h
    · rename_i a hr
      split at h
      · rename_i q1 hq1
        cases h
        obtain ⟨v, vs1, rfl, g1, g2⟩ := gvs_cons a3
        rw [gvs_nil g2]
        obtain ⟨x, rfl, -⟩ := gv_int a4 g1 hq1
        exact hR _ ho _ pc H locs ls ws (some (.int x)) hd (Or.inl ⟨rfl, a, x, .int, rfl, rfl, g1, hr, Or.inl rfl, rfl⟩) a4 a5 a6
      · cases h
    · rename_i a hr
      split at h
      · rename_i lo9 hi9 hq1
        split at h
        · rename_i q2
          simp only [Bool.and_eq_true, decide_eq_true_eq] at q2
          cases h
          obtain ⟨v, vs1, rfl, g1, g2⟩ := gvs_cons a3
          rw [gvs_nil g2]
          obtain ⟨x, rfl, y1, y2⟩ := gv_int a4 g1 hq1
          refine hR _ ho _ pc H locs ls ws (some (.int x)) hd (Or.inl ⟨rfl, a, x, .boolean, rfl, rfl, g1, hr, Or.inr rfl, ?_⟩) a4 a5 a6
          rcases en_b01 (x := x) (by omega) (by omega) with rfl | rfl <;> decide
        · cases h
      · cases h
    · rename_i a hr
      split at h
      · rename_i q1
        cases h
        obtain ⟨v, vs1, rfl, g1, g2⟩ := gvs_cons a3
        rw [gvs_nil g2]
        obtain ⟨x, rfl⟩ := gv_isL g1 q1
        exact hR _ ho _ pc H locs ls ws (some (.long x)) hd (Or.inr (Or.inl ⟨rfl, a, x, rfl, rfl, g1, hr⟩)) a4 a5 a6
      · cases h
    · rename_i hr
      cases h
      rw [gvs_nil a3]
      exact hR _ ho _ pc H locs ls ws none hd (Or.inr (Or.inr ⟨rfl, rfl, rfl, hr⟩)) a4 a5 a6
    · cases h
  · cases h
theorem e_sound (hP : POK P RT OW) : ∀ (fuel : Nat) (tp sc : Bool) (M : MT) (suf : List INS) (S : ST) (outs : List OUT), e_run P RT cuts fuel tp sc M suf S = some outs → (∀ q ∈ suf, decode (mC M) q.1 = .ok (q.2.2.1, q.2.2.2)) →
    ∀ (al0 : List Nat) (own : String) (p : Program) (e : Env) (R : Room) (s : State) (m : MethodId) (args : Array Value) (below : List Frame) (meth : Method) (c : Code) (A : Nat → Prop) (Q : State → Prop), Ctx OW D cy ν b M own p R s m args meth c A sc → RetOK D cy ν b pool al0 M p l e R s m args below meth c A Q outs →
      (tp = true → ∀ S' ∈ cuts, Safe D cy ν b pool al0 M p l e R s m args below meth c A Q S') →
      Safe D cy ν b pool al0 M p l e R s m args below meth c A Q S := by
  intro fuel
  induction fuel with
  | zero => intro tp sc M suf S outs h; cases h
  | succ fuel ih =>
    intro tp sc M suf S outs h hsuf al0 own p e R s m args below meth c A Q X hR hcut
    cases suf with
    | nil => simp only [e_run] at h; cases h
    | cons q tl =>
      obtain ⟨pc, tag, ins, len⟩ := q
      simp only [e_run] at h
      split at h
      · rename_i hpc
        have hpc := beq3 hpc
        have h0 : decode (mC M) pc = .ok (ins, len) := hsuf (pc, tag, ins, len) List.mem_cons_self
        have hd : decode (mC M) S.1 = .ok (ins, len) := by rw [hpc] at h0; exact h0
        have hM : ∀ q ∈ mT M, decode (mC M) q.1 = .ok (q.2.2.1, q.2.2.2) := X.2.2.2.2.2.2.2.2.2.2.1.1
        have htl : ∀ q ∈ tl, decode (mC M) q.1 = .ok (q.2.2.1, q.2.2.2) := fun q hq => hsuf q (List.mem_cons_of_mem _ hq)
        have go : ∀ S' outs', e_run P RT cuts fuel tp sc M (e_next M tl S'.1) S' = some outs' → (∀ o ∈ outs', o ∈ outs) → Safe D cy ν b pool al0 M p l e R s m args below meth c A Q S' := by
          intro S' outs' h1 h2
          exact ih tp sc M _ S' outs' h1 (e_next_in hM htl) al0 own p e R s m args below meth c A Q X (fun o ho => hR o (h2 o ho)) hcut
        split at h
        · split at h
          · rename_i S' h1
            exact s_simple X h1 hd (go S' outs h (fun _ h => h))
          · cases h
        · split at h
          · rename_i x h1
            refine s_branch X h1 hd (fun S' hS' => ?_)
            obtain ⟨o1, h2, h3⟩ := e_cat_ok h S' hS'
            exact go S' o1 h2 h3
          · cases h
        · split at h
          · rename_i S' h1
            exact s_hstep hP X h1 hd (go S' outs h (fun _ h => h))
          · cases h
        · split at h
          · rename_i x h1
            refine s_astep X h1 hd (fun S' hS' => ?_)
            obtain ⟨o1, h2, h3⟩ := e_cat_ok h S' hS'
            exact go S' o1 h2 h3
          · cases h
        · split at h
          · rename_i M' j as S' h1
            split at h
            · rename_i outs2 h2
              refine s_call hP X h1 hd (outs := outs2) (fun al1 p' e' s' m' args' below' meth' c' A' Q' X' hR' => ?_) (fun o ho => ?_)
              · exact ih false false M' (mT M') _ outs2 h2 X'.2.2.2.2.2.2.2.2.2.2.1.1 al1 _ p' e' _ s' m' args' below' meth' c' A' Q' X' hR' (fun h => by cases h)
              · obtain ⟨o1, h3, h4⟩ := e_cat_ok h _ (List.mem_map.mpr ⟨o, ho, rfl⟩)
                exact go _ o1 h3 h4
            · cases h
          · cases h
        · split at h
          · rename_i r h1
            cases h
            exact s_ret h1 hd List.mem_cons_self hR
          · cases h
        · split at h
          · rename_i hq
            simp only [Bool.and_eq_true] at hq
            obtain ⟨S2, m2, h2⟩ := e_any_ok hq.2
            exact safe_le h2 (hcut hq.1 S2 m2)
          · cases h
      · cases h
end MAIN
