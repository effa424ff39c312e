section LE
variable {ν : Nat → Int} {b : Nat} {cy : Nat → ClassId} {E : EV}
theorem e_leV_ok {al : List Nat} {a a' : AV} {v : Value} (hE : genv ν E) (hv : gv ν al b a v) (h : e_leV E a a' = true) : gv ν al b a' v := by
  unfold e_leV at h
  split at h
  · rename_i h0
    rw [← h0]; exact hv
  · rcases a' with ⟨l', h'⟩ | ⟨k, c⟩ | ⟨l', h'⟩ | (_ | i) | _
    · simp only at h
      split at h
      · rename_i l h1 hi
        simp only [Bool.and_eq_true, decide_eq_true_eq] at h
        obtain ⟨x, rfl, g1, g2⟩ := gv_int hE hv hi
        exact ⟨x, rfl, by omega, by omega⟩
      · cases h
    · simp only at h
      split at h
      · rename_i l h1 l2 h2 hi hi2
        simp only [Bool.and_eq_true, decide_eq_true_eq] at h
        obtain ⟨x, rfl, g1, g2⟩ := gv_int hE hv hi
        simp only [e_iv] at hi2
        cases hk : E[k]? with
        | none => rw [hk] at hi2; cases hi2
        | some r =>
          rw [hk] at hi2
          obtain ⟨l3, h3⟩ := r
          simp only [Option.some.injEq, Prod.mk.injEq] at hi2
          have w := hE k _ hk
          simp only at w
          exact ⟨x, rfl, by omega⟩
      · cases h
    · rcases a with ⟨l0, h0⟩ | ⟨k0, c0⟩ | ⟨l0, h0⟩ | (_ | i0) | _
      · cases h
      · cases h
      · simp only [Bool.and_eq_true, decide_eq_true_eq] at h
        obtain ⟨x, rfl, g1, g2⟩ := hv
        exact ⟨x, rfl, by omega, by omega⟩
      · cases h
      · cases h
      · cases h
    · cases h
    · cases h
    · cases h
theorem e_leVs_ok {al : List Nat} (hE : genv ν E) : ∀ {x y : List AV} {vs : List Value}, gvs ν al b x vs → e_leVs E x y = true → gvs ν al b y vs := by
  intro x
  induction x with
  | nil =>
    intro y vs h1 h2
    cases y with
    | nil => exact h1
    | cons => cases h2
  | cons a r ih =>
    intro y vs h1 h2
    cases y with
    | nil => cases h2
    | cons a' r' =>
      simp only [e_leVs, Bool.and_eq_true] at h2
      obtain ⟨v, vs', rfl, g1, g2⟩ := gvs_cons h1
      exact ⟨e_leV_ok hE g1 h2.1, ih g2 h2.2⟩
theorem e_leL_ok {al : List Nat} {ls : Array Slot} {nL : Nat} {x : List (Nat × AV)} {lv : List (Nat × Value)} (hE : genv ν E) (hl : lv_has ls nL lv) (hg : glv ν al b x lv) : ∀ {y : List (Nat × AV)}, e_leL E x y = true → ∃ lv', lv_has ls nL lv' ∧ glv ν al b y lv' := by
  intro y
  induction y with
  | nil => intro _; exact ⟨[], ⟨hl.1, hl.2.1, fun q hq => by cases hq⟩, trivial⟩
  | cons q r ih =>
    intro h
    obtain ⟨i, a'⟩ := q
    simp only [e_leL, Bool.and_eq_true] at h
    obtain ⟨h1, h2⟩ := h
    obtain ⟨lv', g1, g2⟩ := ih h2
    split at h1
    · rename_i a ha
      obtain ⟨k, v, e1, g3⟩ := e_find_ok hg ha
      refine ⟨(i, v) :: lv', ⟨g1.1, g1.2.1, fun q hq => ?_⟩, ⟨rfl, e_leV_ok hE g3 h1⟩, g2⟩
      rcases List.mem_cons.mp hq with rfl | hq
      · exact lv_at hl k e1
      · exact g1.2.2 q hq
    · cases h1
theorem e_leE_ok : ∀ {x y : EV} (ν : Nat → Int), genv ν x → e_leE x y = true → genv ν y := by
  intro x
  induction x with
  | nil =>
    intro y ν h1 h2
    cases y with
    | nil => exact h1
    | cons => cases h2
  | cons q r ih =>
    intro y ν h1 h2
    cases y with
    | nil => intro k q hk; simp at hk
    | cons q' r' =>
      obtain ⟨l, h⟩ := q
      obtain ⟨l', h'⟩ := q'
      simp only [e_leE, Bool.and_eq_true, decide_eq_true_eq] at h2
      intro k z hk
      cases k with
      | zero =>
        simp at hk
        subst hk
        have := h1 0 (l, h) rfl
        simp only at this ⊢
        omega
      | succ k =>
        have := ih (y := r') (fun n => ν (n + 1)) (fun n z hn => h1 (n + 1) z hn) h2.2.2 k z hk
        exact this
theorem e_get_out {d : AV} : ∀ {x : List (Nat × AV)} {j : Nat}, (∀ q ∈ x, q.1 ≠ j) → e_get d x j = d := by
  intro x
  induction x with
  | nil => intro j _; rfl
  | cons q r ih =>
    intro j h
    obtain ⟨i, a⟩ := q
    simp only [e_get]
    rw [if_neg, ih (fun q hq => h q (List.mem_cons_of_mem _ hq))]
    intro h1
    exact h (i, a) List.mem_cons_self (Nat.eq_of_beq_eq_true h1)
theorem e_leA_ok {al : List Nat} {d d' : AV} {x x' : List (Nat × AV)} (hE : genv ν E) (h : e_leA E d d' x x' = true) (j : Nat) {v : Value} (hv : gv ν al b (e_get d x j) v) : gv ν al b (e_get d' x' j) v := by
  simp only [e_leA, Bool.and_eq_true] at h
  obtain ⟨h1, h2, h3⟩ := h
  by_cases m1 : ∃ q ∈ x, q.1 = j
  · obtain ⟨q, hq, rfl⟩ := m1
    exact e_leV_ok hE hv (List.all_eq_true.mp h2 q hq)
  · by_cases m2 : ∃ q ∈ x', q.1 = j
    · obtain ⟨q, hq, rfl⟩ := m2
      exact e_leV_ok hE hv (List.all_eq_true.mp h3 q hq)
    · rw [e_get_out (fun q hq e => m1 ⟨q, hq, e⟩)] at hv
      rw [e_get_out (fun q hq e => m2 ⟨q, hq, e⟩)]
      exact e_leV_ok hE hv h1
theorem e_leC_ok {al : List Nat} {c c' : AC} {e : va_E} (hE : genv ν E) (hc : gC ν al b cy c e) (h : e_leC E c c' = true) : gC ν al b cy c' e := by
  unfold e_leC at h
  split at h
  · simp only [Bool.and_eq_true] at h
    obtain ⟨h1, h2, h3⟩ := h
    have h1 := beq3 h1
    have h2 := beq3 h2
    subst h1
    subst h2
    rcases hc with ⟨g0, f, g1, g2⟩ | ⟨g0, f, g1, g2⟩ | ⟨g0, f, g1, g2⟩
    · exact Or.inl ⟨g0, f, g1, fun j hj => e_leA_ok hE h3 j (g2 j hj)⟩
    · exact Or.inr (Or.inl ⟨g0, f, g1, fun j hj => e_leA_ok hE h3 j (g2 j hj)⟩)
    · exact Or.inr (Or.inr ⟨g0, f, g1, fun j hj => e_leA_ok hE h3 j (g2 j hj)⟩)
  · simp only [Bool.and_eq_true] at h
    have h1 := beq3 h.1
    subst h1
    obtain ⟨vs, g1, g2⟩ := hc
    exact ⟨vs, g1, e_leVs_ok hE g2 h.2⟩
  · cases h
theorem e_leCs_at : ∀ {x y : List AC}, e_leCs E x y = true → x.length = y.length ∧ ∀ (i : Nat) (c' : AC), y[i]? = some c' → ∃ c, x[i]? = some c ∧ e_leC E c c' = true := by
  intro x
  induction x with
  | nil =>
    intro y h
    cases y with
    | nil => exact ⟨rfl, fun i c' h => by simp at h⟩
    | cons => cases h
  | cons a r ih =>
    intro y h
    cases y with
    | nil => cases h
    | cons a' r' =>
      simp only [e_leCs, Bool.and_eq_true] at h
      obtain ⟨h1, h2⟩ := ih h.2
      refine ⟨by simp [h1], fun i c' hi => ?_⟩
      cases i with
      | zero => simp at hi; subst hi; exact ⟨a, rfl, h.1⟩
      | succ i => simp at hi; obtain ⟨c, g1, g2⟩ := h2 i c' hi; exact ⟨c, by simpa using g1, g2⟩
theorem e_leCs_ok {x y : List AC} {ws : va_W} (hE : genv ν E) (h : e_leCs E x y = true) (hW : gW ν b cy x ws) : gW ν b cy y ws := by
  obtain ⟨h1, h2⟩ := e_leCs_at h
  refine ⟨by rw [← h1]; exact hW.1, fun i c' hi => ?_⟩
  obtain ⟨c, g1, g2⟩ := h2 i c' hi
  obtain ⟨q, e, g3, g4⟩ := hW.2 i c g1
  exact ⟨q, e, g3, e_leC_ok hE g4 g2⟩
theorem safe_le {D : va_G} {pool : va_W} {al0 : List Nat} {M : MT} {p : Program} {l : Launch} {e : Env} {R : Room} {s : State} {m : MethodId} {args : Array Value} {below : List Frame} {meth : Method} {c : Code} {A : Nat → Prop} {Q : State → Prop} {S S' : ST} (h : e_le S S' = true) (k : Safe D cy ν b pool al0 M p l e R s m args below meth c A Q S') : Safe D cy ν b pool al0 M p l e R s m args below meth c A Q S := by
  obtain ⟨pc, lo, st, E, C, nc, ns⟩ := S
  obtain ⟨pc', lo', st', E', C', nc', ns'⟩ := S'
  simp only [e_le, Bool.and_eq_true] at h
  obtain ⟨h1, h2, h3, h4, h5, h6, h7⟩ := h
  have h1 := beq3 h1
  subst h1
  intro H locs ls lv vs ws a1 a2 a3 a4 a5 a6
  simp only at a2 a3 a4 a5 ⊢
  obtain ⟨lv', g1, g2⟩ := e_leL_ok a4 a1 a2 h4
  refine W.widen (k := nc') (n := ns') (Nat.le_of_ble_eq_true h6) (Nat.le_of_ble_eq_true h7) ?_
  exact k H locs ls lv' vs ws g1 g2 (e_leVs_ok a4 a3 h2) (e_leE_ok ν a4 h3) ⟨e_leCs_ok a4 h5 a5.1, a5.2⟩ a6
end LE
