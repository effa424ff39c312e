/-! what they mean -/
/-- the named numbers; which address is of which kind; what lies outside -/
abbrev IN : Type := List Int × List (Nat × Nat) × (Nat → Nat)
/-- what a name of a reference says: which it is, where it is not null; else whether it is (0) or not (1) -/
def hnm (nn : Bool) (v : Value) (y : Int) : Prop := (nn = true ∧ ∃ q : Nat, v = .ref q ∧ y = (q : Int)) ∨ (nn = false ∧ ((v = .null ∧ y = 0) ∨ ((∃ q : Nat, v = .ref q) ∧ y = 1)))
def hv (I : IN) (a : BV) (v : Value) : Prop := match a with
  | .inl n => ∃ x : Int32, v = .int x ∧ x.toInt = n
  | .inr (.inl (k, c)) => ∃ (x : Int32) (y : Int), v = .int x ∧ I.1[k]? = some y ∧ x.toInt = y + c
  | .inr (.inr (.inl (lo, hi))) => ∃ x : Int64, v = .long x ∧ lo ≤ x.toInt ∧ x.toInt ≤ hi
  | .inr (.inr (.inr (.inl none))) => v = .null
  | .inr (.inr (.inr (.inl (some (κ, nn, nm))))) => ((nn = false ∧ v = .null) ∨ ∃ q : Nat, (q, κ) ∈ I.2.1 ∧ v = .ref q) ∧ ∀ k, nm = some k → ∃ y, I.1[k]? = some y ∧ hnm nn v y
  | .inr (.inr (.inr (.inr j))) => v = .ref (I.2.2 j)
def hvs (I : IN) : List BV → List Value → Prop
  | [], [] => True
  | a :: as, v :: vs => hv I a v ∧ hvs I as vs
  | _, _ => False
def hlv (I : IN) : List (Nat × BV) → List (Nat × Value) → Prop
  | [], [] => True
  | a :: as, v :: vs => (a.1 = v.1 ∧ hv I a.2 v.2) ∧ hlv I as vs
  | _, _ => False
def henv (ν : List Int) (n : Nat) (E : EB) : Prop := ν.length = n ∧ ∀ (k : Nat) (q : Int × Int), f_lk E k = some q → ∃ y, ν[k]? = some y ∧ q.1 ≤ y ∧ y ≤ q.2
/-- more names, more addresses -/
def hxt (I J : IN) : Prop := (∃ m1, J.1 = I.1 ++ m1) ∧ (∃ m2, J.2.1 = I.2.1 ++ m2) ∧ J.2.2 = I.2.2
section BREL
variable {I J : IN} {E : EB} {n : Nat}
theorem hxt.rf : hxt I I := ⟨⟨[], by simp⟩, ⟨[], by simp⟩, rfl⟩
theorem hxt.tr {K : IN} (h1 : hxt I J) (h2 : hxt J K) : hxt I K := by
  obtain ⟨⟨a, ha⟩, ⟨b, hb⟩, hc⟩ := h1
  obtain ⟨⟨a', ha'⟩, ⟨b', hb'⟩, hc'⟩ := h2
  exact ⟨⟨a ++ a', by rw [ha', ha, List.append_assoc]⟩, ⟨b ++ b', by rw [hb', hb, List.append_assoc]⟩, by rw [hc', hc]⟩
theorem hxt.at {k : Nat} {y : Int} (h : hxt I J) (hk : I.1[k]? = some y) : J.1[k]? = some y := by
  obtain ⟨⟨m1, h1⟩, -, -⟩ := h
  have hlt := (List.getElem?_eq_some_iff.mp hk).1
  rw [h1, List.getElem?_append_left hlt]; exact hk
theorem hxt.mem {q : Nat × Nat} (h : hxt I J) (hk : q ∈ I.2.1) : q ∈ J.2.1 := by
  obtain ⟨-, ⟨m2, h2⟩, -⟩ := h
  rw [h2]; exact List.mem_append_left _ hk
theorem hv.xt {a : BV} {v : Value} (h : hxt I J) (hv0 : hv I a v) : hv J a v := by
  rcases a with c | ⟨k, c⟩ | ⟨lo, hi⟩ | (_ | ⟨κ, nn, nm⟩) | j
  · exact hv0
  · obtain ⟨x, y, h1, h2, h3⟩ := hv0
    exact ⟨x, y, h1, h.at h2, h3⟩
  · exact hv0
  · exact hv0
  · obtain ⟨h1, h2⟩ := hv0
    refine ⟨?_, fun k hk => ?_⟩
    · rcases h1 with h1 | ⟨q, h1, h3⟩
      · exact Or.inl h1
      · exact Or.inr ⟨q, h.mem h1, h3⟩
    · obtain ⟨y, h3, h4⟩ := h2 k hk
      exact ⟨y, h.at h3, h4⟩
  · show v = .ref (J.2.2 j)
    rw [h.2.2]; exact hv0
theorem hvs.xt {as : List BV} {vs : List Value} (h : hxt I J) (h0 : hvs I as vs) : hvs J as vs := by
  induction as generalizing vs with
  | nil => cases vs with
    | nil => trivial
    | cons => exact h0
  | cons a as ih => cases vs with
    | nil => exact h0
    | cons v vs => exact ⟨h0.1.xt h, ih h0.2⟩
theorem hlv.xt {as : List (Nat × BV)} {vs : List (Nat × Value)} (h : hxt I J) (h0 : hlv I as vs) : hlv J as vs := by
  induction as generalizing vs with
  | nil => cases vs with
    | nil => trivial
    | cons => exact h0
  | cons a as ih => cases vs with
    | nil => exact h0
    | cons v vs => exact ⟨⟨h0.1.1, h0.1.2.xt h⟩, ih h0.2⟩
theorem hvs_cons {a : BV} {as : List BV} {vs : List Value} (h : hvs I (a :: as) vs) : ∃ v vs', vs = v :: vs' ∧ hv I a v ∧ hvs I as vs' := by
  cases vs with
  | nil => exact absurd h id
  | cons v vs => exact ⟨v, vs, rfl, h.1, h.2⟩
theorem hvs_nil {vs : List Value} (h : hvs I [] vs) : vs = [] := by
  cases vs with
  | nil => rfl
  | cons v vs => exact absurd h id
theorem hvs_len {as : List BV} {vs : List Value} (h : hvs I as vs) : as.length = vs.length := by
  induction as generalizing vs with
  | nil => rw [hvs_nil h]; rfl
  | cons a as ih =>
    obtain ⟨v, vs', rfl, -, h2⟩ := hvs_cons h
    simp [ih h2]
theorem hv_int {a : BV} {v : Value} {lo hi : Int} (hE : henv I.1 n E) (h : hv I a v) (hi9 : f_iv E a = some (lo, hi)) : ∃ x : Int32, v = .int x ∧ lo ≤ x.toInt ∧ x.toInt ≤ hi := by
  rcases a with c | ⟨k, c⟩ | ⟨l0, h0⟩ | (_ | ⟨κ, nn, nm⟩) | j
  · simp only [f_iv, Option.some.injEq, Prod.mk.injEq] at hi9
    obtain ⟨rfl, rfl⟩ := hi9
    obtain ⟨x, rfl, h1⟩ := h
    exact ⟨x, rfl, by omega, by omega⟩
  · obtain ⟨x, y, rfl, h1, h2⟩ := h
    simp only [f_iv] at hi9
    cases hk : f_lk E k with
    | none => rw [hk] at hi9; cases hi9
    | some q =>
      rw [hk] at hi9
      obtain ⟨l1, h3⟩ := q
      simp only [Option.some.injEq, Prod.mk.injEq] at hi9
      obtain ⟨rfl, rfl⟩ := hi9
      obtain ⟨y', g1, g2, g3⟩ := hE.2 k _ hk
      rw [h1] at g1
      cases g1
      simp only at g2 g3
      exact ⟨x, rfl, by omega, by omega⟩
  all_goals (simp only [f_iv] at hi9; cases hi9)
theorem hv_int2 {a : BV} {x : Int32} {lo hi : Int} (hE : henv I.1 n E) (h : hv I a (.int x)) (hi9 : f_iv E a = some (lo, hi)) : lo ≤ x.toInt ∧ x.toInt ≤ hi := by
  obtain ⟨y, e, h1, h2⟩ := hv_int hE h hi9
  cases e
  exact ⟨h1, h2⟩
theorem hv_isI {a : BV} {v : Value} (h : hv I a v) (hi9 : f_isI a = true) : ∃ x : Int32, v = .int x := by
  rcases a with c | ⟨k, c⟩ | ⟨l0, h0⟩ | (_ | ⟨κ, nn, nm⟩) | j
  · obtain ⟨x, e, -⟩ := h; exact ⟨x, e⟩
  · obtain ⟨x, y, e, -⟩ := h; exact ⟨x, e⟩
  all_goals cases hi9
theorem hv_isL {a : BV} {v : Value} (h : hv I a v) (hi9 : f_isL a = true) : ∃ x : Int64, v = .long x := by
  rcases a with c | ⟨k, c⟩ | ⟨l0, h0⟩ | (_ | ⟨κ, nn, nm⟩) | j
  · cases hi9
  · cases hi9
  · obtain ⟨x, e, -⟩ := h; exact ⟨x, e⟩
  all_goals cases hi9
theorem hv_isR {a : BV} {v : Value} (h : hv I a v) (hi9 : f_isR a = true) : v = .null ∨ ∃ q : Nat, v = .ref q := by
  rcases a with c | ⟨k, c⟩ | ⟨l0, h0⟩ | (_ | ⟨κ, nn, nm⟩) | j
  · cases hi9
  · cases hi9
  · cases hi9
  · exact Or.inl h
  · obtain ⟨h1 | ⟨q, -, h1⟩, -⟩ := h
    · exact Or.inl h1.2
    · exact Or.inr ⟨q, h1⟩
  · exact Or.inr ⟨_, h⟩
theorem hv_cat {a : BV} {v : Value} (h : hv I a v) : (v.category == 2) = f_isL a := by
  rcases a with c | ⟨k, c⟩ | ⟨l0, h0⟩ | (_ | ⟨κ, nn, nm⟩) | j
  · obtain ⟨x, rfl, -⟩ := h; rfl
  · obtain ⟨x, y, rfl, -⟩ := h; rfl
  · obtain ⟨x, rfl, -⟩ := h; rfl
  · rw [show v = .null from h]; rfl
  · obtain ⟨h1 | ⟨q, -, h1⟩, -⟩ := h
    · rw [h1.2]; rfl
    · rw [h1]; rfl
  · rw [show v = .ref _ from h]; rfl
theorem hv_cat1 {a : BV} {v : Value} (h : hv I a v) (hn : f_isL a = false) : v.category = 1 := by
  have := hv_cat h
  rw [hn] at this
  rcases lv_cat v with q | q
  · exact q
  · rw [q] at this; cases this
theorem hv_cat2 {a : BV} {v : Value} (h : hv I a v) (hn : f_isL a = true) : v.category = 2 := by
  have := hv_cat h
  rw [hn] at this
  exact eq_of_beq this
theorem f_iv_isI {a : BV} {q : Int × Int} (h : f_iv E a = some q) : f_isI a = true := by
  rcases a with c | ⟨k, c⟩ | ⟨l0, h0⟩ | (_ | ⟨κ, nn, nm⟩) | j
  · rfl
  · rfl
  all_goals (simp only [f_iv] at h; cases h)
theorem hv_off {a : BV} {x z : Int32} {d : Int} (h : hv I a (.int x)) (hz : z.toInt = x.toInt + d) : hv I (f_off a d) (.int z) := by
  rcases a with c | ⟨k, c⟩ | ⟨l0, h0⟩ | (_ | ⟨κ, nn, nm⟩) | j
  · obtain ⟨y, e, h1⟩ := h; cases e; exact ⟨z, rfl, by omega⟩
  · obtain ⟨y, w, e, h1, h2⟩ := h; cases e; exact ⟨z, w, rfl, h1, by omega⟩
  · obtain ⟨y, e, -⟩ := h; cases e
  · have h : Value.int x = .null := h; cases h
  · obtain ⟨h1 | ⟨q, -, h1⟩, -⟩ := h
    · cases h1.2
    · cases h1
  · have h : Value.int x = .ref (I.2.2 j) := h; cases h
/-- what a reckoned value means -/
def hr (I : IN) (r : RB) (v : Value) : Prop := match r with
  | .inl a => hv I a v
  | .inr (lo, hi) => ∃ x : Int32, v = .int x ∧ lo ≤ x.toInt ∧ x.toInt ≤ hi
theorem henv_cons {ν : List Int} {y lo hi : Int} (hE : henv ν n E) (h1 : lo ≤ y) (h2 : y ≤ hi) : henv (ν ++ [y]) (n + 1) ((n, lo, hi) :: E) := by
  obtain ⟨e1, e2⟩ := hE
  refine ⟨by simp [e1], fun k q hk => ?_⟩
  simp only [f_lk] at hk
  split at hk
  · rename_i h3
    have := Nat.eq_of_beq_eq_true h3
    subst this
    cases hk
    exact ⟨y, by rw [List.getElem?_append_right (by omega), e1]; simp, h1, h2⟩
  · obtain ⟨z, g1, g2⟩ := e2 k q hk
    exact ⟨z, by rw [List.getElem?_append_left (List.getElem?_eq_some_iff.mp g1).1]; exact g1, g2⟩
theorem f_push_ok {r : RB} {v : Value} {a : BV} {n' : Nat} {E' : EB} (hE : henv I.1 n E) (h : hr I r v) (hp : f_push r n E = (a, n', E')) : ∃ J : IN, hxt I J ∧ J.2 = I.2 ∧ henv J.1 n' E' ∧ hv J a v := by
  rcases r with r | ⟨lo, hi⟩
  · simp only [f_push, Prod.mk.injEq] at hp
    obtain ⟨rfl, rfl, rfl⟩ := hp
    exact ⟨I, hxt.rf, rfl, hE, h⟩
  · simp only [f_push, Prod.mk.injEq] at hp
    obtain ⟨rfl, rfl, rfl⟩ := hp
    obtain ⟨x, rfl, h1, h2⟩ := h
    refine ⟨(I.1 ++ [x.toInt], I.2), ⟨⟨_, rfl⟩, ⟨[], by simp⟩, rfl⟩, rfl, henv_cons hE h1 h2, x, x.toInt, rfl, ?_, by omega⟩
    rw [List.getElem?_append_right (by rw [hE.1]; exact Nat.le_refl _), hE.1]; simp
end BREL
