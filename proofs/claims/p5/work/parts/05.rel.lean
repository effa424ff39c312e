/-! what abstract values mean; the laws of the numbers -/
def gv (ν : Nat → Int) (al : List Nat) (b : Nat) (a : AV) (v : Value) : Prop := match a with
  | .inl (lo, hi) => ∃ x : Int32, v = .int x ∧ lo ≤ x.toInt ∧ x.toInt ≤ hi
  | .inr (.inl (k, c)) => ∃ x : Int32, v = .int x ∧ x.toInt = ν k + c
  | .inr (.inr (.inl (lo, hi))) => ∃ x : Int64, v = .long x ∧ lo ≤ x.toInt ∧ x.toInt ≤ hi
  | .inr (.inr (.inr (.inl none))) => v = .null
  | .inr (.inr (.inr (.inl (some i)))) => ∃ q : Nat, al[i]? = some q ∧ v = .ref q
  | .inr (.inr (.inr (.inr _))) => v = .ref b
def gvs (ν : Nat → Int) (al : List Nat) (b : Nat) : List AV → List Value → Prop
  | [], [] => True
  | a :: as, v :: vs => gv ν al b a v ∧ gvs ν al b as vs
  | _, _ => False
def glv (ν : Nat → Int) (al : List Nat) (b : Nat) : List (Nat × AV) → List (Nat × Value) → Prop
  | [], [] => True
  | a :: as, v :: vs => (a.1 = v.1 ∧ gv ν al b a.2 v.2) ∧ glv ν al b as vs
  | _, _ => False
def genv (ν : Nat → Int) (E : EV) : Prop := ∀ (k : Nat) (q : Int × Int), E[k]? = some q → q.1 ≤ ν k ∧ ν k ≤ q.2
section REL
variable {ν : Nat → Int} {al : List Nat} {b : Nat} {E : EV}
theorem gv_int {a : AV} {v : Value} {lo hi : Int} (hE : genv ν E) (h : gv ν al b a v) (hi9 : e_iv E a = some (lo, hi)) : ∃ x : Int32, v = .int x ∧ lo ≤ x.toInt ∧ x.toInt ≤ hi := by
  rcases a with ⟨l0, h0⟩ | ⟨k, c⟩ | ⟨l0, h0⟩ | (_ | i) | _
  · simp only [e_iv, Option.some.injEq, Prod.mk.injEq] at hi9
    obtain ⟨rfl, rfl⟩ := hi9
    exact h
  · obtain ⟨x, rfl, hx⟩ := h
    simp only [e_iv] at hi9
    cases hk : E[k]? with
    | none => rw [hk] at hi9; cases hi9
    | some q =>
      rw [hk] at hi9
      obtain ⟨l1, h1⟩ := q
      simp only [Option.some.injEq, Prod.mk.injEq] at hi9
      obtain ⟨rfl, rfl⟩ := hi9
      have := hE k _ hk
      exact ⟨x, rfl, by simp only at this; omega, by simp only at this; omega⟩
  all_goals (simp only [e_iv] at hi9; cases hi9)
theorem gv_int2 {a : AV} {x : Int32} {lo hi : Int} (hE : genv ν E) (h : gv ν al b a (.int x)) (hi9 : e_iv E a = some (lo, hi)) : lo ≤ x.toInt ∧ x.toInt ≤ hi := by
  obtain ⟨y, e, h1, h2⟩ := gv_int hE h hi9
  cases e
  exact ⟨h1, h2⟩
theorem gv_isI {a : AV} {v : Value} (h : gv ν al b a v) (hi9 : e_isI a = true) : ∃ x : Int32, v = .int x := by
  rcases a with ⟨l0, h0⟩ | ⟨k, c⟩ | ⟨l0, h0⟩ | (_ | i) | _
  · obtain ⟨x, e, -⟩ := h; exact ⟨x, e⟩
  · obtain ⟨x, e, -⟩ := h; exact ⟨x, e⟩
  all_goals cases hi9
theorem gv_isL {a : AV} {v : Value} (h : gv ν al b a v) (hi9 : e_isL a = true) : ∃ x : Int64, v = .long x := by
  rcases a with ⟨l0, h0⟩ | ⟨k, c⟩ | ⟨l0, h0⟩ | (_ | i) | _
  · cases hi9
  · cases hi9
  · obtain ⟨x, e, -⟩ := h; exact ⟨x, e⟩
  all_goals cases hi9
theorem gv_isR {a : AV} {v : Value} (h : gv ν al b a v) (hi9 : e_isR a = true) : v = .null ∨ ∃ q : Nat, v = .ref q := by
  rcases a with ⟨l0, h0⟩ | ⟨k, c⟩ | ⟨l0, h0⟩ | (_ | i) | _
  · cases hi9
  · cases hi9
  · cases hi9
  · exact Or.inl h
  · obtain ⟨q, -, e⟩ := h; exact Or.inr ⟨q, e⟩
  · exact Or.inr ⟨b, h⟩
theorem gv_cat {a : AV} {v : Value} (h : gv ν al b a v) : (v.category == 2) = e_isL a := by
  rcases a with ⟨l0, h0⟩ | ⟨k, c⟩ | ⟨l0, h0⟩ | (_ | i) | _
  · obtain ⟨x, rfl, -⟩ := h; rfl
  · obtain ⟨x, rfl, -⟩ := h; rfl
  · obtain ⟨x, rfl, -⟩ := h; rfl
  · rw [show v = .null from h]; rfl
  · obtain ⟨q, -, rfl⟩ := h; rfl
  · rw [show v = .ref b from h]; rfl
theorem gv_cat1 {a : AV} {v : Value} (h : gv ν al b a v) (hn : e_isL a = false) : v.category = 1 := by
  have := gv_cat h
  rw [hn] at this
  rcases lv_cat v with q | q
  · exact q
  · rw [q] at this; cases this
theorem gv_cat2 {a : AV} {v : Value} (h : gv ν al b a v) (hn : e_isL a = true) : v.category = 2 := by
  have := gv_cat h
  rw [hn] at this
  exact eq_of_beq this
theorem gv_app {a : AV} {v : Value} (m : List Nat) (h : gv ν al b a v) : gv ν (al ++ m) b a v := by
  rcases a with ⟨l0, h0⟩ | ⟨k, c⟩ | ⟨l0, h0⟩ | (_ | i) | _
  · exact h
  · exact h
  · exact h
  · exact h
  · obtain ⟨q, e, rfl⟩ := h
    refine ⟨q, ?_, rfl⟩
    have hlt := (List.getElem?_eq_some_iff.mp e).1
    rw [List.getElem?_append_left hlt]; exact e
  · exact h
theorem gvs_app {as : List AV} {vs : List Value} (m : List Nat) (h : gvs ν al b as vs) : gvs ν (al ++ m) b as vs := by
  induction as generalizing vs with
  | nil => cases vs with
    | nil => trivial
    | cons => exact h
  | cons a as ih => cases vs with
    | nil => exact h
    | cons v vs => exact ⟨gv_app m h.1, ih h.2⟩
theorem glv_app {as : List (Nat × AV)} {vs : List (Nat × Value)} (m : List Nat) (h : glv ν al b as vs) : glv ν (al ++ m) b as vs := by
  induction as generalizing vs with
  | nil => cases vs with
    | nil => trivial
    | cons => exact h
  | cons a as ih => cases vs with
    | nil => exact h
    | cons v vs => exact ⟨⟨h.1.1, gv_app m h.1.2⟩, ih h.2⟩
theorem gvs_cons {a : AV} {as : List AV} {vs : List Value} (h : gvs ν al b (a :: as) vs) : ∃ v vs', vs = v :: vs' ∧ gv ν al b a v ∧ gvs ν al b as vs' := by
  cases vs with
  | nil => exact absurd h id
  | cons v vs => exact ⟨v, vs, rfl, h.1, h.2⟩
theorem gvs_nil {vs : List Value} (h : gvs ν al b [] vs) : vs = [] := by
  cases vs with
  | nil => rfl
  | cons v vs => exact absurd h id
theorem e_find_ok {lo : List (Nat × AV)} {lv : List (Nat × Value)} {i : Nat} {a : AV} (h : glv ν al b lo lv) (hf : e_find lo i = some a) : ∃ (k : Nat) (v : Value), lv[k]? = some (i, v) ∧ gv ν al b a v := by
  induction lo generalizing lv with
  | nil => cases hf
  | cons q r ih =>
    cases lv with
    | nil => exact absurd h id
    | cons w ws =>
      obtain ⟨j, a0⟩ := q
      obtain ⟨j', v0⟩ := w
      obtain ⟨⟨h1, h2⟩, h3⟩ := h
      simp only at h1 h2
      subst h1
      simp only [e_find] at hf
      by_cases hj : Nat.beq j i = true
      · rw [if_pos hj] at hf
        cases hf
        have := Nat.eq_of_beq_eq_true hj
        subst this
        exact ⟨0, v0, rfl, h2⟩
      · rw [if_neg hj] at hf
        obtain ⟨k, v, e, g⟩ := ih h3 hf
        exact ⟨k + 1, v, e, g⟩
theorem glv_filter {lo : List (Nat × AV)} {lv : List (Nat × Value)} (f : Nat × AV → Bool) (g : Nat × Value → Bool) (h : glv ν al b lo lv) (hfg : ∀ i a v, gv ν al b a v → f (i, a) = g (i, v)) : glv ν al b (lo.filter f) (lv.filter g) := by
  induction lo generalizing lv with
  | nil => cases lv with
    | nil => exact h
    | cons => exact absurd h id
  | cons q r ih => cases lv with
    | nil => exact absurd h id
    | cons w ws =>
      obtain ⟨j, a0⟩ := q
      obtain ⟨j', v0⟩ := w
      obtain ⟨⟨h1, h2⟩, h3⟩ := h
      simp only at h1 h2
      subst h1
      have e := hfg j a0 v0 h2
      rw [List.filter_cons, List.filter_cons, e]
      by_cases hg : g (j, v0) = true
      · rw [if_pos hg, if_pos hg]
        exact ⟨⟨rfl, h2⟩, ih h3⟩
      · rw [if_neg hg, if_neg hg]
        exact ih h3
theorem glv_st1 {lo : List (Nat × AV)} {lv : List (Nat × Value)} {i : Nat} {a : AV} {v : Value} (h : glv ν al b lo lv) (ha : gv ν al b a v) : glv ν al b (e_st1 lo i a) ((i, v) :: lv.filter (fun q => !(q.1 == i) && !(q.1 + 1 == i && q.2.category == 2))) := by
  refine ⟨⟨rfl, ha⟩, glv_filter _ _ h fun j a v hv => ?_⟩
  simp only [gv_cat hv]
theorem glv_st2 {lo : List (Nat × AV)} {lv : List (Nat × Value)} {i : Nat} {a : AV} {v : Value} (h : glv ν al b lo lv) (ha : gv ν al b a v) : glv ν al b (e_st2 lo i a) ((i, v) :: lv.filter (fun q => !(q.1 == i) && (!(q.1 == i + 1) && !(q.1 + 1 == i && q.2.category == 2)))) := by
  refine ⟨⟨rfl, ha⟩, glv_filter _ _ h fun j a v hv => ?_⟩
  simp only [gv_cat hv]
/-! numbers -/
theorem gv_top (x : Int32) : gv ν al b aTop (.int x) := ⟨x, rfl, (fb_rng x).1, by have := (fb_rng x).2; omega⟩
theorem gv_Ltop (x : Int64) : gv ν al b aLtop (.long x) := ⟨x, rfl, (fb_rngL x).1, by have := (fb_rngL x).2; omega⟩
theorem gv_mk {x : Int32} {lo hi : Int} (h1 : lo ≤ x.toInt) (h2 : x.toInt ≤ hi) : gv ν al b (e_mk lo hi) (.int x) := by
  unfold e_mk
  split
  · exact ⟨x, rfl, h1, h2⟩
  · exact gv_top x
/-- the number z (mod 2^32), where it is between lo and hi -/
theorem gv_mkw {x : Int32} {z lo hi : Int} (hx : -2147483648 ≤ z → z < 2147483648 → x.toInt = z) (h1 : lo ≤ z) (h2 : z ≤ hi) : gv ν al b (e_mk lo hi) (.int x) := by
  unfold e_mk
  split
  · rename_i h
    simp only [Bool.and_eq_true, decide_eq_true_eq] at h
    have e := hx (by omega) (by omega)
    exact ⟨x, rfl, by omega, by omega⟩
  · exact gv_top x
theorem e_add_ok {a c r : AV} {x y : Int32} (hE : genv ν E) (ha : gv ν al b a (.int x)) (hc : gv ν al b c (.int y)) (h : e_add E a c = some r) : gv ν al b r (.int (x + y)) := by
  unfold e_add at h
  split at h
  · rename_i la ha1 lb hb1 e1 e2
    have p1 := gv_int2 hE ha e1
    have p2 := gv_int2 hE hc e2
    have g := gv_mkw (ν := ν) (al := al) (b := b) (x := x + y) (z := x.toInt + y.toInt) (lo := la + lb) (hi := ha1 + hb1) (fun h1 h2 => fb_addI h1 h2) (by omega) (by omega)
    split at h
    · rename_i k c0
      split at h
      · rename_i hc0
        simp only [Bool.and_eq_true, decide_eq_true_eq] at hc0
        cases h
        obtain ⟨x', e', hx'⟩ := ha
        cases e'
        refine ⟨x + y, rfl, ?_⟩
        rw [fb_addI (by omega) (by omega)]
        omega
      · cases h; exact g
    · cases h; exact g
  · cases h
theorem e_sub_ok {a c r : AV} {x y : Int32} (hE : genv ν E) (ha : gv ν al b a (.int x)) (hc : gv ν al b c (.int y)) (h : e_sub E a c = some r) : gv ν al b r (.int (x - y)) := by
  unfold e_sub at h
  split at h
  · rename_i la ha1 lb hb1 e1 e2
    have p1 := gv_int2 hE ha e1
    have p2 := gv_int2 hE hc e2
    have g := gv_mkw (ν := ν) (al := al) (b := b) (x := x - y) (z := x.toInt - y.toInt) (lo := la - hb1) (hi := ha1 - lb) (fun h1 h2 => fb_subI h1 h2) (by omega) (by omega)
    split at h
    · rename_i k c0
      split at h
      · rename_i hc0
        simp only [Bool.and_eq_true, decide_eq_true_eq] at hc0
        cases h
        obtain ⟨x', e', hx'⟩ := ha
        cases e'
        refine ⟨x - y, rfl, ?_⟩
        rw [fb_subI (by omega) (by omega)]
        omega
      · cases h; exact g
    · cases h; exact g
  · cases h
end REL
