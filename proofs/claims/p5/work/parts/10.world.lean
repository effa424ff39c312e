/-! the world: cells by their places, behind a pool that stays as it is -/
abbrev alw (ws : va_W) : List Nat := ws.map (fun q => q.1)
def gC (ν : Nat → Int) (al : List Nat) (b : Nat) (cy : Nat → ClassId) (c : AC) (e : va_E) : Prop := match c with
  | .inl (t, n, d, x) =>
    (t ≤ 2 ∧ ∃ f : Nat → Int32, e = .inl (cy t, n, .inl f) ∧ ∀ j, j < n → gv ν al b (e_get d x j) (.int (f j))) ∨
    (t = 3 ∧ ∃ f : Nat → Int64, e = .inl (cy t, n, .inr (.inl f)) ∧ ∀ j, j < n → gv ν al b (e_get d x j) (.long (f j))) ∨
    (4 ≤ t ∧ ∃ f : Nat → Option Nat, e = .inl (cy t, n, .inr (.inr (.inr (.inr f)))) ∧ ∀ j, j < n → gv ν al b (e_get d x j) (va_rf (f j)))
  | .inr (ci, fs) => ∃ vs : List Value, e = .inr (ci, vs) ∧ gvs ν al b fs vs
def gW (ν : Nat → Int) (b : Nat) (cy : Nat → ClassId) (C : List AC) (ws : va_W) : Prop :=
  C.length = ws.length ∧ ∀ (i : Nat) (c : AC), C[i]? = some c → ∃ (q : Nat) (e : va_E), ws[i]? = some (q, e) ∧ gC ν (alw ws) b cy c e
/-- the types of arrays by their numbers -/
def e_aty (t : Nat) : FieldType := match t with
  | 0 => .int
  | 1 => .byte
  | 2 => .boolean
  | 3 => .long
  | 4 => .object "NounFast$Scene"
  | _ => .object "NounFast$Sentence"
/-- the class of what an array of references holds -/
def e_acls (t : Nat) : Nat := match t with
  | 4 => 6
  | _ => 7
def atys (cy : Nat → ClassId) : List (ClassId × FieldType) := [(cy 0, .int), (cy 1, .byte), (cy 2, .boolean), (cy 3, .long), (cy 4, .object "NounFast$Scene"), (cy 5, .object "NounFast$Sentence")]
theorem atys_at (cy : Nat → ClassId) : ∀ t, t < 6 → (atys cy)[t]? = some (cy t, e_aty t) := by
  intro t ht
  rcases (show t = 0 ∨ t = 1 ∨ t = 2 ∨ t = 3 ∨ t = 4 ∨ t = 5 by omega) with rfl | rfl | rfl | rfl | rfl | rfl <;> rfl
def Wd (D : va_G) (cy : Nat → ClassId) (A : Nat → Prop) (H0 : Heap) (pool : va_W) (ν : Nat → Int) (b : Nat) (C : List AC) (ws : va_W) (H : Heap) (locs : List Loc) : Prop :=
  gW ν b cy C ws ∧ va_P D vwCl (pool ++ ws) H ∧ va_D A (pool ++ ws) ∧ va_S A H0 H locs
section WORLD
variable {ν : Nat → Int} {al : List Nat} {b : Nat} {cy : Nat → ClassId} {C : List AC} {ws : va_W}
theorem gvs_len {as : List AV} {vs : List Value} (h : gvs ν al b as vs) : as.length = vs.length := by
  induction as generalizing vs with
  | nil => cases vs with
    | nil => rfl
    | cons => exact absurd h id
  | cons a as ih => cases vs with
    | nil => exact absurd h id
    | cons v vs => simp [ih h.2]
theorem gvs_get {as : List AV} {vs : List Value} {k : Nat} {a : AV} (h : gvs ν al b as vs) (hk : as[k]? = some a) : ∃ v, vs[k]? = some v ∧ gv ν al b a v := by
  induction as generalizing vs k with
  | nil => simp at hk
  | cons a0 as ih => cases vs with
    | nil => exact absurd h id
    | cons v vs =>
      cases k with
      | zero => simp at hk; subst hk; exact ⟨v, rfl, h.1⟩
      | succ k =>
        simp at hk
        obtain ⟨w, h1, h2⟩ := ih h.2 hk
        exact ⟨w, h1, h2⟩
theorem gvs_set {as : List AV} {vs : List Value} {k : Nat} {a : AV} {v : Value} (h : gvs ν al b as vs) (ha : gv ν al b a v) : gvs ν al b (as.set k a) (vs.set k v) := by
  induction as generalizing vs k with
  | nil => cases vs with
    | nil => exact h
    | cons => exact absurd h id
  | cons a0 as ih => cases vs with
    | nil => exact absurd h id
    | cons w vs =>
      cases k with
      | zero => exact ⟨ha, h.2⟩
      | succ k => exact ⟨h.1, ih h.2⟩
theorem gC_app {c : AC} {e : va_E} (m : List Nat) (h : gC ν al b cy c e) : gC ν (al ++ m) b cy c e := by
  rcases c with ⟨t, n, d, x⟩ | ⟨ci, fs⟩
  · rcases h with ⟨h0, f, h1, h2⟩ | ⟨h0, f, h1, h2⟩ | ⟨h0, f, h1, h2⟩
    · exact Or.inl ⟨h0, f, h1, fun j hj => gv_app m (h2 j hj)⟩
    · exact Or.inr (Or.inl ⟨h0, f, h1, fun j hj => gv_app m (h2 j hj)⟩)
    · exact Or.inr (Or.inr ⟨h0, f, h1, fun j hj => gv_app m (h2 j hj)⟩)
  · obtain ⟨vs, h1, h2⟩ := h
    exact ⟨vs, h1, gvs_app m h2⟩
theorem alw_at {i q : Nat} {e : va_E} (h : ws[i]? = some (q, e)) : (alw ws)[i]? = some q := by
  simp [alw, h]
theorem gW_at {i : Nat} {c : AC} (h : gW ν b cy C ws) (hi : C[i]? = some c) : ∃ (q : Nat) (e : va_E), ws[i]? = some (q, e) ∧ (alw ws)[i]? = some q ∧ gC ν (alw ws) b cy c e := by
  obtain ⟨q, e, h1, h2⟩ := h.2 i c hi
  exact ⟨q, e, h1, alw_at h1, h2⟩
theorem alw_set {i q : Nat} {e e1 : va_E} (h : ws[i]? = some (q, e)) : alw (ws.set i (q, e1)) = alw ws := by
  apply List.ext_getElem?
  intro k
  simp only [alw, List.getElem?_map, List.getElem?_set]
  by_cases hk : i = k
  · subst hk
    have hlt := (List.getElem?_eq_some_iff.mp h).1
    rw [if_pos rfl, if_pos hlt, h]
    rfl
  · rw [if_neg hk]
theorem gW_set {i q : Nat} {e e1 : va_E} {c : AC} (h : gW ν b cy C ws) (hi : ws[i]? = some (q, e)) (hc : gC ν (alw ws) b cy c e1) : gW ν b cy (C.set i c) (ws.set i (q, e1)) := by
  refine ⟨by simp [h.1], fun k c1 hk => ?_⟩
  rw [alw_set hi]
  rw [List.getElem?_set] at hk ⊢
  by_cases e9 : i = k
  · subst e9
    have hlt := (List.getElem?_eq_some_iff.mp hi).1
    rw [if_pos rfl, if_pos hlt]
    rw [if_pos rfl, if_pos (by rw [h.1]; exact hlt)] at hk
    cases hk
    exact ⟨q, e1, rfl, hc⟩
  · rw [if_neg e9] at hk ⊢
    exact h.2 k c1 hk
theorem gW_push {q : Nat} {e : va_E} {c : AC} (h : gW ν b cy C ws) (hc : gC ν (alw ws ++ [q]) b cy c e) : gW ν b cy (C ++ [c]) (ws ++ [(q, e)]) := by
  refine ⟨by simp [h.1], fun k c1 hk => ?_⟩
  have ea : alw (ws ++ [(q, e)]) = alw ws ++ [q] := by simp [alw]
  rw [ea]
  by_cases hlt : k < C.length
  · rw [List.getElem?_append_left hlt] at hk
    obtain ⟨q1, e1, h1, h2⟩ := h.2 k c1 hk
    exact ⟨q1, e1, by rw [List.getElem?_append_left (by rw [← h.1]; exact hlt)]; exact h1, gC_app _ h2⟩
  · have hk9 : k = C.length := by
      have := (List.getElem?_eq_some_iff.mp hk).1
      simp at this
      omega
    subst hk9
    rw [List.getElem?_append_right (Nat.le_refl _)] at hk
    simp at hk
    subst hk
    refine ⟨q, e, ?_, hc⟩
    rw [h.1, List.getElem?_append_right (Nat.le_refl _)]
    simp
theorem pw_at {pool ws : va_W} {i : Nat} {x : Nat × va_E} (h : ws[i]? = some x) : (pool ++ ws)[pool.length + i]? = some x := by
  rw [List.getElem?_append_right (by omega), Nat.add_sub_cancel_left]; exact h
theorem pw_set {pool ws : va_W} {i : Nat} {x : Nat × va_E} : (pool ++ ws).set (pool.length + i) x = pool ++ ws.set i x := by
  rw [List.set_append_right _ _ (by omega), Nat.add_sub_cancel_left]
theorem gv_ref {i q : Nat} {v : Value} (h : gv ν al b (aR i) v) (hq : al[i]? = some q) : v = .ref q := by
  obtain ⟨q', h1, rfl⟩ := h
  rw [hq] at h1
  cases h1
  rfl
/-- a number that is known, as a place in a row -/
theorem en_in {x : Int32} {k n : Nat} (h : x.toInt = (k : Int)) (hk : k < n) (hn : n < 2147483648) : vp_in x n ∧ x.toNatClampNeg = k := by
  have e : x = nI k := (fa_eq _ _).mpr (by rw [nI_toInt (by omega)]; exact h)
  subst e
  exact ⟨vp_in_nI hk (by omega), nI_clamp (by omega)⟩
end WORLD
