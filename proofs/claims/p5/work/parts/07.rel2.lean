section REL2
variable {ν : Nat → Int} {al : List Nat} {b : Nat} {E : EV}
theorem en_i8 {x : Int32} (h1 : -128 ≤ x.toInt) (h2 : x.toInt ≤ 127) : x.toInt8.toInt32 = x := fb_byte h1 (by omega)
theorem en_wide (x : Int32) : x.toInt64.toInt = x.toInt := by simp
theorem genv_set {k : Nat} {q : Int × Int} (hE : genv ν E) (h : q.1 ≤ ν k ∧ ν k ≤ q.2) : genv ν (E.set k q) := by
  intro j r hj
  rw [List.getElem?_set] at hj
  by_cases e : k = j
  · subst e
    rw [if_pos rfl] at hj
    split at hj
    · cases hj; exact h
    · cases hj
  · rw [if_neg e] at hj
    exact hE j r hj
theorem e_clamp_ok {a : AV} {x : Int32} {lo hi : Int} (hE : genv ν E) (ha : gv ν al b a (.int x)) (hk : ∃ q, e_iv E a = some q) (h1 : lo ≤ x.toInt) (h2 : x.toInt ≤ hi) : ∃ E1, e_clamp E a lo hi = some E1 ∧ genv ν E1 ∧ ∀ (c : AV) q, e_iv E c = some q → ∃ q', e_iv E1 c = some q' := by
  rcases a with ⟨l0, h0⟩ | ⟨k, c⟩ | ⟨l0, h0⟩ | (_ | i) | _
  · obtain ⟨x', e, g1, g2⟩ := ha
    cases e
    refine ⟨E, ?_, hE, fun c q hq => ⟨q, hq⟩⟩
    simp only [e_clamp]
    rw [if_pos]
    simp only [Bool.and_eq_true, decide_eq_true_eq]
    omega
  · obtain ⟨x', e, g1⟩ := ha
    cases e
    obtain ⟨q, hq⟩ := hk
    simp only [e_iv] at hq
    cases hkk : E[k]? with
    | none => rw [hkk] at hq; cases hq
    | some r =>
      obtain ⟨la, ha⟩ := r
      have w := hE k _ hkk
      simp only at w
      refine ⟨E.set k (max la (lo - c), min ha (hi - c)), ?_, genv_set hE ⟨by simp only; omega, by simp only; omega⟩, fun d q hq => ?_⟩
      · simp only [e_clamp, hkk]
        rw [if_pos]
        simp only [decide_eq_true_eq]
        omega
      · rcases d with ⟨l1, h1⟩ | ⟨k1, c1⟩ | ⟨l1, h1⟩ | (_ | i1) | _
        · exact ⟨_, rfl⟩
        · simp only [e_iv] at hq ⊢
          rw [List.getElem?_set]
          by_cases e9 : k = k1
          · subst e9
            have hlt := (List.getElem?_eq_some_iff.mp hkk).1
            rw [if_pos rfl, if_pos hlt]
            exact ⟨_, rfl⟩
          · rw [if_neg e9]
            exact ⟨q, hq⟩
        all_goals (simp only [e_iv] at hq; cases hq)
  all_goals (obtain ⟨q, hq⟩ := hk; simp only [e_iv] at hq; cases hq)
theorem e_clamp2_ok {a c : AV} {x y : Int32} {la ha lb hb : Int} (hE : genv ν E) (hx : gv ν al b a (.int x)) (hy : gv ν al b c (.int y)) (k1 : ∃ q, e_iv E a = some q) (k2 : ∃ q, e_iv E c = some q) (h1 : la ≤ x.toInt) (h2 : x.toInt ≤ ha) (h3 : lb ≤ y.toInt) (h4 : y.toInt ≤ hb) : ∃ E1, e_clamp2 E a la ha c lb hb = some E1 ∧ genv ν E1 := by
  obtain ⟨E1, e1, g1, w1⟩ := e_clamp_ok hE hx k1 h1 h2
  obtain ⟨q, hq⟩ := k2
  obtain ⟨E2, e2, g2, -⟩ := e_clamp_ok g1 hy (w1 _ _ hq) h3 h4
  exact ⟨E2, by simp only [e_clamp2, e1, e2], g2⟩
def e_holds (r : Nat) (x y : Int) : Prop := match r with
  | 0 => x = y
  | 1 => x ≠ y
  | 2 => x < y
  | _ => y ≤ x
theorem mem_toL {x : Option EV} {E1 : EV} (h : x = some E1) : E1 ∈ x.toList := by rw [h]; exact List.mem_cons_self
theorem e_rel_ok {a c : AV} {x y : Int32} {r : Nat} {o : List EV} (hE : genv ν E) (hx : gv ν al b a (.int x)) (hy : gv ν al b c (.int y)) (h : e_rel E r a c = some o) (hr : e_holds r x.toInt y.toInt) : ∃ E1, E1 ∈ o ∧ genv ν E1 := by
  unfold e_rel at h
  split at h
  · rename_i la ha1 lb hb1 e1 e2
    have p1 := gv_int2 hE hx e1
    have p2 := gv_int2 hE hy e2
    have r1 := fb_rng x
    have r2 := fb_rng y
    split at h
    · have hr : x.toInt = y.toInt := hr
      cases h
      obtain ⟨E1, g1, g2⟩ := e_clamp2_ok hE hx hy ⟨_, e1⟩ ⟨_, e2⟩ (show lb ≤ x.toInt by omega) (show x.toInt ≤ hb1 by omega) (show la ≤ y.toInt by omega) (show y.toInt ≤ ha1 by omega)
      exact ⟨E1, mem_toL g1, g2⟩
    · have hr : x.toInt ≠ y.toInt := hr
      split at h
      · rename_i q
        simp only [Bool.and_eq_true, decide_eq_true_eq] at q
        omega
      · split at h
        · split at h
          · rename_i k1 c1 k2 c2 q
            simp only [Bool.and_eq_true, decide_eq_true_eq] at q
            have := Nat.eq_of_beq_eq_true q.1
            subst this
            obtain ⟨x', ex, hx'⟩ := hx
            obtain ⟨y', ey, hy'⟩ := hy
            cases ex
            cases ey
            omega
          · cases h; exact ⟨E, List.mem_cons_self, hE⟩
        · split at h
          · rename_i q
            have q := of_decide_eq_true q
            cases h
            rcases (show x.toInt ≤ lb - 1 ∨ lb + 1 ≤ x.toInt by omega) with w | w
            · obtain ⟨E1, e1, g1, -⟩ := e_clamp_ok (lo := -2147483648) (hi := lb - 1) hE hx ⟨_, e1⟩ (by omega) (by omega)
              exact ⟨E1, List.mem_append_left _ (mem_toL e1), g1⟩
            · obtain ⟨E1, e1, g1, -⟩ := e_clamp_ok (lo := lb + 1) (hi := 2147483647) hE hx ⟨_, e1⟩ (by omega) (by omega)
              exact ⟨E1, List.mem_append_right _ (mem_toL e1), g1⟩
          · cases h; exact ⟨E, List.mem_cons_self, hE⟩
    · have hr : x.toInt < y.toInt := hr
      cases h
      obtain ⟨E1, g1, g2⟩ := e_clamp2_ok hE hx hy ⟨_, e1⟩ ⟨_, e2⟩ (show -2147483648 ≤ x.toInt by omega) (show x.toInt ≤ hb1 - 1 by omega) (show la + 1 ≤ y.toInt by omega) (show y.toInt ≤ 2147483647 by omega)
      exact ⟨E1, mem_toL g1, g2⟩
    · rename_i n0 n1 n2
      have hr : y.toInt ≤ x.toInt := by
        rcases r with _ | _ | _ | r
        · exact absurd rfl n0
        · exact absurd rfl n1
        · exact absurd rfl n2
        · exact hr
      cases h
      obtain ⟨E1, g1, g2⟩ := e_clamp2_ok hE hx hy ⟨_, e1⟩ ⟨_, e2⟩ (show lb ≤ x.toInt by omega) (show x.toInt ≤ 2147483647 by omega) (show -2147483648 ≤ y.toInt by omega) (show y.toInt ≤ ha1 by omega)
      exact ⟨E1, mem_toL g1, g2⟩
  · cases h
theorem e_get_put {d a : AV} {x : List (Nat × AV)} {j i : Nat} : e_get d (e_put d x j a) i = if i = j then a else e_get d x i := by
  have hf : ∀ x : List (Nat × AV), e_get d (x.filter (fun q => !(Nat.beq q.1 j))) i = if i = j then d else e_get d x i := by
    intro x
    induction x with
    | nil => simp [e_get]
    | cons q r ih =>
      obtain ⟨k, c⟩ := q
      rw [List.filter_cons]
      by_cases hk : Nat.beq k j = true
      · have hkj := Nat.eq_of_beq_eq_true hk
        simp only [hk, Bool.not_true, Bool.false_eq_true, if_false]
        rw [ih]
        by_cases hi : i = j
        · rw [if_pos hi, if_pos hi]
        · rw [if_neg hi, if_neg hi]
          simp only [e_get]
          rw [if_neg]
          intro h
          have := Nat.eq_of_beq_eq_true h
          omega
      · have hk' : Nat.beq k j = false := by
          cases hq : Nat.beq k j with
          | true => exact absurd hq hk
          | false => rfl
        simp only [hk', Bool.not_false, if_true]
        simp only [e_get]
        by_cases hki : Nat.beq k i = true
        · rw [if_pos hki, if_pos hki, if_neg]
          intro h
          have := Nat.eq_of_beq_eq_true hki
          rw [this, h] at hk
          exact hk (Nat.beq_refl j)
        · rw [if_neg hki, if_neg hki]
          exact ih
  unfold e_put
  split
  · rename_i h
    rw [hf, h]
  · simp only [e_get]
    by_cases hji : Nat.beq j i = true
    · have := Nat.eq_of_beq_eq_true hji
      rw [if_pos hji, if_pos this.symm]
    · rw [if_neg hji, hf, if_neg]
      · rw [if_neg]
        intro h
        rw [h] at hji
        exact hji (Nat.beq_refl j)
      · intro h
        rw [h] at hji
        exact hji (Nat.beq_refl j)
end REL2
