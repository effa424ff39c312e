/-! hooks of the class: its book, the bytes that were told -/
def f_sin (SF : List SFt) (id : Nat) (as : List BV) : Bool := SF.any (fun f => Nat.beq f.1 id && bvs_eq f.2 as)
def h_in (E : EB) (v : Option BV) (lo hi : Int) : Bool := match v with
  | some a => (match f_iv E a with | some (l, h) => decide (lo ≤ l) && decide (h ≤ hi) | none => false)
  | none => false
/-- the sorts of LINES: verb, actor, object -/
def h_cases : List (Int × Int × Int × Int × Int × Int) := [(11, 11, 0, 5, 0, 3), (12, 12, 0, 5, 0, 5), (13, 15, 0, 5, 0, 7), (16, 16, 0, 5, 0, 5), (17, 17, -1, 5, 1, 60)]
def hk_book0 : HKt := fun S => match S.2.2.2.1 with
  | (n, E, CF, SF) => some [(n, E, CF, (1, [bI 0]) :: SF)]
def hk_book1 : HKt := fun S => match S.2.2.2.1 with
  | (n, E, CF, SF) => (match f_cf CF 9 none (bI 4) with
    | some L => if (f_isI L && (f_sin SF 1 [f_off L (-1)] && h_cases.any (fun c => h_in E (f_cf CF 10 none (f_off L (-1))) c.1 c.2.1 && (h_in E (f_cf CF 11 none (f_off L (-1))) c.2.2.1 c.2.2.2.1 && h_in E (f_cf CF 12 none (f_off L (-1))) c.2.2.2.2.1 c.2.2.2.2.2)))) = true then some [(n, E, CF, (1, [L]) :: SF)] else some [(n, E, CF, SF)]
    | none => some [(n, E, CF, SF)])
def hk_row : HKt := fun S => match S.2.2.1, S.2.2.2.1 with
  | i :: _, (n, E, CF, SF) => (match f_iv E i with
    | some (l, _) => if (decide (0 ≤ l) && SF.any (fun f => match f.1, f.2 with | 1, [m] => g_leq E SF 6 (f_off i 1) m | _, _ => false)) = true then some [(n, E, CF, (2, [i, f_off i 1]) :: SF)] else some [(n, E, CF, SF)]
    | none => none)
  | _, _ => none
/-- line i: told apart by its verb -/
def hk_cases : HKt := fun S => match f_find S.2.1 2, S.2.2.2.1 with
  | some i, (n, E, CF, SF) => if (f_sin SF 2 [i, f_off i 1] && h_in E (some i) 0 39) = true then some (h_cases.map (fun c => (n + 3, (n + 2, c.2.2.2.2.1, c.2.2.2.2.2) :: (n + 1, c.2.2.1, c.2.2.2.1) :: (n, c.1, c.2.1) :: E, (10, none, i, bV n 0) :: (11, none, i, bV (n + 1) 0) :: (12, none, i, bV (n + 2) 0) :: CF, SF))) else some [(n, E, CF, SF)]
  | _, _ => none
/-- a cell told apart: two spans -/
def hk_two (κ k : Nat) (l1 h1 l2 h2 : Int) : HKt := fun S => match S.2.2.2.1 with
  | (n, E, CF, SF) => (match f_cf CF κ none (bI (k : Int)) with
    | some v => (match f_iv E v with
      | some (lo, hi) => if (decide (l1 ≤ lo) && (decide (hi ≤ h2) && decide (l2 = h1 + 1))) = true then some ((f_clamp E v l1 h1).toList.map (fun E1 => (n, E1, CF, SF)) ++ (f_clamp E v l2 h2).toList.map (fun E1 => (n, E1, CF, SF))) else none
      | none => none)
    | none => none)
section HK2
variable {T : TBt} {cy : Nat → ClassId} {I : IN} {ks : List Nat} {wp : va_W} {F : FS}
theorem f_off_m1 (a : BV) : f_off (f_off a (-1)) 1 = a := by
  rcases a with x | ⟨x, y⟩ | x
  · show Sum.inl (x + -1 + 1) = Sum.inl x
    rw [show x + -1 + 1 = x by omega]
  · show Sum.inr (Sum.inl (x, y + -1 + 1)) = Sum.inr (Sum.inl (x, y))
    rw [show y + -1 + 1 = y by omega]
  · rfl
theorem f_sin_ok {SF : List SFt} {id : Nat} {as : List BV} (h : f_sin SF id as = true) : (id, as) ∈ SF := by
  obtain ⟨⟨i, x⟩, m1, m2⟩ := List.any_eq_true.mp h
  simp only [Bool.and_eq_true] at m2
  rw [← Nat.eq_of_beq_eq_true m2.1, ← bvs_eq_ok m2.2]
  exact m1
theorem c_cu_one {κ i q z : Nat} {e : va_E} (hp : hpool T cy I.2.1 ks wp) (hu : κ < T.2.1) (hi : ks[i]? = some κ) (hw : wp[i]? = some (q, e)) : c_cu ks wp κ z = cval e z := by
  unfold c_cu
  rw [c_fi_of hi hw (fun i' hi' h1 => by have := hp.2.2.2.1 i' i κ hu h1 hi; omega)]
/-- what a fact of a cell says of the cell -/
theorem hcf_cint {κ : Nat} {p v : BV} {l h : Int} (hF : HS T FPX cy I ks wp F) (hm : (κ, none, p, v) ∈ F.2.2.1) (hiv : f_iv F.2.1 v = some (l, h)) : ∃ z : Nat, f_ev I.1 p = some (z : Int) ∧ l ≤ cint (c_cu ks wp) κ z ∧ cint (c_cu ks wp) κ z ≤ h := by
  obtain ⟨i, q, e, z, x, h1, h2, h3, h4, h5, h6⟩ := hF.2.2.1 _ hm
  simp only at h1 h3 h4 h6
  obtain ⟨y, rfl, g1, g2⟩ := hv_int hF.2.1 h6 hiv
  have e1 : cint (c_cu ks wp) κ z = y.toInt := by
    unfold cint
    rw [c_cu_one hF.1 h3 h1 h2, h5]
  exact ⟨z, h4, by rw [e1]; exact g1, by rw [e1]; exact g2⟩
theorem h_in_ok {κ : Nat} {p : BV} {lo hi : Int} {z : Nat} (hF : HS T FPX cy I ks wp F) (hz : f_ev I.1 p = some (z : Int)) (h : h_in F.2.1 (f_cf F.2.2.1 κ none p) lo hi = true) : lo ≤ cint (c_cu ks wp) κ z ∧ cint (c_cu ks wp) κ z ≤ hi := by
  cases hc : f_cf F.2.2.1 κ none p with
  | none => rw [hc] at h; cases h
  | some a =>
    rw [hc] at h
    simp only [h_in] at h
    split at h
    · rename_i l9 h9 hiv
      simp only [Bool.and_eq_true, decide_eq_true_eq] at h
      obtain ⟨z', g1, g2, g3⟩ := hcf_cint hF (f_cf_in hc) hiv
      rw [hz] at g1
      have : z = z' := by have := Option.some.inj g1; omega
      subst this
      exact ⟨by omega, by omega⟩
    · cases h
theorem rowOK_of {c : Int × Int × Int × Int × Int × Int} {v a o : Int} (h : c ∈ h_cases) (hv1 : c.1 ≤ v ∧ v ≤ c.2.1) (ha : c.2.2.1 ≤ a ∧ a ≤ c.2.2.2.1) (ho : c.2.2.2.2.1 ≤ o ∧ o ≤ c.2.2.2.2.2) : rowOK v a o := by
  unfold h_cases at h
  simp only [List.mem_cons, List.not_mem_nil, or_false] at h
  unfold rowOK
  rcases h with rfl | rfl | rfl | rfl | rfl <;> simp only at hv1 ha ho <;> omega
theorem rowOK_in {v a o : Int} (h : rowOK v a o) : ∃ c ∈ h_cases, (c.1 ≤ v ∧ v ≤ c.2.1) ∧ (c.2.2.1 ≤ a ∧ a ≤ c.2.2.2.1) ∧ c.2.2.2.2.1 ≤ o ∧ o ≤ c.2.2.2.2.2 := by
  unfold h_cases
  rcases h with h | h | h | h | h
  · exact ⟨(11, 11, 0, 5, 0, 3), by simp, by simp only; omega, by simp only; omega, by simp only; omega⟩
  · exact ⟨(12, 12, 0, 5, 0, 5), by simp, by simp only; omega, by simp only; omega, by simp only; omega⟩
  · exact ⟨(13, 15, 0, 5, 0, 7), by simp, by simp only; omega, by simp only; omega, by simp only; omega⟩
  · exact ⟨(16, 16, 0, 5, 0, 5), by simp, by simp only; omega, by simp only; omega, by simp only; omega⟩
  · exact ⟨(17, 17, -1, 5, 1, 60), by simp, by simp only; omega, by simp only; omega, by simp only; omega⟩
/-- a fact more -/
theorem HS.sf {f : SFt} {n : Nat} {E : EB} {CF : List CFt} {SF : List SFt} (h : HS T FPX cy I ks wp (n, E, CF, SF)) (hf : hsf FPX I (c_cu ks wp) f) : HS T FPX cy I ks wp (n, E, CF, f :: SF) := by
  refine ⟨h.1, h.2.1, h.2.2.1, fun g hg => ?_⟩
  rcases List.mem_cons.mp hg with rfl | hg
  · exact hf
  · exact h.2.2.2 g hg
theorem hk_book0_ok : HKP T FPX cy hk_book0 := by
  intro S L h I ks wp lv vs _ _ _ hF
  obtain ⟨pc, lo, st, ⟨n, E, CF, SF⟩, q⟩ := S
  unfold hk_book0 at h
  simp only at h hF
  cases h
  exact ⟨_, List.mem_cons_self, I, hxt.rf, rfl, hF.sf ⟨[0], rfl, 0, rfl, fun j hj => by omega⟩⟩
theorem hk_book1_ok : HKP T FPX cy hk_book1 := by
  intro S L h I ks wp lv vs _ _ _ hF
  obtain ⟨pc, lo, st, ⟨n, E, CF, SF⟩, q⟩ := S
  unfold hk_book1 at h
  simp only at h hF
  have same : ∃ F ∈ [((n, E, CF, SF) : FS)], ∃ J : IN, hxt I J ∧ J.2 = I.2 ∧ HS T FPX cy J ks wp F := ⟨_, List.mem_cons_self, I, hxt.rf, rfl, hF⟩
  split at h
  · rename_i L9 hL
    split at h
    · rename_i q
      simp only [Bool.and_eq_true] at q
      obtain ⟨q0, q1, q2⟩ := q
      obtain ⟨c, c1, c2⟩ := List.any_eq_true.mp q2
      simp only [Bool.and_eq_true] at c2
      obtain ⟨c3, c4, c5⟩ := c2
      cases h
      obtain ⟨zs, z1, z2⟩ := hF.2.2.2 _ (f_sin_ok q1)
      obtain ⟨m, rfl, hm⟩ := z2
      simp only [f_evs] at z1
      split at z1
      · rename_i w ws w1 w2
        cases w2
        simp only [Option.some.injEq, List.cons.injEq, and_true] at z1
        subst z1
        have e1 : f_ev I.1 L9 = some (w + 1) := by
          have := ev_off (d := 1) w1
          rw [f_off_m1] at this
          exact this
        -- the place is not below 0
        have hc10 : ∃ a, f_cf CF 10 none (f_off L9 (-1)) = some a := by
          cases hc : f_cf CF 10 none (f_off L9 (-1)) with
          | none => rw [hc] at c3; cases c3
          | some a => exact ⟨a, rfl⟩
        obtain ⟨a, ha⟩ := hc10
        obtain ⟨i, q9, e9, z, x, k1, k2, k3, k4, k5, k6⟩ := hF.2.2.1 _ (f_cf_in ha)
        simp only at k4
        rw [w1] at k4
        have ez : w = (z : Int) := Option.some.inj k4
        subst ez
        refine ⟨_, List.mem_cons_self, I, hxt.rf, rfl, hF.sf ⟨[(z : Int) + 1], by simp only [f_evs, e1], (z : Int) + 1, rfl, fun j hj => ?_⟩⟩
        rcases (show (j : Int) < (z : Int) ∨ j = z by omega) with hj | hj
        · exact hm j hj
        · subst hj
          exact rowOK_of c1 (h_in_ok (F := (n, E, CF, SF)) hF w1 c3) (h_in_ok (F := (n, E, CF, SF)) hF w1 c4) (h_in_ok (F := (n, E, CF, SF)) hF w1 c5)
      · cases z1
    · cases h
      exact same
  · cases h
    exact same
theorem hk_row_ok : HKP T FPX cy hk_row := by
  intro S L h I ks wp lv vs _ _ hst hF
  obtain ⟨pc, lo, st, ⟨n, E, CF, SF⟩, q⟩ := S
  cases st with
  | nil => unfold hk_row at h; simp only at h; cases h
  | cons i st' =>
    unfold hk_row at h
    simp only at h hF hst
    split at h
    · rename_i l h9 hiv
      split at h
      · rename_i q
        simp only [Bool.and_eq_true, decide_eq_true_eq] at q
        cases h
        obtain ⟨v, vs', rfl, g1, g2⟩ := hvs_cons hst
        obtain ⟨y, rfl, i1, i2⟩ := hv_int hF.2.1 g1 hiv
        obtain ⟨⟨id, as⟩, m1, m2⟩ := List.any_eq_true.mp q.2
        simp only at m2
        split at m2
        · rename_i m
          obtain ⟨zs, z1, z2⟩ := hF.2.2.2 _ m1
          obtain ⟨mv, rfl, hm⟩ := z2
          simp only [f_evs] at z1
          split at z1
          · rename_i w ws w1 w2
            cases w2
            simp only [Option.some.injEq, List.cons.injEq, and_true] at z1
            subst z1
            have hy := hv_ev g1
            have := g_leq_ok FPX0 hF.2.1 hF.2.2.2 6 m2 (ev_off hy) w1
            have ey : y.toInt = (y.toInt.toNat : Int) := by omega
            refine ⟨_, List.mem_cons_self, I, hxt.rf, rfl, hF.sf ⟨[y.toInt, y.toInt + 1], by simp only [f_evs, hy, ev_off hy], y.toInt.toNat, by rw [← ey], hm _ (by omega)⟩⟩
          · cases z1
        · cases m2
      · cases h
        exact ⟨_, List.mem_cons_self, I, hxt.rf, rfl, hF⟩
    · cases h
end HK2
