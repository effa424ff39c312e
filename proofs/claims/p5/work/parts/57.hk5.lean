/-! hooks of the reference: numbers told apart, products, first facts -/
/-- a number told apart, value by value -/
def h_spl (F : FS) (v : BV) : Nat → Int → List FS
  | 0, _ => []
  | c + 1, x => (match f_clamp F.2.1 v x x with
    | some E1 => (F.1, E1, F.2.2.1, F.2.2.2) :: h_spl F v c (x + 1)
    | none => h_spl F v c (x + 1))
def h_split (F : FS) (v : BV) : Option (List FS) := match f_iv F.2.1 v with
  | some (l, h) => if decide (h - l ≤ 40) = true then some (h_spl F v (h - l + 1).toNat l) else some [F]
  | none => none
/-- of a cell; of a local -/
def hk_spc (κ k : Nat) : HKt := fun S => match f_cf S.2.2.2.1.2.2.1 κ none (bI (k : Int)) with
  | some v => if f_isI v = true then h_split S.2.2.2.1 v else none
  | none => none
def hk_spv (li : Nat) : HKt := fun S => match f_find S.2.1 li with
  | some v => h_split S.2.2.2.1 v
  | none => none
/-- products lie where they must -/
def h_mul (E : EB) (SF : List SFt) : Option EB := match SF with
  | [] => some E
  | f :: r => (match f.1, f.2 with
    | 23, [.inl m, a, z] => (match f_iv E a, f_iv E z with
      | some (l, h), some _ => if (decide (0 < m) && (decide (m < 100) && (decide (0 ≤ l) && decide (h ≤ 1000000)))) = true then (match f_clamp E z (m * l) (m * h) with
        | some E1 => h_mul E1 r
        | none => none) else h_mul E r
      | _, _ => h_mul E r)
    | _, _ => h_mul E r)
def hk_mul : HKt := fun S => match S.2.2.2.1 with
  | (n, E, CF, SF) => (match h_mul E SF with
    | some E1 => some [(n, E1, CF, SF)]
    | none => some [])
/-- 4 * (k + 1) is 4 * k + 4 -/
def h_mulk (k : BV) (L : List SFt) : Option BV := match L with
  | [] => none
  | f :: r => (match f.1, f.2 with
    | 23, [.inl m, a, z] => if (decide (m = 4) && bv_eq a (f_off k (-1))) = true then some z else h_mulk k r
    | _, _ => h_mulk k r)
def hk_mul1 (κ c : Nat) : HKt := fun S => match S.2.2.2.1 with
  | (n, E, CF, SF) => (match f_cf CF κ none (bI (c : Int)) with
    | some k => (match h_mulk k SF with
      | some z => if (f_isI k && (f_isI z && h_in E (some k) 1 1000000)) = true then some [(n, E, CF, (23, [bI 4, k, f_off z 4]) :: SF)] else some [(n, E, CF, SF)]
      | none => some [(n, E, CF, SF)])
    | none => some [(n, E, CF, SF)])
/-- facts of nothing, always so -/
def hk_add (L : List SFt) : HKt := fun S => match S.2.2.2.1 with
  | (n, E, CF, SF) => some [(n, E, CF, L ++ SF)]
def fs_rd0 : List SFt := [(60, [bI 0, bI 0]), (23, [bI 4, bI 0, bI 0])]
def fs_s0 : List SFt := [(70, [bI 0, bI 0, bI 0]), (23, [bI 3, bI 0, bI 0]), (71, [bI 0, bI 0]), (72, [bI 0, bI 0, bI 0, bI 0])]
def fs_cp0 : List SFt := [(75, [bI 0, bI 89])]
def fs_rpn0 : List SFt := [(73, [bI 0, bI 0])]
section HK5
variable {T : TBt} {cy : Nat → ClassId} {I : IN} {ks : List Nat} {wp : va_W} {F : FS}
theorem h_spl_ok {v : BV} {z : Int} (hF : HS T FPX cy I ks wp F) (hz : f_ev I.1 v = some z) (hk : ∃ q, f_iv F.2.1 v = some q) : ∀ (c : Nat) (x : Int), x ≤ z → z < x + c → ∃ F' ∈ h_spl F v c x, HS T FPX cy I ks wp F' := by
  intro c
  induction c with
  | zero => intro x h1 h2; omega
  | succ c ih =>
    intro x h1 h2
    simp only [h_spl]
    by_cases hx : x = z
    · subst hx
      obtain ⟨E1, e1, e2, -⟩ := f_clamp_ev (lo := x) (hi := x) hF.2.1 hz hk (by omega) (by omega)
      rw [e1]
      exact ⟨_, List.mem_cons_self, hF.1, e2, hF.2.2.1, hF.2.2.2⟩
    · obtain ⟨F', m1, m2⟩ := ih (x + 1) (by omega) (by omega)
      refine ⟨F', ?_, m2⟩
      split
      · exact List.mem_cons_of_mem _ m1
      · exact m1
theorem h_split_ok {v : BV} {z : Int} {L : List FS} (hF : HS T FPX cy I ks wp F) (hz : f_ev I.1 v = some z) (h : h_split F v = some L) : ∃ F' ∈ L, ∃ J : IN, hxt I J ∧ J.2 = I.2 ∧ HS T FPX cy J ks wp F' := by
  unfold h_split at h
  split at h
  · rename_i l h9 hiv
    have w := ev_iv hF.2.1 hz hiv
    split at h
    · cases h
      obtain ⟨F', m1, m2⟩ := h_spl_ok hF hz ⟨_, hiv⟩ (h9 - l + 1).toNat l w.1 (by omega)
      exact ⟨F', m1, I, hxt.rf, rfl, m2⟩
    · cases h
      exact ⟨_, List.mem_cons_self, I, hxt.rf, rfl, hF⟩
  · cases h
theorem hk_spc_ok {κ k : Nat} : HKP T FPX cy (hk_spc κ k) := by
  intro S L h I ks wp lv vs _ _ _ hF
  unfold hk_spc at h
  split at h
  · rename_i v hv9
    split at h
    · rename_i q1
      obtain ⟨i, q9, e, z, x, g1, g2, g3, g4, g5, g6⟩ := hF.2.2.1 _ (f_cf_in hv9)
      simp only at g6
      obtain ⟨y, rfl, hy⟩ := (hv_ev_iff q1).mp g6
      exact h_split_ok hF hy h
    · cases h
  · cases h
theorem hk_spv_ok {li : Nat} : HKP T FPX cy (hk_spv li) := by
  intro S L h I ks wp lv vs _ hlo _ hF
  unfold hk_spv at h
  split at h
  · rename_i v hv9
    obtain ⟨k9, x, e1, g1⟩ := f_find_ok hlo hv9
    cases hiv : f_iv S.2.2.2.1.2.1 v with
    | none => unfold h_split at h; rw [hiv] at h; cases h
    | some q =>
      obtain ⟨y, rfl, -, -⟩ := hv_int (lo := q.1) (hi := q.2) hF.2.1 g1 hiv
      exact h_split_ok hF (hv_ev g1) h
  · cases h
/-- a fact of three arguments -/
theorem sf_mul {cu : CUt} {m : Int} {a z : BV} (h : hsf FPX I cu (23, [.inl m, a, z])) : ∃ x y : Int32, x.toInt = m ∧ f_ev I.1 a = some y.toInt ∧ f_ev I.1 z = some (x * y).toInt := by
  obtain ⟨zs, z1, x, y, rfl⟩ := h
  simp only [f_evs] at z1
  split at z1
  · rename_i w ws w1 w2
    split at w2
    · rename_i w' ws' w3 w4
      split at w4
      · rename_i w5 ws5 w6 w7
        cases w7
        cases w4
        cases w2
        simp only [Option.some.injEq, List.cons.injEq, and_true] at z1
        obtain ⟨rfl, rfl, rfl⟩ := z1
        exact ⟨x, y, (Option.some.inj w1).symm, w3, w6⟩
      · cases w4
    · cases w2
  · cases z1
theorem mul_in {x y : Int32} {m l h : Int} (hm : x.toInt = m) (m1 : 0 < m) (m2 : m < 100) (h1 : 0 ≤ l) (h2 : h ≤ 1000000) (hl : l ≤ y.toInt) (hh : y.toInt ≤ h) : (x * y).toInt = m * y.toInt ∧ m * l ≤ m * y.toInt ∧ m * y.toInt ≤ m * h := by
  have e1 : m * l ≤ m * y.toInt := Int.mul_le_mul_of_nonneg_left hl (by omega)
  have e2 : m * y.toInt ≤ m * h := Int.mul_le_mul_of_nonneg_left hh (by omega)
  have e3 : 0 ≤ m * y.toInt := Int.mul_nonneg (by omega) (by omega)
  have e4 : m * y.toInt ≤ 100 * 1000000 := Int.mul_le_mul (by omega) (by omega) (by omega) (by omega)
  refine ⟨?_, e1, e2⟩
  rw [Int32.toInt_mul, hm]
  exact fb_bmod (by omega) (by omega)
theorem h_mul_ok {n : Nat} {cu : CUt} : ∀ (SF : List SFt) (E : EB), henv I.1 n E → (∀ f ∈ SF, hsf FPX I cu f) → ∃ E1, h_mul E SF = some E1 ∧ henv I.1 n E1 := by
  intro SF
  induction SF with
  | nil => intro E hE _; exact ⟨E, rfl, hE⟩
  | cons f r ih =>
    obtain ⟨id, as⟩ := f
    intro E hE hS
    have hr : ∀ f ∈ r, hsf FPX I cu f := fun f hf => hS f (List.mem_cons_of_mem _ hf)
    unfold h_mul
    simp only
    split
    · rename_i m a z
      split
      · rename_i l h q hl hz
        split
        · rename_i q9
          simp only [Bool.and_eq_true, decide_eq_true_eq] at q9
          obtain ⟨x, y, g1, g2, g3⟩ := sf_mul (hS _ List.mem_cons_self)
          have w := ev_iv hE g2 hl
          obtain ⟨b1, b2, b3⟩ := mul_in g1 q9.1 q9.2.1 q9.2.2.1 q9.2.2.2 w.1 w.2
          obtain ⟨E1, e1, e2, -⟩ := f_clamp_ev (lo := m * l) (hi := m * h) hE g3 ⟨_, hz⟩ (by omega) (by omega)
          rw [e1]
          exact ih E1 e2 hr
        · exact ih E hE hr
      · exact ih E hE hr
    · exact ih E hE hr
theorem hk_mul_ok : HKP T FPX cy hk_mul := by
  intro S L h I ks wp lv vs _ _ _ hF
  obtain ⟨pc, lo, st, ⟨n, E, CF, SF⟩, q⟩ := S
  unfold hk_mul at h
  simp only at h hF
  obtain ⟨E1, e1, e2⟩ := h_mul_ok SF E hF.2.1 hF.2.2.2
  rw [e1] at h
  cases h
  exact ⟨_, List.mem_cons_self, I, hxt.rf, rfl, hF.1, e2, hF.2.2.1, hF.2.2.2⟩
theorem h_mulk_ok {k z : BV} : ∀ {L : List SFt}, h_mulk k L = some z → (23, [.inl 4, f_off k (-1), z]) ∈ L := by
  intro L
  induction L with
  | nil => intro h; cases h
  | cons f r ih =>
    obtain ⟨id, as⟩ := f
    intro h
    unfold h_mulk at h
    simp only at h
    split at h
    · rename_i m a z9
      split at h
      · rename_i q
        simp only [Bool.and_eq_true, decide_eq_true_eq] at q
        cases h
        rw [← bv_eq_ok q.2, q.1]
        exact List.mem_cons_self
      · exact List.mem_cons_of_mem _ (ih h)
    · exact List.mem_cons_of_mem _ (ih h)
theorem hk_mul1_ok {κ c : Nat} : HKP T FPX cy (hk_mul1 κ c) := by
  intro S L h I ks wp lv vs _ _ _ hF
  obtain ⟨pc, lo, st, ⟨n, E, CF, SF⟩, q⟩ := S
  unfold hk_mul1 at h
  simp only at h hF
  have same : ∃ F ∈ [((n, E, CF, SF) : FS)], ∃ J : IN, hxt I J ∧ J.2 = I.2 ∧ HS T FPX cy J ks wp F := ⟨_, List.mem_cons_self, I, hxt.rf, rfl, hF⟩
  split at h
  · rename_i k hk
    split at h
    · rename_i z hz
      split at h
      · rename_i q
        simp only [Bool.and_eq_true] at q
        obtain ⟨q1, -, q3⟩ := q
        cases h
        simp only [h_in] at q3
        split at q3
        · rename_i l h9 hiv
          simp only [Bool.and_eq_true, decide_eq_true_eq] at q3
          obtain ⟨i, q9, e, z', x, g1, g2, g3, g4, g5, g6⟩ := hF.2.2.1 _ (f_cf_in hk)
          simp only at g6
          obtain ⟨y, rfl, hy⟩ := (hv_ev_iff q1).mp g6
          have wy := ev_iv hF.2.1 hy hiv
          obtain ⟨a, b, a1, a2, a3⟩ := sf_mul (hF.2.2.2 _ (h_mulk_ok hz))
          rw [ev_off hy] at a2
          have a4 := Option.some.inj a2
          obtain ⟨b1, -, -⟩ := mul_in (y := b) (l := 0) (h := 1000000) a1 (by omega) (by omega) (by omega) (by omega) (by omega) (by omega)
          obtain ⟨c1, -, -⟩ := mul_in (y := y) (l := 0) (h := 1000000) a1 (by omega) (by omega) (by omega) (by omega) (by omega) (by omega)
          refine ⟨_, List.mem_cons_self, I, hxt.rf, rfl, hF.sf ⟨[4, y.toInt, (a * b).toInt + 4], ?_, a, y, ?_⟩⟩
          · simp only [f_evs, hy, ev_off a3]; rfl
          · show _ = [a.toInt, y.toInt, (a * y).toInt]
            rw [a1, b1, c1, show 4 * b.toInt + 4 = 4 * y.toInt by omega]
        · cases q3
      · cases h; exact same
    · cases h; exact same
  · cases h; exact same
theorem hk_add_ok {L0 : List SFt} (h0 : ∀ (I : IN) (cu : CUt), ∀ f ∈ L0, hsf FPX I cu f) : HKP T FPX cy (hk_add L0) := by
  intro S L h I ks wp lv vs _ _ _ hF
  obtain ⟨pc, lo, st, ⟨n, E, CF, SF⟩, q⟩ := S
  unfold hk_add at h
  simp only at h hF
  cases h
  refine ⟨_, List.mem_cons_self, I, hxt.rf, rfl, hF.1, hF.2.1, hF.2.2.1, fun f hf => ?_⟩
  rcases List.mem_append.mp hf with hf | hf
  · exact h0 I _ f hf
  · exact hF.2.2.2 f hf
theorem fs_rd0_ok (I : IN) (cu : CUt) : ∀ f ∈ fs_rd0, hsf FPX I cu f := by
  intro f hf
  simp only [fs_rd0, List.mem_cons, List.not_mem_nil, or_false] at hf
  rcases hf with rfl | rfl
  · exact ⟨[0, 0], rfl, 0, rfl, fun j hj => by omega⟩
  · exact ⟨[4, 0, 0], rfl, 4, 0, rfl⟩
theorem fs_s0_ok (I : IN) (cu : CUt) : ∀ f ∈ fs_s0, hsf FPX I cu f := by
  intro f hf
  simp only [fs_s0, List.mem_cons, List.not_mem_nil, or_false] at hf
  rcases hf with rfl | rfl | rfl | rfl
  · exact ⟨[0, 0, 0], rfl, 0, 0, rfl, rfl⟩
  · exact ⟨[3, 0, 0], rfl, 3, 0, rfl⟩
  · exact ⟨[0, 0], rfl, 0, rfl⟩
  · exact ⟨[0, 0, 0, 0], rfl, 0, 0, 0, 0, rfl, by omega⟩
theorem fs_cp0_ok (I : IN) (cu : CUt) : ∀ f ∈ fs_cp0, hsf FPX I cu f := by
  intro f hf
  simp only [fs_cp0, List.mem_cons, List.not_mem_nil, or_false] at hf
  subst hf
  exact ⟨[0, 89], rfl, 0, rfl, fun j hj => by omega⟩
theorem fs_rpn0_ok (I : IN) (cu : CUt) : ∀ f ∈ fs_rpn0, hsf FPX I cu f := by
  intro f hf
  simp only [fs_rpn0, List.mem_cons, List.not_mem_nil, or_false] at hf
  subst hf
  exact ⟨[0, 0], rfl, 0, 0, rfl, by omega, rfl⟩
end HK5
