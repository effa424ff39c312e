/-! hooks of the reference: draws, rows of its book -/
/-- persons above nought: places above nought -/
def hk_pl (T : TBt) : HKt := fun S => match S.2.2.2.1 with
  | (n, E, CF, SF) => if (f_sin SF 30 [] && h_in E (f_cf CF 27 none (bI 3)) 1 100) = true then (match h_peek1 T 27 0 (n, E, CF, SF) with
    | some F' => (match f_cf F'.2.2.1 27 none (bI 0) with
      | some v => (match f_iv F'.2.1 v with
        | some (_, h) => (match f_clamp F'.2.1 v 1 h with
          | some E1 => some [(F'.1, E1, F'.2.2.1, F'.2.2.2)]
          | none => some [])
        | none => none)
      | none => none)
    | none => none) else some [(n, E, CF, SF)]
/-- what a person carries, asked twice -/
def h_cbq (E : EB) (q r : BV) (L : List SFt) : Option EB := match L with
  | [] => some E
  | g :: s => (match g.1, g.2 with
    | 44, [q', v] => if bv_eq q' q = true then (match f_iv E v, f_iv E r with
      | some (a, b), some _ => (match f_clamp E r a b with
        | some E1 => h_cbq E1 q r s
        | none => none)
      | _, _ => h_cbq E q r s) else h_cbq E q r s
    | _, _ => h_cbq E q r s)
def h_cb (E : EB) (SF : List SFt) (r : BV) (L : List SFt) : Option EB := match L with
  | [] => some E
  | f :: s => (match f.1, f.2 with
    | 44, [q, r'] => if bv_eq r' r = true then (match h_cbq E q r SF with
      | some E1 => h_cb E1 SF r s
      | none => none) else h_cb E SF r s
    | _, _ => h_cb E SF r s)
def hk_cb : HKt := fun S => match S.2.2.1, S.2.2.2.1 with
  | r :: _, (n, E, CF, SF) => (match h_cb E SF r SF with
    | some E1 => some [(n, E1, CF, SF)]
    | none => some [])
  | _, _ => none
/-- a row more of what was read: its sorts -/
def h_rc : List (Int × Int × Int × Int × Int × Int) := [(0, 0, 0, 5, 0, 3), (1, 1, 0, 5, 0, 5), (2, 4, 0, 5, 0, 7), (5, 5, 0, 5, 0, 5)]
def h_rdk (k : BV) (L : List SFt) : Option BV := match L with
  | [] => none
  | f :: r => (match f.1, f.2 with
    | 60, [a, z] => if bv_eq a k = true then some z else h_rdk k r
    | _, _ => h_rdk k r)
def hk_rd1 (κ c : Nat) : HKt := fun S => match S.2.2.2.1 with
  | (n, E, CF, SF) => (match f_cf CF κ none (bI (c : Int)) with
    | some k => (match h_rdk k SF with
      | some z => if ((h_in E (f_cf CF 29 none z) 6 6 && h_in E (f_cf CF 29 none (f_off z 1)) 1 60) || h_rc.any (fun c => h_in E (f_cf CF 29 none z) c.1 c.2.1 && (h_in E (f_cf CF 29 none (f_off z 1)) c.2.2.1 c.2.2.2.1 && h_in E (f_cf CF 29 none (f_off z 2)) c.2.2.2.2.1 c.2.2.2.2.2))) = true then some [(n, E, CF, (60, [f_off k 1, f_off z 4]) :: SF)] else some [(n, E, CF, SF)]
      | none => some [(n, E, CF, SF)])
    | none => some [(n, E, CF, SF)])
section HK6
variable {T : TBt} {cy : Nat → ClassId} {I : IN} {ks : List Nat} {wp : va_W} {F : FS}
/-- a fact of two -/
theorem evs_two {ν : List Int} {a b : BV} {x y : Int} (h : f_evs ν [a, b] = some [x, y]) : f_ev ν a = some x ∧ f_ev ν b = some y := by
  simp only [f_evs] at h
  split at h
  · rename_i w ws w1 w2
    split at w2
    · rename_i w' ws' w3 w4
      cases w4
      cases w2
      simp only [Option.some.injEq, List.cons.injEq, and_true] at h
      obtain ⟨rfl, rfl⟩ := h
      exact ⟨w1, w3⟩
    · cases w2
  · cases h
theorem hk_pl_ok : HKP T FPX cy (hk_pl T) := by
  intro S L h I ks wp lv vs hD _ _ hF
  obtain ⟨pc, lo, st, ⟨n, E, CF, SF⟩, q⟩ := S
  unfold hk_pl at h
  simp only at h hF
  split at h
  · rename_i q
    simp only [Bool.and_eq_true] at q
    obtain ⟨zs, -, -, z2⟩ := hF.2.2.2 _ (f_sin_ok q.1)
    have h3 := h_in_ok (z := 3) hF rfl q.2
    have h0 : 1 ≤ cint (c_cu ks wp) 27 0 := by omega
    split at h
    · rename_i F' hp
      obtain ⟨J, j1, j2, hF'⟩ := h_peek1_ok hD hF hp
      split at h
      · rename_i v hv9
        split at h
        · rename_i l h9 hiv
          obtain ⟨i, q9, e, z, x, g1, g2, g3, g4, g5, g6⟩ := hF'.2.2.1 _ (f_cf_in hv9)
          simp only at g1 g3 g4 g6
          obtain ⟨y, rfl, y1, y2⟩ := hv_int hF'.2.1 g6 hiv
          have hz : z = 0 := by
            have : (0 : Int) = (z : Int) := Option.some.inj g4
            omega
          subst hz
          have e1 : cint (c_cu ks wp) 27 0 = y.toInt := by
            unfold cint
            rw [c_cu_one hF'.1 g3 g1 g2, g5]
          obtain ⟨E1, e2, e3, -⟩ := f_clamp_ev (lo := 1) (hi := h9) hF'.2.1 (hv_ev g6) ⟨_, hiv⟩ (by omega) y2
          rw [e2] at h
          cases h
          exact ⟨_, List.mem_cons_self, J, j1, j2, hF'.1, e3, hF'.2.2.1, hF'.2.2.2⟩
        · cases h
      · cases h
    · cases h
  · cases h
    exact ⟨_, List.mem_cons_self, I, hxt.rf, rfl, hF⟩
theorem sf_cb {cu : CUt} {q v : BV} (h : hsf FPX I cu (44, [q, v])) : ∃ x, f_ev I.1 q = some x ∧ f_ev I.1 v = some (cbP (cint cu 27) x (cint cu 27 2).toNat : Int) := by
  obtain ⟨zs, z1, x, rfl, -⟩ := h
  exact ⟨x, evs_two z1⟩
theorem h_cbq_ok {n : Nat} {cu : CUt} {q r : BV} {x : Int} (hq : f_ev I.1 q = some x) (hr9 : f_ev I.1 r = some (cbP (cint cu 27) x (cint cu 27 2).toNat : Int)) : ∀ (L : List SFt) (E : EB), henv I.1 n E → (∀ f ∈ L, hsf FPX I cu f) → ∃ E1, h_cbq E q r L = some E1 ∧ henv I.1 n E1 := by
  intro L
  induction L with
  | nil => intro E hE _; exact ⟨E, rfl, hE⟩
  | cons f s ih =>
    obtain ⟨id, as⟩ := f
    intro E hE hS
    have hr : ∀ f ∈ s, hsf FPX I cu f := fun f hf => hS f (List.mem_cons_of_mem _ hf)
    unfold h_cbq
    simp only
    split
    · rename_i q' v
      split
      · rename_i e0
        split
        · rename_i a b q0 hv9 hrv
          obtain ⟨x', g1, g2⟩ := sf_cb (hS _ List.mem_cons_self)
          rw [bv_eq_ok e0, hq] at g1
          cases g1
          have w := ev_iv hE g2 hv9
          obtain ⟨E1, e1, e2, -⟩ := f_clamp_ev (lo := a) (hi := b) hE hr9 ⟨_, hrv⟩ w.1 w.2
          rw [e1]
          exact ih E1 e2 hr
        · exact ih E hE hr
      · exact ih E hE hr
    · exact ih E hE hr
theorem h_cb_ok {n : Nat} {cu : CUt} {r : BV} {SF : List SFt} (hSF : ∀ f ∈ SF, hsf FPX I cu f) : ∀ (L : List SFt) (E : EB), henv I.1 n E → (∀ f ∈ L, hsf FPX I cu f) → ∃ E1, h_cb E SF r L = some E1 ∧ henv I.1 n E1 := by
  intro L
  induction L with
  | nil => intro E hE _; exact ⟨E, rfl, hE⟩
  | cons f s ih =>
    obtain ⟨id, as⟩ := f
    intro E hE hS
    have hr : ∀ f ∈ s, hsf FPX I cu f := fun f hf => hS f (List.mem_cons_of_mem _ hf)
    unfold h_cb
    simp only
    split
    · rename_i q r'
      split
      · rename_i e0
        obtain ⟨x', g1, g2⟩ := sf_cb (hS _ List.mem_cons_self)
        rw [bv_eq_ok e0] at g2
        obtain ⟨E1, e1, e2⟩ := h_cbq_ok g1 g2 SF E hE hSF
        rw [e1]
        exact ih E1 e2 hr
      · exact ih E hE hr
    · exact ih E hE hr
theorem hk_cb_ok : HKP T FPX cy hk_cb := by
  intro S L h I ks wp lv vs _ _ _ hF
  obtain ⟨pc, lo, st, ⟨n, E, CF, SF⟩, q⟩ := S
  unfold hk_cb at h
  simp only at h hF
  split at h
  · rename_i r t n9 E9 CF9 SF9 heq _ _
    cases heq
    obtain ⟨E1, e1, e2⟩ := h_cb_ok (r := r) hF.2.2.2 SF E hF.2.1 hF.2.2.2
    rw [e1] at h
    cases h
    exact ⟨_, List.mem_cons_self, I, hxt.rf, rfl, hF.1, e2, hF.2.2.1, hF.2.2.2⟩
  · cases h
theorem h_rdk_ok {k z : BV} : ∀ {L : List SFt}, h_rdk k L = some z → (60, [k, z]) ∈ L := by
  intro L
  induction L with
  | nil => intro h; cases h
  | cons f r ih =>
    obtain ⟨id, as⟩ := f
    intro h
    unfold h_rdk at h
    simp only at h
    split at h
    · rename_i a z9
      split at h
      · rename_i q
        cases h
        rw [← bv_eq_ok q]
        exact List.mem_cons_self
      · exact List.mem_cons_of_mem _ (ih h)
    · exact List.mem_cons_of_mem _ (ih h)
theorem rdOK_of {c : Int × Int × Int × Int × Int × Int} {v a o : Int} (h : c ∈ h_rc) (hv1 : c.1 ≤ v ∧ v ≤ c.2.1) (ha : c.2.2.1 ≤ a ∧ a ≤ c.2.2.2.1) (ho : c.2.2.2.2.1 ≤ o ∧ o ≤ c.2.2.2.2.2) : rdOK v a o := by
  unfold h_rc at h
  simp only [List.mem_cons, List.not_mem_nil, or_false] at h
  unfold rdOK
  rcases h with rfl | rfl | rfl | rfl <;> simp only at hv1 ha ho <;> omega
theorem hk_rd1_ok {κ c : Nat} : HKP T FPX cy (hk_rd1 κ c) := by
  intro S L h I ks wp lv vs _ _ _ hF
  obtain ⟨pc, lo, st, ⟨n, E, CF, SF⟩, q⟩ := S
  unfold hk_rd1 at h
  simp only at h hF
  have same : ∃ F ∈ [((n, E, CF, SF) : FS)], ∃ J : IN, hxt I J ∧ J.2 = I.2 ∧ HS T FPX cy J ks wp F := ⟨_, List.mem_cons_self, I, hxt.rf, rfl, hF⟩
  split at h
  · rename_i k hk
    split at h
    · rename_i z hz
      split at h
      · rename_i q
        cases h
        obtain ⟨zs, z1, y, rfl, hrow⟩ := hF.2.2.2 _ (h_rdk_ok hz)
        obtain ⟨k1, k2⟩ := evs_two z1
        have p0 : f_ev I.1 z = some ((4 * y : Nat) : Int) := by rw [k2]; congr 1
        have p1 : f_ev I.1 (f_off z 1) = some ((4 * y + 1 : Nat) : Int) := by rw [ev_off k2]; congr 1
        have p2 : f_ev I.1 (f_off z 2) = some ((4 * y + 2 : Nat) : Int) := by rw [ev_off k2]; congr 1
        have hok : rdOK (cint (c_cu ks wp) 29 (4 * y)) (cint (c_cu ks wp) 29 (4 * y + 1)) (cint (c_cu ks wp) 29 (4 * y + 2)) := by
          rcases Bool.or_eq_true_iff.mp q with q | q
          · simp only [Bool.and_eq_true] at q
            have a0 := h_in_ok hF p0 q.1
            have a1 := h_in_ok hF p1 q.2
            unfold rdOK
            omega
          · obtain ⟨c, c1, c2⟩ := List.any_eq_true.mp q
            simp only [Bool.and_eq_true] at c2
            exact rdOK_of c1 (h_in_ok hF p0 c2.1) (h_in_ok hF p1 c2.2.1) (h_in_ok hF p2 c2.2.2)
        refine ⟨_, List.mem_cons_self, I, hxt.rf, rfl, hF.sf ⟨[(y : Int) + 1, 4 * (y : Int) + 4], ?_, y + 1, ?_, fun j hj => ?_⟩⟩
        · simp only [f_evs, ev_off k1, ev_off k2]
        · rw [show ((y + 1 : Nat) : Int) = (y : Int) + 1 by omega, show 4 * ((y : Int) + 1) = 4 * (y : Int) + 4 by omega]
        · rcases (show j < y ∨ j = y by omega) with h | rfl
          · exact hrow j h
          · exact hok
      · cases h; exact same
    · cases h; exact same
  · cases h; exact same
end HK6
