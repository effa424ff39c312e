/-! cuts: measures, matching of states and ends -/
def m_at (ν : List Int) (k : Nat) : Int := (ν[k]?).getD 0
def m_et (ν : List Int) (x : List (Int × Nat)) (c : Int) : Int := match x with
  | [] => c
  | (w, k) :: r => w * m_at ν k + m_et ν r c
section BCUT
variable {T : TBt} {FP : Nat → CUt → List Int → Prop} {cy : Nat → ClassId} {I : IN} {ks : List Nat} {wp : va_W} {n : Nat} {E : EB} {ν : List Int}
theorem m_at_of {k : Nat} {y : Int} (h : ν[k]? = some y) : m_at ν k = y := by unfold m_at; rw [h]; rfl
theorem m_lb_ok (hE : henv ν n E) : ∀ {x : List (Int × Nat)} {c b : Int}, m_lb E x c = some b → b ≤ m_et ν x c := by
  intro x
  induction x with
  | nil => intro c b h; simp only [m_lb] at h; cases h; exact Int.le_refl _
  | cons q r ih =>
    obtain ⟨w, k⟩ := q
    intro c b h
    simp only [m_lb] at h
    split at h
    · rename_i lo hi b0 h1 h2
      cases h
      obtain ⟨y, g1, g2, g3⟩ := hE.2 k _ h1
      simp only at g2 g3
      have := ih h2
      show _ ≤ w * m_at ν k + m_et ν r c
      rw [m_at_of g1]
      split
      · rename_i hw
        have hw := of_decide_eq_true hw
        have := Int.mul_le_mul_of_nonneg_left g2 hw
        omega
      · rename_i hw
        have hw : ¬ 0 ≤ w := fun h => hw (decide_eq_true h)
        have := Int.mul_le_mul_of_nonpos_left (show w ≤ 0 by omega) g3
        omega
    · cases h
theorem m_lb_xt {J : IN} (hE : henv I.1 n E) (hx : hxt I J) : ∀ {x : List (Int × Nat)} {c b : Int}, m_lb E x c = some b → m_et J.1 x c = m_et I.1 x c := by
  intro x
  induction x with
  | nil => intro c b h; rfl
  | cons q r ih =>
    obtain ⟨w, k⟩ := q
    intro c b h
    simp only [m_lb] at h
    split at h
    · rename_i lo hi b0 h1 h2
      obtain ⟨y, g1, g2, g3⟩ := hE.2 k _ h1
      show w * m_at J.1 k + m_et J.1 r c = w * m_at I.1 k + m_et I.1 r c
      rw [m_at_of g1, m_at_of (hx.at g1), ih h2]
    · cases h
theorem m_et_add {w : Int} {k : Nat} : ∀ {x : List (Int × Nat)} {c : Int}, m_et ν (m_add x w k) c = w * m_at ν k + m_et ν x c := by
  intro x
  induction x with
  | nil => intro c; rfl
  | cons q r ih =>
    obtain ⟨v, j⟩ := q
    intro c
    simp only [m_add]
    split
    · rename_i h
      have h := Nat.eq_of_beq_eq_true h
      subst h
      show (v + w) * m_at ν j + m_et ν r c = w * m_at ν j + (v * m_at ν j + m_et ν r c)
      rw [Int.add_mul]; omega
    · show v * m_at ν j + m_et ν (m_add r w k) c = w * m_at ν k + (v * m_at ν j + m_et ν r c)
      rw [ih]; omega
theorem m_et_nrm : ∀ {x : List (Int × Nat)} {c : Int}, m_et ν (m_nrm x) c = m_et ν x c := by
  intro x
  induction x with
  | nil => intro c; rfl
  | cons q r ih =>
    obtain ⟨v, j⟩ := q
    intro c
    simp only [m_nrm]
    rw [m_et_add, ih]; rfl
theorem m_et_fil : ∀ {x : List (Int × Nat)} {c : Int}, m_et ν (x.filter (fun q => !(decide (q.1 = 0)))) c = m_et ν x c := by
  intro x
  induction x with
  | nil => intro c; rfl
  | cons q r ih =>
    obtain ⟨v, j⟩ := q
    intro c
    rw [List.filter_cons]
    by_cases hv9 : v = 0
    · subst hv9
      rw [if_neg (by simp), ih]
      show _ = 0 * m_at ν j + m_et ν r c
      omega
    · rw [if_pos (by simp [hv9])]
      show v * m_at ν j + m_et ν (r.filter _) c = v * m_at ν j + m_et ν r c
      rw [ih]
theorem m_et_app : ∀ {x y : List (Int × Nat)} {c : Int}, m_et ν (x ++ y) c = m_et ν x 0 + m_et ν y c := by
  intro x
  induction x with
  | nil => intro y c; show m_et ν y c = 0 + m_et ν y c; omega
  | cons q r ih =>
    obtain ⟨v, j⟩ := q
    intro y c
    show v * m_at ν j + m_et ν (r ++ y) c = v * m_at ν j + m_et ν r 0 + m_et ν y c
    rw [ih]; omega
theorem m_et_c : ∀ {x : List (Int × Nat)} {c d : Int}, m_et ν x (c + d) = m_et ν x c + d := by
  intro x
  induction x with
  | nil => intro c d; rfl
  | cons q r ih =>
    obtain ⟨v, j⟩ := q
    intro c d
    show v * m_at ν j + m_et ν r (c + d) = v * m_at ν j + m_et ν r c + d
    rw [ih]; omega
theorem m_et_neg : ∀ {x : List (Int × Nat)}, m_et ν (m_neg x) 0 = - m_et ν x 0 := by
  intro x
  induction x with
  | nil => rfl
  | cons q r ih =>
    obtain ⟨v, j⟩ := q
    show -v * m_at ν j + m_et ν (m_neg r) 0 = -(v * m_at ν j + m_et ν r 0)
    rw [ih, Int.neg_mul]; omega
theorem m_inst_ok {σ : List BV} {zs : List Int} (hσ : f_evs ν σ = some zs) : ∀ {x : List (Int × Nat)} {c : Int} {q : MEt}, m_inst σ x c = some q → m_et ν q.1 q.2 = m_et zs x c := by
  intro x
  induction x with
  | nil => intro c q h; simp only [m_inst] at h; cases h; rfl
  | cons q0 r ih =>
    obtain ⟨w, k⟩ := q0
    intro c q h
    simp only [m_inst] at h
    split at h
    · rename_i n9 x9 d h1 h2
      cases h
      obtain ⟨z, g1, g2⟩ := f_evs_at hσ h1
      simp only [f_ev] at g2
      cases g2
      have := ih h2
      simp only at this
      show m_et ν x9 (d + w * n9) = w * m_at zs k + m_et zs r c
      rw [m_et_c, this, m_at_of g1]; omega
    · rename_i k' e9 x9 d h1 h2
      cases h
      obtain ⟨z, g1, g2⟩ := f_evs_at hσ h1
      simp only [f_ev] at g2
      cases hk : ν[k']? with
      | none => rw [hk] at g2; cases g2
      | some y =>
        rw [hk] at g2
        simp only [Option.some.injEq] at g2
        have := ih h2
        simp only at this
        show w * m_at ν k' + m_et ν x9 (d + w * e9) = w * m_at zs k + m_et zs r c
        rw [m_et_c, this, m_at_of g1, m_at_of hk, ← g2, Int.mul_add]; omega
    · cases h
theorem m_rm_ok {w : Int} {k : Nat} : ∀ {x x' : List (Int × Nat)} {c : Int}, m_rm x w k = some x' → m_et ν x c = w * m_at ν k + m_et ν x' c := by
  intro x
  induction x with
  | nil => intro x' c h; simp only [m_rm] at h; cases h
  | cons q r ih =>
    obtain ⟨v, j⟩ := q
    intro x' c h
    simp only [m_rm] at h
    split at h
    · rename_i q
      simp only [Bool.and_eq_true, decide_eq_true_eq] at q
      obtain ⟨q1, q2⟩ := q
      have q2 := Nat.eq_of_beq_eq_true q2
      subst q1
      subst q2
      cases h
      rfl
    · split at h
      · rename_i r' hr
        cases h
        show v * m_at ν j + m_et ν r c = w * m_at ν k + (v * m_at ν j + m_et ν r' c)
        rw [ih hr]; omega
      · cases h
theorem m_pos_ok {SF : List SFt} {cu : CUt} {x : List (Int × Nat)} {c : Int} (h0 : FP0 FP) (hE : henv I.1 n E) (hS : ∀ f ∈ SF, hsf FP I cu f) (h : m_pos E SF x c = true) : 1 ≤ m_et I.1 x c := by
  unfold m_pos at h
  simp only [Bool.or_eq_true] at h
  rcases h with h | h
  · split at h
    · rename_i b hb
      have hb1 := of_decide_eq_true h
      have h2 := m_lb_ok hE hb
      omega
    · cases h
  · obtain ⟨⟨w, k⟩, -, h⟩ := List.any_eq_true.mp h
    simp only [Bool.and_eq_true, decide_eq_true_eq] at h
    obtain ⟨hw, h⟩ := h
    split at h
    · rename_i x1 hx1
      obtain ⟨⟨v, j⟩, -, h⟩ := List.any_eq_true.mp h
      simp only [Bool.and_eq_true, decide_eq_true_eq] at h
      obtain ⟨hv9, h⟩ := h
      split at h
      · rename_i x2 hx2
        split at h
        · rename_i b hb
          simp only [Bool.and_eq_true, Bool.or_eq_true, decide_eq_true_eq] at h
          obtain ⟨h1, h2, h3⟩ := h
          obtain ⟨q1, e1⟩ := Option.isSome_iff_exists.mp h1
          obtain ⟨q2, e2⟩ := Option.isSome_iff_exists.mp h2
          obtain ⟨y1, g1, -⟩ := hE.2 k _ e1
          obtain ⟨y2, g2, -⟩ := hE.2 j _ e2
          have hlb := m_lb_ok hE hb
          rw [m_rm_ok hx1, m_rm_ok hx2, m_at_of g1, m_at_of g2, hv9]
          rcases h3 with ⟨h3, h4⟩ | ⟨h3, h4⟩
          · have h5 := g_leq_ok h0 hE hS 6 h4 (show f_ev I.1 (bV j 1) = some (y2 + 1) by simp only [f_ev, g2]) (show f_ev I.1 (bV k 0) = some (y1 + 0) by simp only [f_ev, g1])
            have h6 : w * 1 ≤ w * (y1 - y2) := Int.mul_le_mul_of_nonneg_left (by omega) (by omega)
            rw [Int.mul_sub] at h6
            rw [Int.neg_mul]
            omega
          · have h5 := g_leq_ok h0 hE hS 6 h4 (show f_ev I.1 (bV j 0) = some (y2 + 0) by simp only [f_ev, g2]) (show f_ev I.1 (bV k 0) = some (y1 + 0) by simp only [f_ev, g1])
            have h6 : w * 0 ≤ w * (y1 - y2) := Int.mul_le_mul_of_nonneg_left (by omega) (by omega)
            rw [Int.mul_sub] at h6
            rw [Int.neg_mul]
            omega
        · cases h
      · cases h
    · cases h
theorem g_meas_ok {SF : List SFt} {cu : CUt} {σ : List BV} {zs : List Int} {m0 : Option MEt} {m : MEt} (h0 : FP0 FP) (hE : henv I.1 n E) (hS : ∀ f ∈ SF, hsf FP I cu f) (hσ : f_evs I.1 σ = some zs) (h : g_meas E SF m0 σ m = true) : ∀ mm, m0 = some mm → m_et zs m.1 m.2 < m_et I.1 mm.1 mm.2 := by
  intro mm hm
  subst hm
  obtain ⟨x0, c0⟩ := mm
  unfold g_meas at h
  simp only at h
  split at h
  · rename_i x1 c1 h1
    have h2 := m_pos_ok h0 hE hS h
    rw [m_et_fil, m_et_nrm, m_et_app] at h2
    have h3 := m_inst_ok hσ h1
    simp only at h3
    have e1 : m_et I.1 (m_neg x1) (c0 - c1) = m_et I.1 (m_neg x1) 0 + (c0 - c1) := by rw [← m_et_c]; congr 1; omega
    have e2 : m_et I.1 x1 c1 = m_et I.1 x1 0 + c1 := by rw [← m_et_c]; congr 1; omega
    have e3 : m_et I.1 x0 c0 = m_et I.1 x0 0 + c0 := by rw [← m_et_c]; congr 1; omega
    rw [e1, m_et_neg] at h2
    show m_et zs m.1 m.2 < m_et I.1 x0 c0
    omega
  · cases h
theorem g_ckI_ok {np : Nat} {σ : List BV} {zs : List Int} (h : g_ckI np σ = true) (hσ : f_evs ν σ = some zs) : ∀ k, k < np → ∃ y, zs[k]? = some y ∧ ν[k]? = some y := by
  intro k hk
  have h1 := List.all_eq_true.mp h k (List.mem_range.mpr hk)
  split at h1
  · rename_i j c hs
    simp only [Bool.and_eq_true, decide_eq_true_eq] at h1
    obtain ⟨h1, rfl⟩ := h1
    have h1 := Nat.eq_of_beq_eq_true h1
    subst h1
    obtain ⟨z, g1, g2⟩ := f_evs_at hσ hs
    simp only [f_ev] at g2
    cases hv9 : ν[j]? with
    | none => rw [hv9] at g2; cases g2
    | some y =>
      rw [hv9] at g2
      simp only [Option.some.injEq] at g2
      exact ⟨z, g1, by rw [← g2]; congr 1; omega⟩
  · cases h1
theorem g_all_ok {np : Nat} {F F' : FS} {σ : List BV} {lo lo' : List (Nat × BV)} {st st' : List BV} {ls : Array Slot} {nL : Nat} {lv : List (Nat × Value)} {vs : List Value} (h0 : FP0 FP) (h : HS T FP cy I ks wp F) (hl : lv_has ls nL lv) (hlo : hlv I lo lv) (hst : hvs I st vs) (hg : g_all np F lo st F' lo' st' σ = true) :
    ∃ zs, f_evs I.1 σ = some zs ∧ (∀ k, k < np → ∃ y, zs[k]? = some y ∧ I.1[k]? = some y) ∧ HS T FP cy (zs, I.2) ks wp F' ∧ (∃ lv', lv_has ls nL lv' ∧ hlv (zs, I.2) lo' lv') ∧ hvs (zs, I.2) st' vs := by
  unfold g_all at hg
  simp only [Bool.and_eq_true, decide_eq_true_eq] at hg
  obtain ⟨g0, g1, g2, g3, g4, g5, g6, g7⟩ := hg
  obtain ⟨zs, z1, z2, z3, z4⟩ := g_match_ok h0 h hl hlo hst g1 g2 g3 g4 g5 g6 g7
  exact ⟨zs, z1, g_ckI_ok g0 z1, z2, z3, z4⟩
end BCUT
