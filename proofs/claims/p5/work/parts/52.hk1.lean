/-! hooks, first: facts of not more, cells named -/
abbrev HKt : Type := SB → Option (List FS)
def HKP (T : TBt) (FP : Nat → CUt → List Int → Prop) (cy : Nat → ClassId) (f : HKt) : Prop := ∀ (S : SB) (L : List FS), f S = some L → ∀ (I : IN) (ks : List Nat) (wp : va_W) (lv : List (Nat × Value)) (vs : List Value), hap wp → hlv I S.2.1 lv → hvs I S.2.2.1 vs → HS T FP cy I ks wp S.2.2.2.1 → ∃ F ∈ L, ∃ J : IN, hxt I J ∧ J.2 = I.2 ∧ HS T FP cy J ks wp F
/-- what is not more than another lies below what that lies below -/
def h_tight (E : EB) (SF : List SFt) : Option EB := match SF with
  | [] => some E
  | f :: r => (match f.1, f.2 with
    | 0, [a, b] => (match f_iv E a, f_iv E b with
      | some (la, _), some (_, hb) => (match f_clamp E a la hb with
        | some E1 => h_tight E1 r
        | none => none)
      | _, _ => h_tight E r)
    | _, _ => h_tight E r)
def hk_tight : HKt := fun S => match S.2.2.2.1 with
  | (n, E, CF, SF) => (match h_tight E SF with
    | some E1 => some [(n, E1, CF, SF)]
    | none => some [])
/-- facts that can't be together -/
def hk_contra : HKt := fun S => match S.2.2.2.1 with
  | (n, E, CF, SF) => if SF.any (fun f => match f.1, f.2 with | 0, [a, b] => g_leq E SF 6 (f_off b 1) a | _, _ => false) = true then some [] else some [(n, E, CF, SF)]
/-- the top z is x + i, w is x + y, i is less than y: the greatest that z can be -/
def h_sum2 (E : EB) (SF : List SFt) (x i : BV) (L : List SFt) : Option Int := match L with
  | [] => none
  | g :: r => (match g.1, g.2 with
    | 16, [x', y, w] => (match f_iv E x, f_iv E i, f_iv E y, f_iv E w with
      | some (lx, hx), some (li, _), some (_, hy), some (_, hw) => if (bv_eq x' x && (decide (0 ≤ lx) && (decide (0 ≤ li) && (decide (hx + hy ≤ iMax) && g_leq E SF 6 (f_off i 1) y)))) = true then some (hw - 1) else h_sum2 E SF x i r
      | _, _, _, _ => h_sum2 E SF x i r)
    | _, _ => h_sum2 E SF x i r)
def h_sum1 (E : EB) (SF : List SFt) (z : BV) (L : List SFt) : Option Int := match L with
  | [] => none
  | f :: r => (match f.1, f.2 with
    | 16, [x, i, z'] => if bv_eq z' z = true then (match h_sum2 E SF x i SF with
      | some b => some b
      | none => h_sum1 E SF z r) else h_sum1 E SF z r
    | _, _ => h_sum1 E SF z r)
def hk_sumle : HKt := fun S => match S.2.2.1, S.2.2.2.1 with
  | z :: _, (n, E, CF, SF) => (match h_sum1 E SF z SF with
    | some b => (match f_iv E z with
      | some (lz, _) => (match f_clamp E z lz b with
        | some E1 => some [(n, E1, CF, SF)]
        | none => some [])
      | none => none)
    | none => some [(n, E, CF, SF)])
  | _, _ => none
/-- a cell of the only one of its kind, named -/
def h_peek1 (T : TBt) (κ k : Nat) (F : FS) : Option FS := match T.1[κ]? with
  | some d => (match k_ty d k with
    | some t => if (decide (κ < T.2.1) && decide (k < k_len d)) = true then some (f_load T κ true none (bI (k : Int)) t F).2 else none
    | none => none)
  | none => none
def h_peek (T : TBt) (L : List (Nat × Nat)) (F : FS) : Option FS := match L with
  | [] => some F
  | (κ, k) :: r => (match h_peek1 T κ k F with
    | some F' => h_peek T r F'
    | none => none)
def hk_peek (T : TBt) (L : List (Nat × Nat)) : HKt := fun S => match h_peek T L S.2.2.2.1 with
  | some F => some [F]
  | none => none
section HK1
variable {T : TBt} {FP : Nat → CUt → List Int → Prop} {cy : Nat → ClassId}
theorem h_tight_ok {I : IN} {n : Nat} {cu : CUt} (h0 : FP0 FP) : ∀ (SF : List SFt) (E : EB), henv I.1 n E → (∀ f ∈ SF, hsf FP I cu f) → ∃ E1, h_tight E SF = some E1 ∧ henv I.1 n E1 := by
  intro SF
  induction SF with
  | nil => intro E hE _; exact ⟨E, rfl, hE⟩
  | cons f r ih =>
    obtain ⟨id, as⟩ := f
    intro E hE hS
    have hr : ∀ f ∈ r, hsf FP I cu f := fun f hf => hS f (List.mem_cons_of_mem _ hf)
    unfold h_tight
    simp only
    split
    · rename_i a b
      split
      · rename_i la ha lb hb h1 h2
        obtain ⟨x, y, g1, g2, g3⟩ := sf_le (x := a) (y := b) h0 (hS _ List.mem_cons_self) rfl rfl
        have w := ev_iv hE g2 h2
        have wx := ev_iv hE g1 h1
        obtain ⟨E1, e1, e2, -⟩ := f_clamp_ev (lo := la) (hi := hb) hE g1 ⟨_, h1⟩ wx.1 (by omega)
        rw [e1]
        exact ih E1 e2 hr
      · exact ih E hE hr
    · exact ih E hE hr
theorem hk_tight_ok (h0 : FP0 FP) : HKP T FP cy hk_tight := by
  intro S L h I ks wp lv vs _ _ _ hF
  obtain ⟨pc, lo, st, ⟨n, E, CF, SF⟩, q⟩ := S
  unfold hk_tight at h
  simp only at h hF
  obtain ⟨E1, e1, e2⟩ := h_tight_ok h0 SF E hF.2.1 hF.2.2.2
  rw [e1] at h
  cases h
  exact ⟨_, List.mem_cons_self, I, hxt.rf, rfl, hF.1, e2, hF.2.2.1, hF.2.2.2⟩
theorem hk_contra_ok (h0 : FP0 FP) : HKP T FP cy hk_contra := by
  intro S L h I ks wp lv vs _ _ _ hF
  obtain ⟨pc, lo, st, ⟨n, E, CF, SF⟩, q⟩ := S
  unfold hk_contra at h
  simp only at h hF
  split at h
  · rename_i hany
    obtain ⟨⟨id, as⟩, m1, m2⟩ := List.any_eq_true.mp hany
    simp only at m2
    split at m2
    · rename_i a b
      obtain ⟨x, y, g1, g2, g3⟩ := sf_le (x := a) (y := b) h0 (hF.2.2.2 _ m1) rfl rfl
      have := g_leq_ok h0 hF.2.1 hF.2.2.2 6 m2 (ev_off g2) g1
      have g3 : x ≤ y := g3
      omega
    · cases m2
  · cases h
    exact ⟨_, List.mem_cons_self, I, hxt.rf, rfl, hF⟩
theorem evs3 {ν : List Int} {x y z : BV} {a b c : Int} (h : f_evs ν [x, y, z] = some [a, b, c]) : f_ev ν x = some a ∧ f_ev ν y = some b ∧ f_ev ν z = some c := by
  simp only [f_evs] at h
  cases h1 : f_ev ν x with
  | none => rw [h1] at h; cases h
  | some a' =>
    cases h2 : f_ev ν y with
    | none => rw [h1, h2] at h; cases h
    | some b' =>
      cases h3 : f_ev ν z with
      | none => rw [h1, h2, h3] at h; cases h
      | some c' =>
        rw [h1, h2, h3] at h
        simp only [Option.some.injEq, List.cons.injEq, and_true] at h
        obtain ⟨rfl, rfl, rfl⟩ := h
        exact ⟨rfl, rfl, rfl⟩
theorem h_sum2_ok {I : IN} {n : Nat} {E : EB} {SF : List SFt} {cu : CUt} {x i : BV} {xa ia : Int32} {b : Int} (h0 : FP0 FP) (hN : FPnum FP) (hE : henv I.1 n E) (hS : ∀ f ∈ SF, hsf FP I cu f) (hx : f_ev I.1 x = some xa.toInt) (hi : f_ev I.1 i = some ia.toInt) :
    ∀ (L : List SFt), (∀ f ∈ L, f ∈ SF) → h_sum2 E SF x i L = some b → (xa + ia).toInt ≤ b := by
  intro L
  induction L with
  | nil => intro _ h; simp only [h_sum2] at h; cases h
  | cons g r ih =>
    obtain ⟨id, as⟩ := g
    intro hL h
    have hr : ∀ f ∈ r, f ∈ SF := fun f hf => hL f (List.mem_cons_of_mem _ hf)
    unfold h_sum2 at h
    simp only at h
    split at h
    · rename_i x' y w
      split at h
      · rename_i lx hx9 li hi9 ly hy lw hw e1 e2 e3 e4
        split at h
        · rename_i q
          simp only [Bool.and_eq_true, decide_eq_true_eq] at q
          obtain ⟨q1, q2, q3, q4, q5⟩ := q
          have q1 := bv_eq_ok q1
          subst q1
          cases h
          obtain ⟨zs, z1, z2⟩ := hS _ (hL _ List.mem_cons_self)
          obtain ⟨a, c, rfl⟩ := (hN 16 (Or.inl rfl) _ _).mp z2
          obtain ⟨v1, v2, v3⟩ := evs3 z1
          rw [hx] at v1
          have ea : xa = a := (fa_eq _ _).mpr (Option.some.inj v1)
          subst ea
          have w1 := ev_iv hE hx e1
          have w2 := ev_iv hE hi e2
          have w3 := ev_iv hE v2 e3
          have w4 := ev_iv hE v3 e4
          have w5 := g_leq_ok h0 hE hS 6 q5 (ev_off hi) v2
          have hadd : (o_op 16 xa c).toInt = xa.toInt + c.toInt := fb_addI (by simp only [iMax] at q4; omega) (by simp only [iMax] at q4; omega)
          have hadd2 : (xa + ia).toInt = xa.toInt + ia.toInt := fb_addI (by simp only [iMax] at q4; omega) (by simp only [iMax] at q4; omega)
          rw [hadd2]
          rw [hadd] at w4
          omega
        · exact ih hr h
      · exact ih hr h
    · exact ih hr h
theorem h_sum1_ok {I : IN} {n : Nat} {E : EB} {SF : List SFt} {cu : CUt} {z : BV} {zv b : Int} (h0 : FP0 FP) (hN : FPnum FP) (hE : henv I.1 n E) (hS : ∀ f ∈ SF, hsf FP I cu f) (hz : f_ev I.1 z = some zv) :
    ∀ (L : List SFt), (∀ f ∈ L, f ∈ SF) → h_sum1 E SF z L = some b → zv ≤ b := by
  intro L
  induction L with
  | nil => intro _ h; simp only [h_sum1] at h; cases h
  | cons g r ih =>
    obtain ⟨id, as⟩ := g
    intro hL h
    have hr : ∀ f ∈ r, f ∈ SF := fun f hf => hL f (List.mem_cons_of_mem _ hf)
    unfold h_sum1 at h
    simp only at h
    split at h
    · rename_i x i z'
      split at h
      · rename_i q
        have q := bv_eq_ok q
        subst q
        split at h
        · rename_i b' hb
          cases h
          obtain ⟨zs, z1, z2⟩ := hS _ (hL _ List.mem_cons_self)
          obtain ⟨a, c, rfl⟩ := (hN 16 (Or.inl rfl) _ _).mp z2
          obtain ⟨v1, v2, v3⟩ := evs3 z1
          rw [hz] at v3
          have := h_sum2_ok h0 hN hE hS v1 v2 SF (fun _ h => h) hb
          have e9 := Option.some.inj v3
          rw [e9]
          exact this
        · exact ih hr h
      · exact ih hr h
    · exact ih hr h
theorem hk_sumle_ok (h0 : FP0 FP) (hN : FPnum FP) : HKP T FP cy hk_sumle := by
  intro S L h I ks wp lv vs _ _ hst hF
  obtain ⟨pc, lo, st, ⟨n, E, CF, SF⟩, q⟩ := S
  cases st with
  | nil => unfold hk_sumle at h; simp only at h; cases h
  | cons z st' =>
    unfold hk_sumle at h
    simp only at h hF hst
    split at h
    · rename_i b hb
      split at h
      · rename_i lz hz9 hiv
        obtain ⟨v, vs', rfl, g1, g2⟩ := hvs_cons hst
        obtain ⟨i, rfl, i1, i2⟩ := hv_int hF.2.1 g1 hiv
        have hle9 := h_sum1_ok h0 hN hF.2.1 hF.2.2.2 (hv_ev g1) SF (fun _ h => h) hb
        obtain ⟨E1, e1, e2, -⟩ := f_clamp_ev (lo := lz) (hi := b) hF.2.1 (hv_ev g1) ⟨_, hiv⟩ i1 hle9
        rw [e1] at h
        cases h
        exact ⟨_, List.mem_cons_self, I, hxt.rf, rfl, hF.1, e2, hF.2.2.1, hF.2.2.2⟩
      · cases h
    · cases h
      exact ⟨_, List.mem_cons_self, I, hxt.rf, rfl, hF⟩
theorem h_peek1_ok {I : IN} {ks : List Nat} {wp : va_W} {κ k : Nat} {F F' : FS} (hD : hap wp) (h : HS T FP cy I ks wp F) (hp : h_peek1 T κ k F = some F') : ∃ J : IN, hxt I J ∧ J.2 = I.2 ∧ HS T FP cy J ks wp F' := by
  unfold h_peek1 at hp
  split at hp
  · rename_i d hd
    split at hp
    · rename_i t ht9
      split at hp
      · rename_i q
        simp only [Bool.and_eq_true, decide_eq_true_eq] at q
        cases hp
        obtain ⟨i, hi⟩ := h.1.2.2.2.2 κ q.1
        obtain ⟨a, e9, d2, g1, g2, g3, g4⟩ := h.1.2.1 i κ hi
        rw [hd] at g2
        cases g2
        obtain ⟨v, v1, v2⟩ := g3.2 k t q.2 ht9
        cases hl : f_load T κ true none (bI (k : Int)) t F with
        | mk v9 F9 =>
        have hr : hv I (bP κ true none) (.ref a) := ⟨Or.inr ⟨a, g4, rfl⟩, fun _ h => by cases h⟩
        obtain ⟨J, j1, j2, j3, j4⟩ := load_ok h hD hi g1 hr (show f_ev I.1 (bI (k : Int)) = some (k : Int) from rfl) v1 v2 hl
        exact ⟨J, j1, j2, j4⟩
      · cases hp
    · cases hp
  · cases hp
theorem hk_peek_ok {L : List (Nat × Nat)} : HKP T FP cy (hk_peek T L) := by
  intro S L' h I ks wp lv vs hD _ _ hF
  unfold hk_peek at h
  have key : ∀ (L : List (Nat × Nat)) (I : IN) (F F' : FS), HS T FP cy I ks wp F → h_peek T L F = some F' → ∃ J : IN, hxt I J ∧ J.2 = I.2 ∧ HS T FP cy J ks wp F' := by
    intro L
    induction L with
    | nil => intro I F F' h1 h2; simp only [h_peek] at h2; cases h2; exact ⟨I, hxt.rf, rfl, h1⟩
    | cons q r ih =>
      obtain ⟨κ, k⟩ := q
      intro I F F' h1 h2
      simp only [h_peek] at h2
      split at h2
      · rename_i F1 hF1
        obtain ⟨J, j1, j2, j3⟩ := h_peek1_ok hD h1 hF1
        obtain ⟨K, k1, k2, k3⟩ := ih J F1 F' j3 h2
        exact ⟨K, j1.tr k1, by rw [k2, j2], k3⟩
      · cases h2
  split at h
  · rename_i F' hF'
    cases h
    obtain ⟨J, j1, j2, j3⟩ := key L I _ _ hF hF'
    exact ⟨F', List.mem_cons_self, J, j1, j2, j3⟩
  · cases h
end HK1
