/-! one state lies within another, names by names -/
def g_sub (σ : List BV) (a : BV) : Option BV := match a with
  | .inr (.inl (k, c)) => (match σ[k]? with
    | some b => if f_isI b = true then some (f_off b c) else none
    | none => none)
  | .inr (.inr (.inr (.inl (some (κ, nn, some k))))) => (match σ[k]? with
    | some (.inr (.inl (k', c))) => if decide (c = 0) = true then some (bP κ nn (some k')) else none
    | _ => none)
  | x => some x
def g_subs (σ : List BV) (as : List BV) : Option (List BV) := match as with
  | [] => some []
  | a :: r => (match g_sub σ a, g_subs σ r with | some b, some bs => some (b :: bs) | _, _ => none)
def g_le (E : EB) (a b : BV) : Bool := if bv_eq a b = true then true else (match b with
  | .inl n => (match f_iv E a with | some (l, h) => decide (l = n) && decide (h = n) | none => false)
  | .inr (.inl _) => (match f_iv E a, f_iv E b with | some (l, h), some (l', h') => decide (l = h) && (decide (l' = h') && decide (l = l')) | _, _ => false)
  | .inr (.inr (.inl (l', h'))) => (match a with | .inr (.inr (.inl (l, h))) => decide (l' ≤ l) && decide (h ≤ h') | _ => false)
  | .inr (.inr (.inr (.inl (some (κ, nn, none))))) => (match a with
    | .inr (.inr (.inr (.inl none))) => !nn
    | .inr (.inr (.inr (.inl (some (κ', _, _))))) => Nat.beq κ κ' && (!nn || f_nn E a)
    | _ => false)
  | _ => false)
def g_les (E : EB) (x y : List BV) : Bool := match x, y with
  | [], [] => true
  | a :: r, a' :: r' => g_le E a a' && g_les E r r'
  | _, _ => false
/-- not more, by a chain of facts -/
def g_leq (E : EB) (SF : List SFt) : Nat → BV → BV → Bool
  | 0, a, b => f_lez E a b
  | n + 1, a, b => f_lez E a b || (match a with
    | .inr (.inl (k, c)) => SF.any (fun f => Nat.beq f.1 0 && (match f.2 with
      | [.inr (.inl (k1, c1)), y] => Nat.beq k1 k && g_leq E SF n (f_off y (c - c1)) b
      | _ => false))
    | _ => false)
def g_ckS (n : Nat) (σ : List BV) : Bool := σ.all (fun b => match b with
  | .inl _ => true
  | .inr (.inl (k, _)) => decide (k < n)
  | _ => false)
def g_ckE (E : EB) (σ : List BV) (E' : EB) : Bool := E'.all (fun q => match σ[q.1]? with
  | some b => (match f_iv E b with | some (l, h) => decide (q.2.1 ≤ l) && decide (h ≤ q.2.2) | none => false)
  | none => false)
def g_ckC (E : EB) (CF : List CFt) (σ : List BV) (CF' : List CFt) : Bool := CF'.all (fun f => match (match f.2.1 with | none => some none | some k => (match σ[k]? with | some (.inr (.inl (k', c))) => if decide (c = 0) = true then some (some k') else none | _ => none)), g_sub σ f.2.2.1, g_sub σ f.2.2.2 with
  | some b, some p, some v => (match f_cf CF f.1 b p with | some w => g_le E w v | none => false)
  | _, _, _ => false)
def g_ckF (E : EB) (SF : List SFt) (σ : List BV) (SF' : List SFt) : Bool := SF'.all (fun f => match g_subs σ f.2 with
  | some as => SF.any (fun f1 => Nat.beq f1.1 f.1 && bvs_eq f1.2 as) || (Nat.beq f.1 0 && (match as with | [x, y] => g_leq E SF 6 x y | _ => false))
  | none => false)
def g_ckL (E : EB) (lo : List (Nat × BV)) (σ : List BV) (lo' : List (Nat × BV)) : Bool := lo'.all (fun q => match f_find lo q.1, g_sub σ q.2 with
  | some a, some b => g_le E a b
  | _, _ => false)
def g_ckT (E : EB) (st : List BV) (σ : List BV) (st' : List BV) : Bool := match g_subs σ st' with
  | some bs => g_les E st bs
  | none => false
section BMATCH
variable {T : TBt} {FP : Nat → CUt → List Int → Prop} {cy : Nat → ClassId} {I : IN} {ks : List Nat} {wp : va_W} {n : Nat} {E : EB}
theorem hv_ev_iff {a : BV} {v : Value} (ha : f_isI a = true) : hv I a v ↔ ∃ x : Int32, v = .int x ∧ f_ev I.1 a = some x.toInt := by
  constructor
  · intro h
    obtain ⟨x, rfl⟩ := hv_isI h ha
    exact ⟨x, rfl, hv_ev h⟩
  · rintro ⟨x, rfl, h⟩
    exact ev_hv h
theorem f_isI_off {a : BV} {d : Int} : f_isI (f_off a d) = f_isI a := by
  rcases a with c | ⟨k, c⟩ | ⟨l0, h0⟩ | (_ | ⟨κ, nn, nm⟩) | j <;> rfl
theorem g_sub_isI {σ : List BV} {a b : BV} (h : g_sub σ a = some b) (ha : f_isI a = true) : f_isI b = true := by
  rcases a with c | ⟨k, c⟩ | ⟨l0, h0⟩ | (_ | ⟨κ, nn, nm⟩) | j
  · cases h; rfl
  · simp only [g_sub] at h
    split at h
    · split at h
      · rename_i q; cases h; rw [f_isI_off]; exact q
      · cases h
    · cases h
  all_goals cases ha
theorem g_sub_ev {ν zs : List Int} {σ : List BV} {a b : BV} (hσ : f_evs ν σ = some zs) (h : g_sub σ a = some b) (ha : f_isI a = true) : ∃ z, f_ev zs a = some z ∧ f_ev ν b = some z := by
  rcases a with c | ⟨k, c⟩ | ⟨l0, h0⟩ | (_ | ⟨κ, nn, nm⟩) | j
  · cases h; exact ⟨c, rfl, rfl⟩
  · simp only [g_sub] at h
    split at h
    · rename_i s hs
      split at h
      · cases h
        obtain ⟨y, g1, g2⟩ := f_evs_at hσ hs
        exact ⟨y + c, by simp only [f_ev, g1], ev_off g2⟩
      · cases h
    · cases h
  all_goals cases ha
theorem g_sub_iff {zs : List Int} {σ : List BV} {a b : BV} {v : Value} (hσ : f_evs I.1 σ = some zs) (h : g_sub σ a = some b) : hv (zs, I.2) a v ↔ hv I b v := by
  by_cases ha : f_isI a = true
  · rw [hv_ev_iff ha, hv_ev_iff (g_sub_isI h ha)]
    obtain ⟨z, g1, g2⟩ := g_sub_ev hσ h ha
    simp only [g1, g2]
  · rcases a with c | ⟨k, c⟩ | ⟨l0, h0⟩ | (_ | ⟨κ, nn, nm⟩) | j
    · exact absurd rfl ha
    · exact absurd rfl ha
    · cases h; exact Iff.rfl
    · cases h; exact Iff.rfl
    · cases nm with
      | none =>
        cases h
        constructor
        · intro h; exact ⟨h.1, fun k hk => by cases hk⟩
        · intro h; exact ⟨h.1, fun k hk => by cases hk⟩
      | some k =>
        simp only [g_sub] at h
        split at h
        · rename_i k' c hs
          split at h
          · rename_i q
            have q := of_decide_eq_true q
            subst q
            cases h
            obtain ⟨y, g1, g2⟩ := f_evs_at hσ hs
            have g3 : I.1[k']? = some y := by
              simp only [f_ev] at g2
              split at g2
              · rename_i y' hy
                rw [hy]
                simpa using g2
              · cases g2
            constructor
            · intro h
              refine ⟨h.1, fun k2 hk => ?_⟩
              cases hk
              obtain ⟨y2, w1, w2⟩ := h.2 k rfl
              simp only at w1
              rw [g1] at w1
              cases w1
              exact ⟨y, g3, w2⟩
            · intro h
              refine ⟨h.1, fun k2 hk => ?_⟩
              cases hk
              obtain ⟨y2, w1, w2⟩ := h.2 k' rfl
              rw [g3] at w1
              cases w1
              exact ⟨y, g1, w2⟩
          · cases h
        · cases h
    · cases h; exact Iff.rfl
theorem g_subs_iff {zs : List Int} {σ : List BV} (hσ : f_evs I.1 σ = some zs) : ∀ {as bs : List BV} {vs : List Value}, g_subs σ as = some bs → (hvs (zs, I.2) as vs ↔ hvs I bs vs) := by
  intro as
  induction as with
  | nil => intro bs vs h; cases h; cases vs <;> exact Iff.rfl
  | cons a r ih =>
    intro bs vs h
    simp only [g_subs] at h
    split at h
    · rename_i b bs' h1 h2
      cases h
      cases vs with
      | nil => exact Iff.rfl
      | cons v vs => exact and_congr (g_sub_iff hσ h1) (ih h2)
    · cases h
theorem g_le_ok {a b : BV} {v : Value} (hE : henv I.1 n E) (h : hv I a v) (hl : g_le E a b = true) : hv I b v := by
  unfold g_le at hl
  split at hl
  · rename_i q; rw [← bv_eq_ok q]; exact h
  · split at hl
    · split at hl
      · rename_i l h1 hiv
        simp only [Bool.and_eq_true, decide_eq_true_eq] at hl
        obtain ⟨x, rfl, g1, g2⟩ := hv_int hE h hiv
        exact ⟨x, rfl, by omega⟩
      · cases hl
    · rename_i k c
      split at hl
      · rename_i l h1 l' h' hiv hiv'
        simp only [Bool.and_eq_true, decide_eq_true_eq] at hl
        obtain ⟨x, rfl, g1, g2⟩ := hv_int hE h hiv
        simp only [f_iv] at hiv'
        split at hiv'
        · rename_i l2 h2 hk
          obtain ⟨y, w1, w2, w3⟩ := hE.2 _ _ hk
          simp only [Option.some.injEq, Prod.mk.injEq] at hiv'
          simp only at w2 w3
          exact ⟨x, y, rfl, w1, by omega⟩
        · cases hiv'
      · cases hl
    · split at hl
      · simp only [Bool.and_eq_true, decide_eq_true_eq] at hl
        obtain ⟨x, rfl, g1, g2⟩ := h
        exact ⟨x, rfl, by omega, by omega⟩
      · cases hl
    · rename_i κ nn _
      split at hl
      · have hl : nn = false := by simpa using hl
        exact ⟨Or.inl ⟨hl, h⟩, fun k hk => by cases hk⟩
      · rename_i κ' b1 b2
        simp only [Bool.and_eq_true, Bool.or_eq_true] at hl
        have e1 := Nat.eq_of_beq_eq_true hl.1
        subst e1
        refine ⟨?_, fun k hk => by cases hk⟩
        rcases h.1 with ⟨h1, h2⟩ | h1
        · rcases hl.2 with h3 | h3
          · exact Or.inl ⟨by simpa using h3, h2⟩
          · obtain ⟨q, hq⟩ := f_nn_ok hE h h3
            rw [hq] at h2
            cases h2
        · exact Or.inr h1
      · cases hl
    · cases hl
theorem g_les_ok (hE : henv I.1 n E) : ∀ {x y : List BV} {vs : List Value}, hvs I x vs → g_les E x y = true → hvs I y vs := by
  intro x
  induction x with
  | nil =>
    intro y vs h1 h2
    cases y with
    | nil => exact h1
    | cons => cases h2
  | cons a r ih =>
    intro y vs h1 h2
    cases y with
    | nil => cases h2
    | cons a' r' =>
      simp only [g_les, Bool.and_eq_true] at h2
      obtain ⟨v, vs', rfl, g1, g2⟩ := hvs_cons h1
      exact ⟨g_le_ok hE g1 h2.1, ih g2 h2.2⟩
/-- fact 0 says: not more -/
def FP0 (FP : Nat → CUt → List Int → Prop) : Prop := ∀ (cu : CUt) (zs : List Int), FP 0 cu zs ↔ ∃ x y, zs = [x, y] ∧ x ≤ y
theorem sf_le {cu : CUt} {f : SFt} {x y : BV} (h0 : FP0 FP) (h : hsf FP I cu f) (e1 : f.1 = 0) (e2 : f.2 = [x, y]) : hle I.1 (x, y) := by
  obtain ⟨zs, g1, g2⟩ := h
  rw [e1] at g2
  rw [e2] at g1
  obtain ⟨a, b, rfl, h3⟩ := (h0 _ _).mp g2
  simp only [f_evs] at g1
  split at g1
  · rename_i z zs' h1 h2
    split at h2
    · rename_i z2 zs2 h4 h5
      cases h5
      cases h2
      cases g1
      exact ⟨_, _, h1, h4, h3⟩
    · cases h2
  · cases g1
theorem g_leq_ok {cu : CUt} {SF : List SFt} (h0 : FP0 FP) (hE : henv I.1 n E) (hS : ∀ f ∈ SF, hsf FP I cu f) : ∀ (fuel : Nat) {a b : BV} {x y : Int}, g_leq E SF fuel a b = true → f_ev I.1 a = some x → f_ev I.1 b = some y → x ≤ y := by
  intro fuel
  induction fuel with
  | zero => intro a b x y h ha hb; exact f_lez_ok hE h ha hb
  | succ fuel ih =>
    intro a b x y h ha hb
    simp only [g_leq, Bool.or_eq_true] at h
    rcases h with h | h
    · exact f_lez_ok hE h ha hb
    · split at h
      · rename_i k c
        obtain ⟨f, hf, h1⟩ := List.any_eq_true.mp h
        simp only [Bool.and_eq_true] at h1
        have e1 := Nat.eq_of_beq_eq_true h1.1
        have h2 := h1.2
        split at h2
        · rename_i k1 c1 y1 hf2
          simp only [Bool.and_eq_true] at h2
          have e2 := Nat.eq_of_beq_eq_true h2.1
          subst e2
          obtain ⟨w1, w2, g1, g2, g3⟩ := sf_le h0 (hS f hf) e1 hf2
          simp only at g1 g2
          have := ih h2.2 (ev_off g2) hb
          simp only [f_ev] at ha g1
          split at ha
          · rename_i y0 hy
            rw [hy] at g1
            simp only [Option.some.injEq] at ha g1
            omega
          · cases ha
        · cases h2
      · cases h
theorem g_ckS_ok {ν : List Int} {σ : List BV} (hn : ν.length = n) : g_ckS n σ = true → ∃ zs, f_evs ν σ = some zs ∧ zs.length = σ.length := by
  induction σ with
  | nil => intro _; exact ⟨[], rfl, rfl⟩
  | cons b r ih =>
    intro h
    simp only [g_ckS, List.all_cons, Bool.and_eq_true] at h
    obtain ⟨zs, g1, g2⟩ := ih h.2
    have : ∃ z, f_ev ν b = some z := by
      have h1 := h.1
      split at h1
      · exact ⟨_, rfl⟩
      · rename_i k c
        have hk := of_decide_eq_true h1
        have : ν[k]? = some ν[k] := List.getElem?_eq_getElem (by omega)
        exact ⟨ν[k] + c, by simp only [f_ev, this]⟩
      · cases h1
    obtain ⟨z, hz⟩ := this
    exact ⟨z :: zs, by simp only [f_evs, hz, g1], by simp [g2]⟩
theorem f_lk_in {E : EB} {k : Nat} {q : Int × Int} : f_lk E k = some q → (k, q) ∈ E := by
  induction E with
  | nil => intro h; cases h
  | cons x r ih =>
    obtain ⟨j, q'⟩ := x
    intro h
    simp only [f_lk] at h
    split at h
    · rename_i h1
      have h1 := Nat.eq_of_beq_eq_true h1
      subst h1
      cases h
      exact List.mem_cons_self
    · exact List.mem_cons_of_mem _ (ih h)
theorem g_match_ok {F F' : FS} {σ : List BV} {lo lo' : List (Nat × BV)} {st st' : List BV} {ls : Array Slot} {nL : Nat} {lv : List (Nat × Value)} {vs : List Value} (h0 : FP0 FP) (h : HS T FP cy I ks wp F) (hl : lv_has ls nL lv) (hlo : hlv I lo lv) (hst : hvs I st vs)
    (c0 : g_ckS F.1 σ = true) (c1 : σ.length = F'.1) (c2 : g_ckE F.2.1 σ F'.2.1 = true) (c3 : g_ckC F.2.1 F.2.2.1 σ F'.2.2.1 = true) (c4 : g_ckF F.2.1 F.2.2.2 σ F'.2.2.2 = true) (c5 : g_ckL F.2.1 lo σ lo' = true) (c6 : g_ckT F.2.1 st σ st' = true) :
    ∃ zs, f_evs I.1 σ = some zs ∧ HS T FP cy (zs, I.2) ks wp F' ∧ (∃ lv', lv_has ls nL lv' ∧ hlv (zs, I.2) lo' lv') ∧ hvs (zs, I.2) st' vs := by
  obtain ⟨n, E, CF, SF⟩ := F
  obtain ⟨n', E', CF', SF'⟩ := F'
  simp only at c0 c1 c2 c3 c4 c5 c6
  obtain ⟨hp, hE, hC, hS⟩ := h
  simp only at hE hC hS
  obtain ⟨zs, z1, z2⟩ := g_ckS_ok hE.1 c0
  refine ⟨zs, z1, ⟨hp, ⟨by rw [z2]; exact c1, fun k q hk => ?_⟩, fun f hf => ?_, fun f hf => ?_⟩, ?_, ?_⟩
  · have h1 := List.all_eq_true.mp c2 _ (f_lk_in hk)
    simp only at h1
    split at h1
    · rename_i b hb
      split at h1
      · rename_i l9 h9 hiv
        simp only [Bool.and_eq_true, decide_eq_true_eq] at h1
        obtain ⟨y, g1, g2⟩ := f_evs_at z1 hb
        have := ev_iv hE g2 hiv
        exact ⟨y, g1, by omega, by omega⟩
      · cases h1
    · cases h1
  · obtain ⟨κ, b, p, v⟩ := f
    have h1 := List.all_eq_true.mp c3 _ hf
    simp only at h1
    split at h1
    · rename_i b' p' v' hb hp9 hv9
      split at h1
      · rename_i w hw
        obtain ⟨i, q, e, z, x, g1, g2, g3, g4, g5, g6⟩ := hC _ (f_cf_in hw)
        simp only at g1 g3 g4 g6
        have hpI : f_isI p = true := by
          rcases p with c | ⟨k, c⟩ | ⟨l0, h0⟩ | (_ | ⟨κ, nn, nm⟩) | j
          · rfl
          · rfl
          · cases hp9; cases g4
          · cases hp9; cases g4
          · exfalso
            cases nm with
            | none => cases hp9; cases g4
            | some k0 =>
              simp only [g_sub] at hp9
              split at hp9
              · split at hp9
                · cases hp9; cases g4
                · cases hp9
              · cases hp9
          · cases hp9; cases g4
        obtain ⟨z', w1, w2⟩ := g_sub_ev z1 hp9 hpI
        rw [g4] at w2
        cases w2
        refine ⟨i, q, e, z, x, g1, g2, ?_, w1, g5, (g_sub_iff z1 hv9).mpr (g_le_ok hE g6 h1)⟩
        split at hb
        · cases hb; exact g3
        · rename_i k0
          split at hb
          · rename_i k' c hs
            split at hb
            · rename_i q0
              have q0 := of_decide_eq_true q0
              subst q0
              cases hb
              have g3 : I.1[k']? = some (q : Int) := g3
              show zs[k0]? = some (q : Int)
              obtain ⟨y, w3, w4⟩ := f_evs_at z1 hs
              simp only [f_ev, g3] at w4
              rw [w3]
              simpa using w4.symm
            · cases hb
          · cases hb
      · cases h1
    · cases h1
  · obtain ⟨id, as⟩ := f
    have h1 := List.all_eq_true.mp c4 _ hf
    simp only at h1
    split at h1
    · rename_i bs hbs
      have evs : ∀ {as bs : List BV} {zs' : List Int}, g_subs σ as = some bs → f_evs I.1 bs = some zs' → f_evs zs as = some zs' := by
        intro as
        induction as with
        | nil => intro bs zs' h1 h2; cases h1; exact h2
        | cons a r ih =>
          intro bs zs' h1 h2
          simp only [g_subs] at h1
          split at h1
          · rename_i b bs' h3 h4
            cases h1
            simp only [f_evs] at h2 ⊢
            split at h2
            · rename_i z zs2 h5 h6
              cases h2
              have ha : f_isI a = true := by
                rcases a with c | ⟨k, c⟩ | ⟨l0, h0⟩ | (_ | ⟨κ, nn, nm⟩) | j
                · rfl
                · rfl
                · cases h3; cases h5
                · cases h3; cases h5
                · exfalso
                  cases nm with
                  | none => cases h3; cases h5
                  | some k0 =>
                    simp only [g_sub] at h3
                    split at h3
                    · split at h3
                      · cases h3; cases h5
                      · cases h3
                    · cases h3
                · cases h3; cases h5
              obtain ⟨z', w1, w2⟩ := g_sub_ev z1 h3 ha
              rw [h5] at w2
              cases w2
              rw [w1, ih h4 h6]
            · cases h2
          · cases h1
      simp only [Bool.or_eq_true] at h1
      rcases h1 with h1 | h1
      · obtain ⟨f1, hf1, h2⟩ := List.any_eq_true.mp h1
        simp only [Bool.and_eq_true] at h2
        obtain ⟨zs', w1, w2⟩ := hS f1 hf1
        rw [bvs_eq_ok h2.2] at w1
        rw [Nat.eq_of_beq_eq_true h2.1] at w2
        exact ⟨zs', evs hbs w1, w2⟩
      · simp only [Bool.and_eq_true] at h1
        have e1 := Nat.eq_of_beq_eq_true h1.1
        subst e1
        have h2 := h1.2
        split at h2
        · rename_i x y
          have hx : ∀ {a : BV} {fuel : Nat} {b : BV}, (g_leq E SF fuel a b = true) → f_isI a = true ∧ f_isI b = true := by
            intro a fuel
            have lz : ∀ {a b : BV}, f_lez E a b = true → f_isI a = true ∧ f_isI b = true := by
              intro a b h
              unfold f_lez at h
              split at h
              · exact ⟨rfl, rfl⟩
              · split at h
                · rename_i q1 q2
                  exact ⟨f_iv_isI q1, f_iv_isI q2⟩
                · cases h
            induction fuel generalizing a with
            | zero => intro b h; exact lz h
            | succ fuel ih =>
              intro b h
              simp only [g_leq, Bool.or_eq_true] at h
              rcases h with h | h
              · exact lz h
              · split at h
                · obtain ⟨f, hf, h3⟩ := List.any_eq_true.mp h
                  simp only [Bool.and_eq_true] at h3
                  have h4 := h3.2
                  split at h4
                  · simp only [Bool.and_eq_true] at h4
                    exact ⟨rfl, (ih h4.2).2⟩
                  · cases h4
                · cases h
          obtain ⟨i1, i2⟩ := hx h2
          have bev : ∀ {as : List BV} {k : Nat} {b : BV} {bs : List BV}, g_subs σ as = some bs → bs[k]? = some b → f_isI b = true → ∃ z, f_ev I.1 b = some z := by
            intro as
            induction as with
            | nil => intro k b bs h3 h4; cases h3; simp at h4
            | cons a r ih =>
              intro k b bs h3 h4 h5
              simp only [g_subs] at h3
              split at h3
              · rename_i b0 bs' h6 h7
                cases h3
                cases k with
                | zero =>
                  simp at h4
                  subst h4
                  have ha : f_isI a = true := by
                    rcases a with c | ⟨k, c⟩ | ⟨l0, h0⟩ | (_ | ⟨κ, nn, nm⟩) | j
                    · rfl
                    · rfl
                    · cases h6; cases h5
                    · cases h6; cases h5
                    · exfalso
                      cases nm with
                      | none => cases h6; cases h5
                      | some k0 =>
                        simp only [g_sub] at h6
                        split at h6
                        · split at h6
                          · cases h6; cases h5
                          · cases h6
                        · cases h6
                    · cases h6; cases h5
                  obtain ⟨z', w1, w2⟩ := g_sub_ev z1 h6 ha
                  exact ⟨z', w2⟩
                | succ k => simp at h4; exact ih h7 h4 h5
              · cases h3
          obtain ⟨zx, ex⟩ := bev (k := 0) hbs rfl i1
          obtain ⟨zy, ey⟩ := bev (k := 1) hbs rfl i2
          have := g_leq_ok h0 hE hS 6 h2 ex ey
          refine ⟨[zx, zy], evs hbs (by simp only [f_evs, ex, ey]), (h0 _ _).mpr ⟨zx, zy, rfl, this⟩⟩
        · cases h2
    · cases h1
  · clear c6 hst
    induction lo' with
    | nil => exact ⟨[], ⟨hl.1, hl.2.1, fun q hq => by cases hq⟩, trivial⟩
    | cons q r ih =>
      obtain ⟨i, a'⟩ := q
      simp only [g_ckL, List.all_cons, Bool.and_eq_true] at c5
      obtain ⟨lv', g1, g2⟩ := ih c5.2
      have h1 := c5.1
      split at h1
      · rename_i a b ha hb
        obtain ⟨k, v, e1, g3⟩ := f_find_ok hlo ha
        refine ⟨(i, v) :: lv', ⟨g1.1, g1.2.1, fun q hq => ?_⟩, ⟨rfl, (g_sub_iff z1 hb).mpr (g_le_ok hE g3 h1)⟩, g2⟩
        rcases List.mem_cons.mp hq with rfl | hq
        · exact lv_at hl k e1
        · exact g1.2.2 q hq
      · cases h1
  · unfold g_ckT at c6
    split at c6
    · rename_i bs hbs
      exact (g_subs_iff z1 hbs).mpr (g_les_ok hE hst c6)
    · cases c6
end BMATCH
