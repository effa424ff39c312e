/-! hooks of the reference: codes, stack, ones of a sentence -/
/-- the code that was added: where the next lies, the depth behind it -/
def h_ca (E : EB) (CF : List CFt) (c : BV) (L : List SFt) : Option (BV × BV) := match L with
  | [] => none
  | f :: r => (match f.1, f.2 with
    | 70, [a, z, D] => if bv_eq a (f_off c (-1)) = true then (match f_cf CF 29 none z with
      | some v => (match f_iv E v, f_iv E D with
        | some (l, h), some (d, _) => if (decide (h < 20) || decide (22 < l)) = true then some (z, f_off D 1) else if (decide (l = 20) && (decide (h = 20) && decide (1 ≤ d))) = true then some (z, f_off D 0) else if (decide (21 ≤ l) && (decide (h ≤ 22) && decide (2 ≤ d))) = true then some (z, f_off D (-1)) else h_ca E CF c r
        | _, _ => h_ca E CF c r)
      | none => h_ca E CF c r) else h_ca E CF c r
    | _, _ => h_ca E CF c r)
def hk_codeadd (κ k : Nat) : HKt := fun S => match S.2.2.2.1 with
  | (n, E, CF, SF) => (match f_cf CF κ none (bI (k : Int)) with
    | some c => (match h_ca E CF c SF with
      | some (z, D) => if (f_isI c && h_in E (some c) 1 1000000) = true then some [(n, E, CF, (70, [c, f_off z 3, D]) :: (23, [bI 3, c, f_off z 3]) :: SF)] else some [(n, E, CF, SF)]
      | none => some [(n, E, CF, SF)])
    | none => some [(n, E, CF, SF)])
/-- joins in the stack below a place -/
def h_jn (t : BV) (L : List SFt) : Option BV := match L with
  | [] => none
  | f :: r => (match f.1, f.2 with
    | 71, [a, b] => if bv_eq a t = true then some b else h_jn t r
    | _, _ => h_jn t r)
def h_isJ (E : EB) (v : Option BV) : Bool := h_in E v 21 22
def h_noJ (E : EB) (v : Option BV) : Bool := match v with
  | some a => (match f_iv E a with | some (l, h) => decide (h < 21) || decide (22 < l) | none => false)
  | none => false
def hk_pop (κ k : Nat) : HKt := fun S => match S.2.2.2.1 with
  | (n, E, CF, SF) => (match f_cf CF κ none (bI (k : Int)) with
    | some t => (match h_jn (f_off t 1) SF with
      | some b => if (f_isI t && h_in E (some t) 0 1000000) = true then (if h_isJ E (f_cf CF 39 none t) = true then (match f_iv E b with
          | some (_, h) => (match f_clamp E b 1 h with
            | some E1 => some [(n, E1, CF, (71, [t, f_off b (-1)]) :: SF)]
            | none => some [])
          | none => none) else if (h_noJ E (f_cf CF 39 none t) || f_sin SF 76 [f_off t 1]) = true then some [(n, E, CF, (71, [t, f_off b 0]) :: SF)] else some [(n, E, CF, SF)]) else some [(n, E, CF, SF)]
      | none => some [(n, E, CF, SF)])
    | none => some [(n, E, CF, SF)])
def hk_push (κ k : Nat) : HKt := fun S => match S.2.2.2.1 with
  | (n, E, CF, SF) => (match f_cf CF κ none (bI (k : Int)) with
    | some t => (match h_jn (f_off t (-1)) SF with
      | some b => if (f_isI t && h_in E (some t) 1 1000000) = true then (if h_isJ E (f_cf CF 39 none (f_off t (-1))) = true then some [(n, E, CF, (71, [t, f_off b 1]) :: SF)] else if h_noJ E (f_cf CF 39 none (f_off t (-1))) = true then some [(n, E, CF, (71, [t, f_off b 0]) :: SF)] else some [(n, E, CF, SF)]) else some [(n, E, CF, SF)]
      | none => some [(n, E, CF, SF)])
    | none => some [(n, E, CF, SF)])
/-- the top of the stack is no join -/
def hk_notbin (κ k : Nat) : HKt := fun S => match S.2.2.2.1 with
  | (n, E, CF, SF) => (match f_cf CF κ none (bI (k : Int)) with
    | some t => if (f_isI t && ((h_in E (some t) 0 0) || (h_in E (some t) 1 1000000 && h_noJ E (f_cf CF 39 none (f_off t (-1)))))) = true then some [(n, E, CF, (76, [t]) :: SF)] else some [(n, E, CF, SF)]
    | none => some [(n, E, CF, SF)])
section HK8
variable {T : TBt} {cy : Nat → ClassId} {I : IN} {ks : List Nat} {wp : va_W} {F : FS}
theorem evs_three {ν : List Int} {a b c : BV} {x y z : Int} (h : f_evs ν [a, b, c] = some [x, y, z]) : f_ev ν a = some x ∧ f_ev ν b = some y ∧ f_ev ν c = some z := by
  simp only [f_evs] at h
  cases hc : f_ev ν a with
  | none => rw [hc] at h; cases h
  | some c9 =>
    cases ht : f_ev ν b with
    | none => rw [hc, ht] at h; cases h
    | some t9 =>
      cases ho : f_ev ν c with
      | none => rw [hc, ht, ho] at h; cases h
      | some o9 =>
        rw [hc, ht, ho] at h
        simp only [Option.some.injEq, List.cons.injEq, and_true] at h
        obtain ⟨rfl, rfl, rfl⟩ := h
        exact ⟨rfl, rfl, rfl⟩
/-- a cell's number, what lies between -/
theorem cell_ev {κ : Nat} {p k : BV} {lo hi : Int} (hF : HS T FPX cy I ks wp F) (hk : f_cf F.2.2.1 κ none p = some k) (h1 : f_isI k = true) (h2 : h_in F.2.1 (some k) lo hi = true) : ∃ y : Int32, f_ev I.1 k = some y.toInt ∧ lo ≤ y.toInt ∧ y.toInt ≤ hi := by
  obtain ⟨i, q9, e, z', x, g1, g2, g3, g4, g5, g6⟩ := hF.2.2.1 _ (f_cf_in hk)
  simp only at g6
  obtain ⟨y, rfl, hy⟩ := (hv_ev_iff h1).mp g6
  simp only [h_in] at h2
  split at h2
  · rename_i l h9 hiv
    simp only [Bool.and_eq_true, decide_eq_true_eq] at h2
    have w := ev_iv hF.2.1 hy hiv
    exact ⟨y, hy, by omega, by omega⟩
  · cases h2
theorem rdep_leaf {f : Nat → Int} {k : Nat} {d : Int} (h : rdep f k = some d) (h1 : f k < 20 ∨ 22 < f k) : rdep f (k + 1) = some (d + 1) := by
  have a : ¬ (decide (f k = 20) = true) := by rw [decide_eq_true_eq]; omega
  have b : ¬ (isJoin (f k) = true) := by unfold isJoin; rw [Bool.or_eq_true, decide_eq_true_eq, decide_eq_true_eq]; omega
  simp only [rdep, h]
  rw [if_neg a, if_neg b]
theorem rdep_not {f : Nat → Int} {k : Nat} {d : Int} (h : rdep f k = some d) (h1 : f k = 20) (h2 : 1 ≤ d) : rdep f (k + 1) = some d := by
  have a : decide (f k = 20) = true := by rw [decide_eq_true_eq]; omega
  have b : decide (1 ≤ d) = true := by rw [decide_eq_true_eq]; omega
  simp only [rdep, h]
  rw [if_pos a, if_pos b]
theorem rdep_join {f : Nat → Int} {k : Nat} {d : Int} (h : rdep f k = some d) (h1 : 21 ≤ f k ∧ f k ≤ 22) (h2 : 2 ≤ d) : rdep f (k + 1) = some (d + -1) := by
  have a : ¬ (decide (f k = 20) = true) := by rw [decide_eq_true_eq]; omega
  have b : isJoin (f k) = true := by unfold isJoin; rw [Bool.or_eq_true, decide_eq_true_eq, decide_eq_true_eq]; omega
  have c : decide (2 ≤ d) = true := by rw [decide_eq_true_eq]; omega
  simp only [rdep, h]
  rw [if_neg a, if_pos b, if_pos c]
  rfl
theorem h_ca_ok {n : Nat} {E : EB} {CF : List CFt} {SF : List SFt} {c z D : BV} (hF : HS T FPX cy I ks wp (n, E, CF, SF)) : ∀ {L : List SFt}, (∀ f ∈ L, hsf FPX I (c_cu ks wp) f) → h_ca E CF c L = some (z, D) → ∃ (k : Nat) (d : Int), f_ev I.1 (f_off c (-1)) = some (k : Int) ∧ f_ev I.1 z = some (3 * (k : Int)) ∧ f_ev I.1 D = some d ∧ rdep (fun j => cint (c_cu ks wp) 29 (3 * j)) (k + 1) = some d := by
  intro L
  induction L with
  | nil => intro _ h; cases h
  | cons f r ih =>
    obtain ⟨id, as⟩ := f
    intro hL h
    have ihr := ih (fun f9 h9 => hL f9 (List.mem_cons_of_mem _ h9))
    unfold h_ca at h
    simp only at h
    split at h
    · rename_i a z9 D9
      split at h
      · rename_i q
        split at h
        · rename_i v hv9
          split at h
          · rename_i l h9 d d9 hl hd
            obtain ⟨zs, z1, k, e, rfl, hdep⟩ := hL _ List.mem_cons_self
            obtain ⟨k1, k2, k3⟩ := evs_three z1
            rw [bv_eq_ok q] at k1
            obtain ⟨z', g1, g2, g3⟩ := hcf_cint hF (f_cf_in hv9) hl
            rw [k2] at g1
            have g4 : z' = 3 * k := by have := Option.some.inj g1; omega
            subst g4
            have wd := ev_iv hF.2.1 k3 hd
            split at h
            · rename_i q1
              simp only [Bool.or_eq_true, decide_eq_true_eq] at q1
              cases h
              exact ⟨k, e + 1, k1, k2, ev_off k3, rdep_leaf hdep (by omega)⟩
            · split at h
              · rename_i q1
                simp only [Bool.and_eq_true, decide_eq_true_eq] at q1
                cases h
                refine ⟨k, e + 0, k1, k2, ev_off k3, ?_⟩
                rw [Int.add_zero]
                exact rdep_not hdep (by omega) (by omega)
              · split at h
                · rename_i q1
                  simp only [Bool.and_eq_true, decide_eq_true_eq] at q1
                  cases h
                  exact ⟨k, e + (-1), k1, k2, ev_off k3, rdep_join hdep (by omega) (by omega)⟩
                · exact ihr h
          · exact ihr h
        · exact ihr h
      · exact ihr h
    · exact ihr h
theorem hk_codeadd_ok {κ c : Nat} : HKP T FPX cy (hk_codeadd κ c) := by
  intro S L h I ks wp lv vs _ _ _ hF
  obtain ⟨pc, lo, st, ⟨n, E, CF, SF⟩, q⟩ := S
  unfold hk_codeadd at h
  simp only at h hF
  have same : ∃ F ∈ [((n, E, CF, SF) : FS)], ∃ J : IN, hxt I J ∧ J.2 = I.2 ∧ HS T FPX cy J ks wp F := ⟨_, List.mem_cons_self, I, hxt.rf, rfl, hF⟩
  split at h
  · rename_i k hk
    split at h
    · rename_i z D hz
      split at h
      · rename_i q
        simp only [Bool.and_eq_true] at q
        cases h
        obtain ⟨y, hy, y1, y2⟩ := cell_ev hF hk q.1 q.2
        obtain ⟨j, d, j1, j2, j3, j4⟩ := h_ca_ok hF hF.2.2.2 hz
        rw [ev_off hy] at j1
        have j5 := Option.some.inj j1
        obtain ⟨b1, -, -⟩ := mul_in (x := 3) (m := 3) (y := y) (l := 0) (h := 1000000) rfl (by omega) (by omega) (by omega) (by omega) (by omega) (by omega)
        have hF1 := hF.sf (f := (23, [bI 3, k, f_off z 3])) ⟨[3, y.toInt, 3 * (j : Int) + 3], by simp only [f_evs, hy, ev_off j2]; rfl, 3, y, by
          show _ = [(3 : Int32).toInt, y.toInt, (3 * y).toInt]
          rw [b1, show 3 * (j : Int) + 3 = 3 * y.toInt by omega]; rfl⟩
        refine ⟨_, List.mem_cons_self, I, hxt.rf, rfl, hF1.sf ⟨[y.toInt, 3 * (j : Int) + 3, d], ?_, j + 1, d, ?_, j4⟩⟩
        · simp only [f_evs, hy, ev_off j2, j3]
        · rw [show y.toInt = ((j + 1 : Nat) : Int) by omega, show 3 * (j : Int) + 3 = 3 * ((j + 1 : Nat) : Int) by omega]
      · cases h; exact same
    · cases h; exact same
  · cases h; exact same
theorem h_jn_ok {t b : BV} : ∀ {L : List SFt}, h_jn t L = some b → (71, [t, b]) ∈ L := by
  intro L
  induction L with
  | nil => intro h; cases h
  | cons f r ih =>
    obtain ⟨id, as⟩ := f
    intro h
    unfold h_jn at h
    simp only at h
    split at h
    · rename_i a z9
      split at h
      · rename_i q
        cases h
        rw [← bv_eq_ok q]
        exact List.mem_cons_self
      · exact List.mem_cons_of_mem _ (ih h)
    · exact List.mem_cons_of_mem _ (ih h)
theorem h_isJ_ok {p : BV} {z : Nat} (hF : HS T FPX cy I ks wp F) (hz : f_ev I.1 p = some (z : Int)) (h : h_isJ F.2.1 (f_cf F.2.2.1 39 none p) = true) : isJoin (cint (c_cu ks wp) 39 z) = true := by
  have w := h_in_ok hF hz h
  simp only [isJoin, Bool.or_eq_true, decide_eq_true_eq]
  omega
theorem h_noJ_ok {p : BV} {z : Nat} (hF : HS T FPX cy I ks wp F) (hz : f_ev I.1 p = some (z : Int)) (h : h_noJ F.2.1 (f_cf F.2.2.1 39 none p) = true) : isJoin (cint (c_cu ks wp) 39 z) = false := by
  cases hc : f_cf F.2.2.1 39 none p with
  | none => rw [hc] at h; cases h
  | some a =>
    rw [hc] at h
    simp only [h_noJ] at h
    split at h
    · rename_i l9 h9 hiv
      simp only [Bool.or_eq_true, decide_eq_true_eq] at h
      obtain ⟨z', g1, g2, g3⟩ := hcf_cint hF (f_cf_in hc) hiv
      rw [hz] at g1
      have : z = z' := by have := Option.some.inj g1; omega
      subst this
      simp only [isJoin, Bool.or_eq_false_iff, decide_eq_false_iff_not]
      omega
    · cases h
theorem hk_pop_ok {κ c : Nat} : HKP T FPX cy (hk_pop κ c) := by
  intro S L h I ks wp lv vs _ _ _ hF
  obtain ⟨pc, lo, st, ⟨n, E, CF, SF⟩, q⟩ := S
  unfold hk_pop at h
  simp only at h hF
  have same : ∃ F ∈ [((n, E, CF, SF) : FS)], ∃ J : IN, hxt I J ∧ J.2 = I.2 ∧ HS T FPX cy J ks wp F := ⟨_, List.mem_cons_self, I, hxt.rf, rfl, hF⟩
  split at h
  · rename_i t ht
    split at h
    · rename_i b hb
      split at h
      · rename_i q
        simp only [Bool.and_eq_true] at q
        obtain ⟨y, hy, y1, y2⟩ := cell_ev hF ht q.1 q.2
        obtain ⟨j, hj⟩ : ∃ j : Nat, y.toInt = (j : Int) := ⟨y.toInt.toNat, by omega⟩
        rw [hj] at hy
        obtain ⟨zs, z1, m, rfl⟩ := hF.2.2.2 _ (h_jn_ok hb)
        obtain ⟨k1, k2⟩ := evs_two z1
        rw [ev_off hy] at k1
        have hm : m = j + 1 := by have := Option.some.inj k1; omega
        subst hm
        simp only [njoin] at k2
        split at h
        · rename_i q1
          have hJ := h_isJ_ok hF hy q1
          rw [if_pos hJ] at k2
          have hpos := (njoin_in (f := cint (c_cu ks wp) 39) j).1
          split at h
          · rename_i l9 h9 hiv
            have w := ev_iv hF.2.1 k2 hiv
            obtain ⟨E1, e1, e2, -⟩ := f_clamp_ev (lo := 1) (hi := h9) hF.2.1 k2 ⟨_, hiv⟩ (by omega) (by omega)
            rw [e1] at h
            cases h
            have hF1 : HS T FPX cy I ks wp (n, E1, CF, SF) := ⟨hF.1, e2, hF.2.2.1, hF.2.2.2⟩
            refine ⟨_, List.mem_cons_self, I, hxt.rf, rfl, hF1.sf ⟨[(j : Int), njoin (cint (c_cu ks wp) 39) j], ?_, j, rfl⟩⟩
            simp only [f_evs, hy, ev_off k2]
            rw [show njoin (cint (c_cu ks wp) 39) j + 1 + -1 = njoin (cint (c_cu ks wp) 39) j by omega]
          · cases h
        · split at h
          · rename_i q2
            cases h
            have hJ : isJoin (cint (c_cu ks wp) 39 j) = false := by
              rcases Bool.or_eq_true_iff.mp q2 with q2 | q2
              · exact h_noJ_ok hF hy q2
              · obtain ⟨zs, z1, m, rfl, hm⟩ := hF.2.2.2 _ (f_sin_ok q2)
                simp only [f_evs, ev_off hy, Option.some.injEq, List.cons.injEq, and_true] at z1
                have e9 : m = j + 1 := by omega
                subst e9
                rcases hm with hm | hm
                · omega
                · exact hm
            rw [if_neg (by rw [hJ]; simp)] at k2
            refine ⟨_, List.mem_cons_self, I, hxt.rf, rfl, hF.sf ⟨[(j : Int), njoin (cint (c_cu ks wp) 39) j], ?_, j, rfl⟩⟩
            simp only [f_evs, hy, ev_off k2]
            rw [show njoin (cint (c_cu ks wp) 39) j + 0 + 0 = njoin (cint (c_cu ks wp) 39) j by omega]
          · cases h; exact same
      · cases h; exact same
    · cases h; exact same
  · cases h; exact same
theorem hk_push_ok {κ c : Nat} : HKP T FPX cy (hk_push κ c) := by
  intro S L h I ks wp lv vs _ _ _ hF
  obtain ⟨pc, lo, st, ⟨n, E, CF, SF⟩, q⟩ := S
  unfold hk_push at h
  simp only at h hF
  have same : ∃ F ∈ [((n, E, CF, SF) : FS)], ∃ J : IN, hxt I J ∧ J.2 = I.2 ∧ HS T FPX cy J ks wp F := ⟨_, List.mem_cons_self, I, hxt.rf, rfl, hF⟩
  split at h
  · rename_i t ht
    split at h
    · rename_i b hb
      split at h
      · rename_i q
        simp only [Bool.and_eq_true] at q
        obtain ⟨y, hy, y1, y2⟩ := cell_ev hF ht q.1 q.2
        obtain ⟨zs, z1, m, rfl⟩ := hF.2.2.2 _ (h_jn_ok hb)
        obtain ⟨k1, k2⟩ := evs_two z1
        have k1' := k1
        rw [ev_off hy] at k1
        have hm : y.toInt = ((m + 1 : Nat) : Int) := by have := Option.some.inj k1; omega
        rw [hm] at hy
        split at h
        · rename_i q1
          have hJ := h_isJ_ok hF k1' q1
          cases h
          refine ⟨_, List.mem_cons_self, I, hxt.rf, rfl, hF.sf ⟨[((m + 1 : Nat) : Int), njoin (cint (c_cu ks wp) 39) (m + 1)], ?_, m + 1, rfl⟩⟩
          simp only [f_evs, hy, ev_off k2, njoin]
          rw [if_pos hJ]
        · split at h
          · rename_i q1
            have hJ := h_noJ_ok hF k1' q1
            cases h
            refine ⟨_, List.mem_cons_self, I, hxt.rf, rfl, hF.sf ⟨[((m + 1 : Nat) : Int), njoin (cint (c_cu ks wp) 39) (m + 1)], ?_, m + 1, rfl⟩⟩
            simp only [f_evs, hy, ev_off k2, njoin]
            rw [if_neg (by rw [hJ]; simp)]
          · cases h; exact same
      · cases h; exact same
    · cases h; exact same
  · cases h; exact same
theorem hk_notbin_ok {κ c : Nat} : HKP T FPX cy (hk_notbin κ c) := by
  intro S L h I ks wp lv vs _ _ _ hF
  obtain ⟨pc, lo, st, ⟨n, E, CF, SF⟩, q⟩ := S
  unfold hk_notbin at h
  simp only at h hF
  have same : ∃ F ∈ [((n, E, CF, SF) : FS)], ∃ J : IN, hxt I J ∧ J.2 = I.2 ∧ HS T FPX cy J ks wp F := ⟨_, List.mem_cons_self, I, hxt.rf, rfl, hF⟩
  split at h
  · rename_i t ht
    split at h
    · rename_i q
      simp only [Bool.and_eq_true] at q
      obtain ⟨q1, q2⟩ := q
      cases h
      rcases Bool.or_eq_true_iff.mp q2 with q2 | q2
      · obtain ⟨y, hy, y1, y2⟩ := cell_ev hF ht q1 q2
        refine ⟨_, List.mem_cons_self, I, hxt.rf, rfl, hF.sf ⟨[y.toInt], by simp only [f_evs, hy], 0, ?_, Or.inl rfl⟩⟩
        rw [show y.toInt = ((0 : Nat) : Int) by omega]
      · simp only [Bool.and_eq_true] at q2
        obtain ⟨y, hy, y1, y2⟩ := cell_ev hF ht q1 q2.1
        obtain ⟨j, hj⟩ : ∃ j : Nat, y.toInt = ((j + 1 : Nat) : Int) := ⟨y.toInt.toNat - 1, by omega⟩
        have h1 : f_ev I.1 (f_off t (-1)) = some (j : Int) := by rw [ev_off hy]; congr 1; omega
        have hJ := h_noJ_ok hF h1 q2.2
        refine ⟨_, List.mem_cons_self, I, hxt.rf, rfl, hF.sf ⟨[y.toInt], by simp only [f_evs, hy], j + 1, by rw [hj], Or.inr hJ⟩⟩
    · cases h; exact same
  · cases h; exact same
end HK8
