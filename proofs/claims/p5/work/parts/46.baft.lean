/-! behind a call by a contract -/
section BAFT
variable {T : TBt} {FP : Nat → CUt → List Int → Prop} {cy : Nat → ClassId} {I J : IN} {ks ks' : List Nat} {wp wp' : va_W} {n : Nat} {E : EB}
theorem c_fi_ix : ∀ {ks : List Nat} {wp : va_W} {κ : Nat} {e : va_E}, c_fi ks wp κ = some e → ∃ (i q : Nat), ks[i]? = some κ ∧ wp[i]? = some (q, e) ∧ ∀ i', i' < i → ks[i']? ≠ some κ := by
  intro ks
  induction ks with
  | nil => intro wp κ e h; simp only [c_fi] at h; cases h
  | cons k r ih =>
    intro wp κ e h
    cases wp with
    | nil => simp only [c_fi] at h; cases h
    | cons q w =>
      simp only [c_fi] at h
      split at h
      · rename_i h1
        have h1 := Nat.eq_of_beq_eq_true h1
        subst h1
        cases h
        exact ⟨0, q.1, rfl, rfl, fun i' h => absurd h (Nat.not_lt_zero _)⟩
      · rename_i h1
        obtain ⟨i, q0, g1, g2, g3⟩ := ih h
        refine ⟨i + 1, q0, g1, g2, fun i' hi => ?_⟩
        cases i' with
        | zero =>
          intro h2
          simp only [List.getElem?_cons_zero, Option.some.injEq] at h2
          subst h2
          exact h1 (Nat.beq_refl _)
        | succ i' =>
          rw [List.getElem?_cons_succ]
          exact g3 i' (by omega)
theorem c_fi_of : ∀ {ks : List Nat} {wp : va_W} {κ i q : Nat} {e : va_E}, ks[i]? = some κ → wp[i]? = some (q, e) → (∀ i', i' < i → ks[i']? ≠ some κ) → c_fi ks wp κ = some e := by
  intro ks
  induction ks with
  | nil => intro wp κ i q e h; cases h
  | cons k r ih =>
    intro wp κ i q e h1 h2 h3
    cases wp with
    | nil => cases h2
    | cons q0 w =>
      simp only [c_fi]
      cases i with
      | zero =>
        simp only [List.getElem?_cons_zero, Option.some.injEq] at h1 h2
        subst h1
        subst h2
        rw [if_pos (Nat.beq_refl _)]
      | succ i =>
        rw [List.getElem?_cons_succ] at h1 h2
        have h0 := h3 0 (by omega)
        simp only [List.getElem?_cons_zero, ne_eq, Option.some.injEq] at h0
        rw [if_neg (fun h => h0 (Nat.eq_of_beq_eq_true h))]
        exact ih h1 h2 (fun i' hi => by have := h3 (i' + 1) (by omega); rw [List.getElem?_cons_succ] at this; exact this)
/-- the places of the only cell of a kind, behind a call -/
theorem c_cu_unch {wr : WR} {κ j : Nat} (hp : hpool T cy I.2.1 ks wp) (h : Unch wr ks wp ks' wp') (hu : κ < T.2.1) (hn : ¬ inwr wr κ j) : c_cu ks' wp' κ j = c_cu ks wp κ j := by
  obtain ⟨i0, hi0⟩ := hp.2.2.2.2 κ hu
  have hlt := (List.getElem?_eq_some_iff.mp hi0).1
  obtain ⟨q0, e0, d0, g1, -⟩ := hp.2.1 i0 κ hi0
  have hf : c_fi ks wp κ = some e0 := c_fi_of hi0 g1 (fun i' hi h1 => by have := hp.2.2.2.1 i' i0 κ hu h1 hi0; omega)
  obtain ⟨⟨more, hm⟩, h2⟩ := h
  obtain ⟨e', g2, g3⟩ := h2 i0 κ q0 e0 hi0 g1
  have hi1 : ks'[i0]? = some κ := by rw [hm, List.getElem?_append_left hlt]; exact hi0
  have hf' : c_fi ks' wp' κ = some e' := c_fi_of hi1 g2 (fun i' hi h1 => by
    rw [hm, List.getElem?_append_left (by omega)] at h1
    have := hp.2.2.2.1 i' i0 κ hu h1 hi0
    omega)
  unfold c_cu
  rw [hf, hf']
  exact g3 j hn
theorem keepC_ok {wr : WR} {f : CFt} (hE : henv I.1 n E) (hx : hxt I J) (h : hcf T I ks wp f) (hu : Unch wr ks wp ks' wp') (hk : g_keepC E wr f = true) : hcf T J ks' wp' f := by
  obtain ⟨i, q, e, z, x, h1, h2, h3, h4, h5, h6⟩ := h
  obtain ⟨⟨more, hm⟩, hu2⟩ := hu
  obtain ⟨e', g2, g3⟩ := hu2 i f.1 q e h1 h2
  have hlt := (List.getElem?_eq_some_iff.mp h1).1
  refine ⟨i, q, e', z, x, by rw [hm, List.getElem?_append_left hlt]; exact h1, g2, h3.xt hx, ev_xt hx h4, ?_, h6.xt hx⟩
  · rw [g3 z ?_]
    · exact h5
    · rintro ⟨w, w1, w2, w3, w4⟩
      have := List.all_eq_true.mp hk w w1
      simp only [Bool.or_eq_true] at this
      rcases this with q9 | q9
      · rw [w2, Nat.beq_refl] at q9
        cases q9
      · split at q9
        · rename_i l9 h9 hiv
          have := ev_iv hE h4 hiv
          simp only [Bool.or_eq_true, decide_eq_true_eq] at q9
          omega
        · cases q9
theorem c_fa_ix : ∀ {ks : List Nat} {wp : va_W} {q κ : Nat} {e : va_E}, c_fa ks wp q κ = some e → ∃ i : Nat, ks[i]? = some κ ∧ wp[i]? = some (q, e) ∧ ∀ i', i' < i → ¬ (ks[i']? = some κ ∧ ∃ e', wp[i']? = some (q, e')) := by
  intro ks
  induction ks with
  | nil => intro wp q κ e h; simp only [c_fa] at h; cases h
  | cons k r ih =>
    intro wp q κ e h
    cases wp with
    | nil => simp only [c_fa] at h; cases h
    | cons p w =>
      simp only [c_fa] at h
      split at h
      · rename_i h1
        simp only [Bool.and_eq_true] at h1
        have e1 := Nat.eq_of_beq_eq_true h1.1
        have e2 := Nat.eq_of_beq_eq_true h1.2
        subst e1
        subst e2
        cases h
        exact ⟨0, rfl, rfl, fun i' h => absurd h (Nat.not_lt_zero _)⟩
      · rename_i h1
        obtain ⟨i, g1, g2, g3⟩ := ih h
        refine ⟨i + 1, g1, g2, fun i' hi => ?_⟩
        cases i' with
        | zero =>
          rintro ⟨h2, e', h3⟩
          simp only [List.getElem?_cons_zero, Option.some.injEq] at h2 h3
          subst h2
          subst h3
          exact h1 (by simp only [Nat.beq_refl, Bool.and_self])
        | succ i' =>
          rw [List.getElem?_cons_succ, List.getElem?_cons_succ]
          exact g3 i' (by omega)
theorem c_fa_of : ∀ {ks : List Nat} {wp : va_W} {q κ i : Nat} {e : va_E}, ks[i]? = some κ → wp[i]? = some (q, e) → (∀ i', i' < i → ¬ (ks[i']? = some κ ∧ ∃ e', wp[i']? = some (q, e'))) → c_fa ks wp q κ = some e := by
  intro ks
  induction ks with
  | nil => intro wp q κ i e h; cases h
  | cons k r ih =>
    intro wp q κ i e h1 h2 h3
    cases wp with
    | nil => cases h2
    | cons p w =>
      simp only [c_fa]
      cases i with
      | zero =>
        simp only [List.getElem?_cons_zero, Option.some.injEq] at h1 h2
        subst h1
        subst h2
        rw [if_pos (by simp only [Nat.beq_refl, Bool.and_self])]
      | succ i =>
        rw [List.getElem?_cons_succ] at h1 h2
        have h0 := h3 0 (by omega)
        rw [if_neg (fun h => by
          simp only [Bool.and_eq_true] at h
          refine h0 ⟨by rw [List.getElem?_cons_zero, Nat.eq_of_beq_eq_true h.1], p.2, ?_⟩
          rw [List.getElem?_cons_zero, ← Nat.eq_of_beq_eq_true h.2])]
        exact ih h1 h2 (fun i' hi => by have := h3 (i' + 1) (by omega); rw [List.getElem?_cons_succ, List.getElem?_cons_succ] at this; exact this)
/-- what stands in a place of a cell by its key, behind a call -/
theorem c_cu_kun {AK AK' : List (Nat × Nat)} {wr : WR} {q κ j : Nat} {v : Value} (hT : T.1.length ≤ 100) (hp : hpool T cy AK ks wp) (hp9 : hpool T cy AK' ks' wp') (h : Unch wr ks wp ks' wp') (hκ : κ < 100) (hn : ¬ inwr wr κ j) (hv9 : c_cu ks wp (ky q κ) j = some v) : c_cu ks' wp' (ky q κ) j = some v := by
  rw [c_cu_ky (hp_100 hT hp) hκ] at hv9
  rw [c_cu_ky (hp_100 hT hp9) hκ]
  split at hv9
  · rename_i e he
    obtain ⟨i, g1, g2, g3⟩ := c_fa_ix he
    obtain ⟨⟨more, hm⟩, h2⟩ := h
    obtain ⟨e', g4, g5⟩ := h2 i κ q e g1 g2
    have hlt := (List.getElem?_eq_some_iff.mp g1).1
    have hi1 : ks'[i]? = some κ := by rw [hm, List.getElem?_append_left hlt]; exact g1
    have hf : c_fa ks' wp' q κ = some e' := c_fa_of hi1 g4 (fun i' hi => by
      rintro ⟨h3, e9, h4⟩
      rw [hm, List.getElem?_append_left (by omega)] at h3
      have hl : i' < wp.length := by rw [← hp.1]; omega
      have h5 : wp[i']? = some wp[i'] := List.getElem?_eq_getElem hl
      obtain ⟨e8, h6, -⟩ := h2 i' κ (wp[i']).1 (wp[i']).2 h3 h5
      rw [h4] at h6
      have e7 : q = (wp[i']).1 := congrArg Prod.fst (Option.some.inj h6)
      exact g3 i' hi ⟨h3, (wp[i']).2, by rw [h5, e7]⟩)
    rw [hf]
    show cval e' j = some v
    rw [g5 j hn]
    exact hv9
  · cases hv9
theorem keepS_ok {AK9 : List (Nat × Nat)} {wr : WR} {f : SFt} (hFP : FPOK T FP) (hSU : SUOK T) (hp : hpool T cy I.2.1 ks wp) (hp9 : hpool T cy AK9 ks' wp') (hE : henv I.1 n E) (hx : hxt I J) (h : hsf FP I (c_cu ks wp) f) (hu : Unch wr ks wp ks' wp') (hk : g_keepS T E wr f = true) : hsf FP J (c_cu ks' wp') f := by
  obtain ⟨zs, h1, h2⟩ := h
  refine ⟨zs, f_evs_xt hx h1, ?_⟩
  unfold g_keepS at hk
  split at hk
  · rename_i L hL
    refine hFP f.1 L _ _ zs hL (fun s9 hs lo hi j k1 k2 k3 k4 => ?_) h2
    have hu9 := hSU.2 L (List.mem_of_getElem? hL) s9 hs
    suffices hn9 : ¬ inwr wr s9.1 j from ⟨fun hu8 => c_cu_unch hp hu hu8 hn9, fun q9 v9 hv9 => c_cu_kun hSU.1 hp hp9 hu hu9 hn9 hv9⟩
    rintro ⟨w, w1, w2, w3, w4⟩
    have := List.all_eq_true.mp (List.all_eq_true.mp hk s9 hs) w w1
    simp only [Bool.or_eq_true] at this
    rcases this with q9 | q9
    · rw [w2, Nat.beq_refl] at q9
      cases q9
    · split at q9
      · rename_i a b ha hb
        simp only [Bool.or_eq_true] at q9
        have ga := f_sb_ok h1 ha k1
        have gb := f_sb_ok h1 hb k2
        rcases q9 with q9 | q9
        · have := f_lez_ok hE q9 gb (show f_ev I.1 (bI (w.2.1 : Int)) = some (w.2.1 : Int) from rfl)
          omega
        · have := f_lez_ok hE q9 (show f_ev I.1 (bI ((w.2.2 : Int) + 1)) = some ((w.2.2 : Int) + 1) from rfl) ga
          omega
      · cases q9
  · cases hk
/-- names of the call, then those that it added -/
theorem f_evs_app {ν : List Int} : ∀ {as bs : List BV} {xs ys : List Int}, f_evs ν as = some xs → f_evs ν bs = some ys → f_evs ν (as ++ bs) = some (xs ++ ys) := by
  intro as
  induction as with
  | nil => intro bs xs ys h1 h2; simp only [f_evs] at h1; cases h1; exact h2
  | cons a r ih =>
    intro bs xs ys h1 h2
    simp only [f_evs] at h1
    split at h1
    · rename_i z zs g1 g2
      cases h1
      simp only [List.cons_append, f_evs, g1, ih g2 h2]
    · cases h1
theorem f_evs_new {ν m1 : List Int} : ∀ (j : Nat), j ≤ m1.length → f_evs (ν ++ m1) ((List.range' (m1.length - j) j).map (fun i => bV (ν.length + i) 0)) = some (m1.drop (m1.length - j)) := by
  intro j
  induction j with
  | zero => intro _; simp [f_evs]
  | succ j ih =>
    intro hj
    have h1 := ih (by omega)
    rw [List.range'_succ, List.map_cons]
    have e1 : m1.length - (j + 1) + 1 = m1.length - j := by omega
    rw [e1]
    have hlt : m1.length - (j + 1) < m1.length := by omega
    have e2 : (ν ++ m1)[ν.length + (m1.length - (j + 1))]? = some (m1[m1.length - (j + 1)]) := by
      rw [List.getElem?_append_right (by omega), Nat.add_sub_cancel_left]
      exact List.getElem?_eq_getElem hlt
    have e3 : f_ev (ν ++ m1) (bV (ν.length + (m1.length - (j + 1))) 0) = some (m1[m1.length - (j + 1)]) := by
      simp only [f_ev, e2, Int.add_zero]
    simp only [f_evs, e3, h1]
    congr 1
    rw [List.drop_eq_getElem_cons hlt, e1]
theorem g_addE_ok {σ : List BV} {np n0 N : Nat} {Eo : EB} {ν zs : List Int} (hσ : f_evs ν σ = some zs) (hN : ν.length = N) (hEo : ∀ (k : Nat) (q : Int × Int), f_lk Eo k = some q → ∃ y, zs[k]? = some y ∧ q.1 ≤ y ∧ y ≤ q.2) (hnew : ∀ k y, np ≤ k → zs[k]? = some y → ν[n0 + (k - np)]? = some y) :
    ∀ (kx : List Nat) (E : EB), henv ν N E → ∃ E', g_addE σ np n0 Eo kx E = some E' ∧ henv ν N E' := by
  intro kx
  induction kx with
  | nil => intro E hE; exact ⟨E, rfl, hE⟩
  | cons k r ih =>
    intro E hE
    simp only [g_addE]
    split
    · rename_i lo hi hk
      obtain ⟨y, y1, y2, y3⟩ := hEo k _ hk
      simp only at y2 y3
      split
      · split
        · rename_i b hb
          split
          · rename_i q9 hq
            obtain ⟨z, g1, g2⟩ := f_evs_at hσ hb
            rw [y1] at g1
            cases g1
            obtain ⟨E1, e1, e2, -⟩ := f_clamp_ev (lo := lo) (hi := hi) hE g2 ⟨_, hq⟩ y2 y3
            rw [e1]
            exact ih E1 e2
          · exact ih E hE
        · exact ih E hE
      · rename_i hlt
        have hlt : np ≤ k := by
          have : ¬ k < np := fun h => hlt (by simp only [Nat.blt]; exact Nat.ble_eq_true_of_le h)
          omega
        refine ih _ ?_
        exact henv_set hE (hnew k y hlt y1) y2 y3
    · exact ih E hE
theorem subC_ok {σ : List BV} {zs : List Int} (hσ : f_evs J.1 σ = some zs) {CF : List CFt} (h : ∀ f ∈ CF, hcf T (zs, J.2) ks' wp' f) : ∀ f ∈ g_subC σ CF, hcf T J ks' wp' f := by
  intro f hf
  unfold g_subC at hf
  obtain ⟨f0, m0, hf0⟩ := List.mem_filterMap.mp hf
  obtain ⟨κ, b, p9, v⟩ := f0
  simp only at hf0
  split at hf0
  · rename_i b' p' v' hb hp9 hv9
    cases hf0
    obtain ⟨i, q, e, z, x, h1, h2, h3, h4, h5, h6⟩ := h _ m0
    simp only at h1 h3 h4 h6
    refine ⟨i, q, e, z, x, h1, h2, ?_, ?_, h5, (g_sub_iff hσ hv9).mp h6⟩
    · split at hb
      · cases hb
        exact h3
      · split at hb
        · rename_i k' c9 hk
          split at hb
          · rename_i hc
            have hc := of_decide_eq_true hc
            subst hc
            cases hb
            have h3 : zs[_]? = some (q : Int) := h3
            show J.1[k']? = some (q : Int)
            obtain ⟨z9, g1, g2⟩ := f_evs_at hσ hk
            rw [h3] at g1
            cases g1
            simp only [f_ev] at g2
            cases hq : J.1[k']? with
            | none => rw [hq] at g2; cases g2
            | some y =>
              rw [hq] at g2
              simp only [Option.some.injEq] at g2
              rw [← g2]; congr 1; omega
          · cases hb
        · cases hb
    · have hpI : f_isI p9 = true := by
        rcases p9 with c9 | ⟨k9, c9⟩ | w9
        · rfl
        · rfl
        · simp only [f_ev] at h4; cases h4
      obtain ⟨z9, g1, g2⟩ := g_sub_ev hσ hp9 hpI
      rw [h4] at g1
      cases g1
      exact g2
  · cases hf0
theorem subs_ev {ν zs : List Int} {σ : List BV} (hσ : f_evs ν σ = some zs) : ∀ {as bs : List BV} {xs : List Int}, g_subs σ as = some bs → f_evs zs as = some xs → f_evs ν bs = some xs := by
  intro as
  induction as with
  | nil => intro bs xs h1 h2; simp only [g_subs] at h1; cases h1; exact h2
  | cons a r ih =>
    intro bs xs h1 h2
    simp only [g_subs] at h1
    split at h1
    · rename_i b bs0 g1 g2
      cases h1
      simp only [f_evs] at h2
      split at h2
      · rename_i z zs0 g3 g4
        cases h2
        have hpI : f_isI a = true := by
          rcases a with c9 | ⟨k9, c9⟩ | w9
          · rfl
          · rfl
          · simp only [f_ev] at g3; cases g3
        obtain ⟨z9, k1, k2⟩ := g_sub_ev hσ g1 hpI
        rw [g3] at k1
        cases k1
        simp only [f_evs, k2, ih g2 g4]
      · cases h2
    · cases h1
theorem subF_ok {σ : List BV} {zs : List Int} {cu : CUt} (hσ : f_evs J.1 σ = some zs) {SF : List SFt} (h : ∀ f ∈ SF, hsf FP (zs, J.2) cu f) : ∀ f ∈ g_subF σ SF, hsf FP J cu f := by
  intro f hf
  unfold g_subF at hf
  obtain ⟨f0, m0, hf0⟩ := List.mem_filterMap.mp hf
  split at hf0
  · rename_i as has
    cases hf0
    obtain ⟨xs, h1, h2⟩ := h _ m0
    exact ⟨xs, subs_ev hσ has h1, h2⟩
  · cases hf0
theorem g_aft_ok {sp : SPt} {σ : List BV} {F : FS} {o : OUB} {L : List (Option BV × FS)} {zs : List Int} {u : UQ} {r : Option Value} (hFP : FPOK T FP) (hSU : SUOK T) (h : HS T FP cy I ks wp F) (hσ : f_evs I.1 σ = some zs) (hz : zs.length = (pF sp).1)
    (hu1 : hxt (zs, I.2) u.1) (hu2 : HS T FP cy u.1 u.2.1 u.2.2.1 o.2) (hu3 : Unch (pW sp) ks wp u.2.1 u.2.2.1) (hr : rvl u.1 o.1 r) (hg : g_aft T sp σ F o = some L) :
    ∃ q ∈ L, ∃ J : IN, hxt I J ∧ HS T FP cy J u.2.1 u.2.2.1 q.2 ∧ rvl J q.1 r := by
  obtain ⟨Iu, ku, wu, ou⟩ := u
  simp only at hu1 hu2 hu3 hr
  obtain ⟨⟨m1, x1⟩, ⟨m2, x2⟩, x3⟩ := hu1
  simp only at x1 x2 x3
  obtain ⟨p0, p1, p2, p3⟩ := h
  obtain ⟨q0, q1, q2, q3⟩ := hu2
  have hlu : Iu.1.length = o.2.1 := q1.1
  have hlm : m1.length = o.2.1 - (pF sp).1 := by rw [← hlu, x1, List.length_append, hz]; omega
  let J : IN := (I.1 ++ m1, Iu.2)
  have hIJ : hxt I J := ⟨⟨m1, rfl⟩, ⟨m2, x2⟩, x3⟩
  have hn : I.1.length = F.1 := p1.1
  unfold g_aft at hg
  split at hg
  · rename_i hle
    have hle := Nat.le_of_ble_eq_true hle
    have hσ' : f_evs J.1 (σ ++ (List.range (o.2.1 - (pF sp).1)).map (fun i => bV (F.1 + i) 0)) = some Iu.1 := by
      have e1 := f_evs_new (ν := I.1) (m1 := m1) m1.length (Nat.le_refl _)
      rw [Nat.sub_self, List.drop_zero, hn, ← List.range_eq_range', hlm] at e1
      rw [x1]
      exact f_evs_app (f_evs_xt hIJ hσ) e1
    generalize hσe : σ ++ (List.range (o.2.1 - (pF sp).1)).map (fun i => bV (F.1 + i) 0) = σ' at hσ' hg
    simp only at hg
    have hEJ0 : henv J.1 (F.1 + (o.2.1 - (pF sp).1)) F.2.1 := by
      refine ⟨by show (I.1 ++ m1).length = _; rw [List.length_append, hn, hlm], fun k q hk => ?_⟩
      obtain ⟨y, g1, g2⟩ := p1.2 k q hk
      exact ⟨y, hIJ.at g1, g2⟩
    have hnew : ∀ k y, (pF sp).1 ≤ k → Iu.1[k]? = some y → J.1[F.1 + (k - (pF sp).1)]? = some y := by
      intro k y hk hy
      rw [x1, List.getElem?_append_right (by rw [hz]; exact hk), hz] at hy
      show (I.1 ++ m1)[F.1 + (k - (pF sp).1)]? = some y
      rw [List.getElem?_append_right (by rw [hn]; omega), hn, Nat.add_sub_cancel_left]
      exact hy
    obtain ⟨E', e1, e2⟩ := g_addE_ok (Eo := o.2.2.1) hσ' hEJ0.1 q1.2 hnew (List.range o.2.1) F.2.1 hEJ0
    rw [e1] at hg
    simp only at hg
    have fin : ∀ r', rvl J r' r → (some [(r', (F.1 + (o.2.1 - (pF sp).1), E', g_subC σ' o.2.2.2.1 ++ F.2.2.1.filter (g_keepC F.2.1 (pW sp)), g_subF σ' o.2.2.2.2 ++ F.2.2.2.filter (g_keepS T F.2.1 (pW sp))))] : Option (List (Option BV × FS))) = some L → ∃ q ∈ L, ∃ J : IN, hxt I J ∧ HS T FP cy J ku wu q.2 ∧ rvl J q.1 r := by
      intro r' hr' hL
      cases hL
      refine ⟨_, List.mem_cons_self, J, hIJ, ⟨q0, e2, fun f hf => ?_, fun f hf => ?_⟩, hr'⟩
      · rcases List.mem_append.mp hf with hf | hf
        · exact subC_ok (J := J) hσ' (fun f hf => q2 f hf) f hf
        · obtain ⟨f1, f2⟩ := List.mem_filter.mp hf
          exact keepC_ok p1 hIJ (p2 f f1) hu3 f2
      · rcases List.mem_append.mp hf with hf | hf
        · exact subF_ok (J := J) hσ' (fun f hf => q3 f hf) f hf
        · obtain ⟨f1, f2⟩ := List.mem_filter.mp hf
          exact keepS_ok hFP hSU p0 q0 p1 hIJ (p3 f f1) hu3 f2
    cases ho : o.1 with
    | none =>
      rw [ho] at hg hr
      simp only at hg
      refine fin none ?_ hg
      cases r with
      | none => trivial
      | some x => exact absurd hr id
    | some a =>
      rw [ho] at hg hr
      simp only at hg
      cases hs : g_sub σ' a with
      | none => rw [hs] at hg; cases hg
      | some b =>
        rw [hs] at hg
        simp only at hg
        refine fin (some b) ?_ hg
        cases r with
        | none => exact absurd hr id
        | some x => exact (g_sub_iff (I := J) hσ' hs).mp hr
  · cases hg
end BAFT
