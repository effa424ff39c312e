/-! cells that the first engine knows, told by kinds -/
def a_fit (κs : List Nat) (κb : Nat) (a : AV) (t : BT) : Bool := match t with
  | .inl (lo, hi) => (match a with
    | .inl (l, h) => decide (lo ≤ l) && decide (h ≤ hi)
    | _ => false)
  | .inr (.inl (lo, hi)) => (match a with
    | .inr (.inr (.inl (l, h))) => decide (lo ≤ l) && decide (h ≤ hi)
    | _ => false)
  | .inr (.inr (κ, nn)) => (match a with
    | .inr (.inr (.inr (.inl none))) => !nn
    | .inr (.inr (.inr (.inl (some i)))) => (match κs[i]? with | some κ' => Nat.beq κ' κ | none => false)
    | .inr (.inr (.inr (.inr _))) => Nat.beq κ κb
    | _ => false)
def a_fito (κs : List Nat) (κb : Nat) (a : Option AV) (t : Option BT) : Bool := match t with
  | none => true
  | some ty => (match a with
    | some x => a_fit κs κb x ty
    | none => false)
def c_fit (T : TBt) (κs : List Nat) (κb κ : Nat) (c : AC) : Bool := match T.1[κ]? with
  | some (.inl (t, n, x)) => (match c with
    | .inl (t', n', d, y) => Nat.beq t t' && (Nat.beq n n' && (List.range n).all (fun j => a_fito κs κb (some (e_get d y j)) (k_seg x j)))
    | .inr _ => false)
  | some (.inr (ci, tys)) => (match c with
    | .inr (ci', fs) => Nat.beq ci ci' && (Nat.beq tys.length fs.length && (List.range tys.length).all (fun j => a_fito κs κb fs[j]? tys[j]?))
    | .inl _ => false)
  | none => false
def w_fit (T : TBt) (κs : List Nat) (κb : Nat) (C : List AC) : Bool := Nat.beq κs.length C.length && (List.range κs.length).all (fun i => match κs[i]?, C[i]? with | some κ, some c => c_fit T κs κb κ c | _, _ => false)
section CONV
variable {T : TBt} {FP : Nat → CUt → List Int → Prop} {cy : Nat → ClassId} {ν : Nat → Int} {al : List Nat} {b : Nat} {κs : List Nat} {κb : Nat} {AK : List (Nat × Nat)}
theorem a_fit_ok {a : AV} {t : BT} {v : Value} (hAK : ∀ (i κ q : Nat), κs[i]? = some κ → al[i]? = some q → (q, κ) ∈ AK) (hb : (b, κb) ∈ AK) (h : gv ν al b a v) (hf : a_fit κs κb a t = true) : ht AK t v := by
  rcases t with ⟨lo, hi⟩ | ⟨lo, hi⟩ | ⟨κ, nn⟩
  · rcases a with ⟨l, h9⟩ | a
    · simp only [a_fit, Bool.and_eq_true, decide_eq_true_eq] at hf
      obtain ⟨x, rfl, h1, h2⟩ := h
      exact ⟨x, rfl, by omega, by omega⟩
    · simp only [a_fit] at hf
      cases hf
  · rcases a with ⟨l, h9⟩ | ⟨k, c⟩ | ⟨l, h9⟩ | a
    · simp only [a_fit] at hf; cases hf
    · simp only [a_fit] at hf; cases hf
    · simp only [a_fit, Bool.and_eq_true, decide_eq_true_eq] at hf
      obtain ⟨x, rfl, h1, h2⟩ := h
      exact ⟨x, rfl, by omega, by omega⟩
    · simp only [a_fit] at hf; cases hf
  · rcases a with ⟨l, h9⟩ | ⟨k, c⟩ | ⟨l, h9⟩ | (_ | i) | u
    · simp only [a_fit] at hf; cases hf
    · simp only [a_fit] at hf; cases hf
    · simp only [a_fit] at hf; cases hf
    · simp only [a_fit] at hf
      exact Or.inl ⟨by simpa using hf, h⟩
    · simp only [a_fit] at hf
      split at hf
      · rename_i κ' hk
        have hf := beq3 hf
        subst hf
        obtain ⟨q, h1, h2⟩ := h
        exact Or.inr ⟨q, hAK i κ' q hk h1, h2⟩
      · cases hf
    · simp only [a_fit] at hf
      have hf := beq3 hf
      subst hf
      exact Or.inr ⟨b, hb, h⟩
theorem gvs_at {as : List AV} {vs : List Value} : ∀ {j : Nat} {a : AV}, gvs ν al b as vs → as[j]? = some a → ∃ v, vs[j]? = some v ∧ gv ν al b a v := by
  intro j a h hk
  exact gvs_get h hk
theorem c_fit_ok {κ : Nat} {c : AC} {e : va_E} (hAK : ∀ (i κ q : Nat), κs[i]? = some κ → al[i]? = some q → (q, κ) ∈ AK) (hb : (b, κb) ∈ AK) (h : gC ν al b cy c e) (hf : c_fit T κs κb κ c = true) : ∃ d, T.1[κ]? = some d ∧ ktyped cy AK d e := by
  unfold c_fit at hf
  split at hf
  · rename_i t n x hd
    split at hf
    · rename_i t' n' d y
      simp only [Bool.and_eq_true] at hf
      obtain ⟨h1, h2, h3⟩ := hf
      have h1 := beq3 h1
      have h2 := beq3 h2
      subst h1
      subst h2
      have hp : ∀ j ty, j < n → k_seg x j = some ty → a_fit κs κb (e_get d y j) ty = true := by
        intro j ty hj hk
        have := List.all_eq_true.mp h3 j (List.mem_range.mpr hj)
        rw [hk] at this
        exact this
      refine ⟨_, hd, ?_⟩
      rcases h with ⟨g0, f, rfl, g1⟩ | ⟨g0, f, rfl, g1⟩ | ⟨g0, f, rfl, g1⟩
      · refine ⟨Or.inl ⟨g0, f, rfl⟩, fun j ty hj hk => ⟨.int (f j), ?_, a_fit_ok hAK hb (g1 j hj) (hp j ty hj hk)⟩⟩
        have hj : j < n := hj
        simp only [cval, if_pos hj]
      · refine ⟨Or.inr (Or.inl ⟨g0, f, rfl⟩), fun j ty hj hk => ⟨.long (f j), ?_, a_fit_ok hAK hb (g1 j hj) (hp j ty hj hk)⟩⟩
        have hj : j < n := hj
        simp only [cval, if_pos hj]
      · refine ⟨Or.inr (Or.inr ⟨g0, f, rfl⟩), fun j ty hj hk => ⟨va_rf (f j), ?_, a_fit_ok hAK hb (g1 j hj) (hp j ty hj hk)⟩⟩
        have hj : j < n := hj
        simp only [cval, if_pos hj]
    · cases hf
  · rename_i ci tys hd
    split at hf
    · rename_i ci' fs
      simp only [Bool.and_eq_true] at hf
      obtain ⟨h1, h2, h3⟩ := hf
      have h1 := beq3 h1
      have h2 := beq3 h2
      subst h1
      obtain ⟨vs, rfl, hg⟩ := h
      refine ⟨_, hd, ⟨vs, rfl, by rw [← gvs_len hg, h2]⟩, fun j ty hj hk => ?_⟩
      have hj : j < tys.length := hj
      have hk : tys[j]? = some ty := hk
      have h4 := List.all_eq_true.mp h3 j (List.mem_range.mpr hj)
      rw [hk] at h4
      unfold a_fito at h4
      simp only at h4
      split at h4
      · rename_i a ha
        obtain ⟨v, v1, v2⟩ := gvs_get hg ha
        exact ⟨v, v1, a_fit_ok hAK hb v2 h4⟩
      · cases h4
    · cases hf
  · cases hf
theorem ktyped_mono {AK' : List (Nat × Nat)} {d : KD} {e : va_E} (h : ∀ q ∈ AK, q ∈ AK') (h0 : ktyped cy AK d e) : ktyped cy AK' d e := ⟨h0.1, fun j t hj hk => by
  obtain ⟨v, h1, h2⟩ := h0.2 j t hj hk
  exact ⟨v, h1, ht_mono h h2⟩⟩
/-- more cells, of kinds that may have many -/
theorem hpool_grow {more : List (Nat × Nat)} {ks κs : List Nat} {wp ws : va_W} (hp : hpool T cy AK ks wp) (hl : κs.length = ws.length)
    (h1 : ∀ (i κ : Nat), κs[i]? = some κ → T.2.1 ≤ κ ∧ ∃ (q : Nat) (e : va_E) (d : KD), ws[i]? = some (q, e) ∧ T.1[κ]? = some d ∧ ktyped cy (AK ++ more) d e ∧ (q, κ) ∈ AK ++ more)
    (h2 : ∀ (q κ : Nat) (d : KD), (q, κ) ∈ more → T.1[κ]? = some d → ∃ (i : Nat) (e : va_E), κs[i]? = some κ ∧ ws[i]? = some (q, e)) : hpool T cy (AK ++ more) (ks ++ κs) (wp ++ ws) := by
  obtain ⟨p1, p2, p3, p4, p5⟩ := hp
  refine ⟨by simp [p1, hl], fun i κ hi => ?_, fun q κ d hq hd => ?_, fun i i' κ hκ hi hi' => ?_, fun κ hκ => ?_⟩
  · by_cases hlt : i < ks.length
    · rw [List.getElem?_append_left hlt] at hi
      obtain ⟨q, e, d, g1, g2, g3, g4⟩ := p2 i κ hi
      exact ⟨q, e, d, by rw [List.getElem?_append_left (by omega)]; exact g1, g2, ktyped_mono (fun _ h => List.mem_append_left _ h) g3, List.mem_append_left _ g4⟩
    · rw [List.getElem?_append_right (by omega)] at hi
      obtain ⟨-, q, e, d, g1, g2, g3, g4⟩ := h1 _ κ hi
      exact ⟨q, e, d, by rw [List.getElem?_append_right (by omega), ← p1]; exact g1, g2, g3, g4⟩
  · rcases List.mem_append.mp hq with hq | hq
    · obtain ⟨i, e, g1, g2⟩ := p3 q κ d hq hd
      exact ⟨i, e, by rw [List.getElem?_append_left (List.getElem?_eq_some_iff.mp g1).1]; exact g1, by rw [List.getElem?_append_left (List.getElem?_eq_some_iff.mp g2).1]; exact g2⟩
    · obtain ⟨i, e, g1, g2⟩ := h2 q κ d hq hd
      exact ⟨ks.length + i, e, by rw [List.getElem?_append_right (by omega), Nat.add_sub_cancel_left]; exact g1, by rw [List.getElem?_append_right (by omega), p1, Nat.add_sub_cancel_left]; exact g2⟩
  · have key : ∀ j, (ks ++ κs)[j]? = some κ → j < ks.length ∧ ks[j]? = some κ := by
      intro j hj
      by_cases hlt : j < ks.length
      · rw [List.getElem?_append_left hlt] at hj
        exact ⟨hlt, hj⟩
      · rw [List.getElem?_append_right (by omega)] at hj
        have := (h1 _ κ hj).1
        omega
    exact p4 i i' κ hκ (key i hi).2 (key i' hi').2
  · obtain ⟨i, hi⟩ := p5 κ hκ
    exact ⟨i, by rw [List.getElem?_append_left (List.getElem?_eq_some_iff.mp hi).1]; exact hi⟩
theorem Unch_grow {ks κs : List Nat} {wp ws : va_W} : Unch [] ks wp (ks ++ κs) (wp ++ ws) := ⟨⟨κs, rfl⟩, fun i κ q e _ h => ⟨e, by rw [List.getElem?_append_left (List.getElem?_eq_some_iff.mp h).1]; exact h, fun _ _ => rfl⟩⟩
/-- the facts stay, with more cells -/
theorem HS_grow {I J : IN} {ks κs : List Nat} {wp ws : va_W} {n n' : Nat} {E : EB} {CF : List CFt} {SF : List SFt} (hFP : FPOK T FP) (hSU : SUOK T) (h : HS T FP cy I ks wp (n, E, CF, SF)) (hx : hxt I J) (hE : henv J.1 n' E) (hp : hpool T cy J.2.1 (ks ++ κs) (wp ++ ws)) : HS T FP cy J (ks ++ κs) (wp ++ ws) (n', E, CF, SF.filter (g_keepS T E [])) := by
  obtain ⟨h1, h2, h3, h4⟩ := h
  refine ⟨hp, hE, fun f hf => ?_, fun f hf => ?_⟩
  · exact keepC_ok h2 hx (h3 f hf) Unch_grow rfl
  · obtain ⟨f1, f2⟩ := List.mem_filter.mp hf
    exact keepS_ok hFP hSU h1 hp h2 hx (h4 f f1) Unch_grow f2
end CONV
