/-! kinds of cells, and facts of them -/
/-- what may stand in a place: an int or a long between two numbers, a reference to a kind (surely not null) -/
abbrev BT : Type := (Int × Int) ⊕ ((Int × Int) ⊕ (Nat × Bool))
/-- a kind: an array (its type's number, its length, what its places hold, so many places each) or an object (its class, what its fields hold) -/
abbrev KD : Type := (Nat × Nat × List (Nat × BT)) ⊕ (Nat × List BT)
/-- a fact of a cell: its kind, its name if there are more of the kind, the place, what is there -/
abbrev CFt : Type := Nat × Option Nat × BV × BV
/-- another fact: which, of which numbers -/
abbrev SFt : Type := Nat × List BV
/-- which places a fact speaks of: a kind, from, to; a number or that of an argument -/
abbrev SUt : Type := Nat × (Int ⊕ Nat) × (Int ⊕ Nat)
/-- kinds, how many of the first have one cell each, supports of the facts -/
abbrev TBt : Type := List KD × Nat × List (List SUt)
/-- named numbers (how many, what they lie between), facts of cells, other facts -/
abbrev FS : Type := Nat × EB × List CFt × List SFt
def k_seg (x : List (Nat × BT)) (j : Nat) : Option BT := match x with
  | [] => none
  | (n, t) :: r => if decide (j < n) = true then some t else k_seg r (j - n)
def k_len (d : KD) : Nat := match d with
  | .inl (_, n, _) => n
  | .inr (_, fs) => fs.length
def k_ty (d : KD) (j : Nat) : Option BT := match d with
  | .inl (_, _, x) => k_seg x j
  | .inr (_, fs) => fs[j]?
def t_join (a b : BT) : Option BT := match a, b with
  | .inl (l, h), .inl (l', h') => some (.inl (min l l', max h h'))
  | .inr (.inl (l, h)), .inr (.inl (l', h')) => some (.inr (.inl (min l l', max h h')))
  | .inr (.inr (κ, nn)), .inr (.inr (κ', nn')) => if Nat.beq κ κ' = true then some (.inr (.inr (κ, nn && nn'))) else none
  | _, _ => none
def k_hull (x : List (Nat × BT)) (lo hi : Nat) : Option BT := match x with
  | [] => none
  | (n, t) :: r => if decide (lo < n) = true then (if decide (hi < n) = true then some t else (match k_hull r 0 (hi - n) with | some t' => t_join t t' | none => none)) else k_hull r (lo - n) (hi - n)
def k_all (f : BT → Bool) (x : List (Nat × BT)) (lo hi : Nat) : Bool := match x with
  | [] => false
  | (n, t) :: r => if decide (lo < n) = true then (f t && (if decide (hi < n) = true then true else k_all f r 0 (hi - n))) else k_all f r (lo - n) (hi - n)
def ht (AK : List (Nat × Nat)) (t : BT) (v : Value) : Prop := match t with
  | .inl (lo, hi) => ∃ x : Int32, v = .int x ∧ lo ≤ x.toInt ∧ x.toInt ≤ hi
  | .inr (.inl (lo, hi)) => ∃ x : Int64, v = .long x ∧ lo ≤ x.toInt ∧ x.toInt ≤ hi
  | .inr (.inr (κ, nn)) => (nn = false ∧ v = .null) ∨ ∃ q : Nat, (q, κ) ∈ AK ∧ v = .ref q
def cval (e : va_E) (j : Nat) : Option Value := match e with
  | .inl (_, n, .inl f) => if j < n then some (.int (f j)) else none
  | .inl (_, n, .inr (.inl f)) => if j < n then some (.long (f j)) else none
  | .inl (_, n, .inr (.inr (.inr (.inr f)))) => if j < n then some (va_rf (f j)) else none
  | .inl _ => none
  | .inr (_, vs) => vs[j]?
def kshape (cy : Nat → ClassId) (d : KD) (e : va_E) : Prop := match d with
  | .inl (t, n, _) => (t ≤ 2 ∧ ∃ f : Nat → Int32, e = .inl (cy t, n, .inl f)) ∨ (t = 3 ∧ ∃ f : Nat → Int64, e = .inl (cy t, n, .inr (.inl f))) ∨ (4 ≤ t ∧ ∃ f : Nat → Option Nat, e = .inl (cy t, n, .inr (.inr (.inr (.inr f)))))
  | .inr (ci, fs) => ∃ vs : List Value, e = .inr (ci, vs) ∧ vs.length = fs.length
def ktyped (cy : Nat → ClassId) (AK : List (Nat × Nat)) (d : KD) (e : va_E) : Prop := kshape cy d e ∧ ∀ (j : Nat) (t : BT), j < k_len d → k_ty d j = some t → ∃ v, cval e j = some v ∧ ht AK t v
/-- the cells by their kinds -/
def hpool (T : TBt) (cy : Nat → ClassId) (AK : List (Nat × Nat)) (ks : List Nat) (wp : va_W) : Prop :=
  ks.length = wp.length ∧ (∀ (i κ : Nat), ks[i]? = some κ → ∃ (q : Nat) (e : va_E) (d : KD), wp[i]? = some (q, e) ∧ T.1[κ]? = some d ∧ ktyped cy AK d e ∧ (q, κ) ∈ AK) ∧
  (∀ (q κ : Nat) (d : KD), (q, κ) ∈ AK → T.1[κ]? = some d → ∃ (i : Nat) (e : va_E), ks[i]? = some κ ∧ wp[i]? = some (q, e)) ∧
  (∀ (i i' κ : Nat), κ < T.2.1 → ks[i]? = some κ → ks[i']? = some κ → i = i') ∧ (∀ κ, κ < T.2.1 → ∃ i : Nat, ks[i]? = some κ)
def c_fi (ks : List Nat) (wp : va_W) (κ : Nat) : Option va_E := match ks, wp with
  | k :: ks', q :: wp' => if Nat.beq k κ = true then some q.2 else c_fi ks' wp' κ
  | _, _ => none
def c_fa (ks : List Nat) (wp : va_W) (q κ : Nat) : Option va_E := match ks, wp with
  | k :: ks', p :: wp' => if (Nat.beq k κ && Nat.beq p.1 q) = true then some p.2 else c_fa ks' wp' q κ
  | _, _ => none
/-- the key of the cell of a kind at an address -/
def ky (q κ : Nat) : Nat := 100 + (q * 100 + κ)
def c_ad (ks : List Nat) (wp : va_W) (x j : Nat) : Option Value := if Nat.ble 100 x = true then (match c_fa ks wp ((x - 100) / 100) ((x - 100) % 100) with
  | some e => cval e j
  | none => none) else none
/-- what stands in a place of the one cell of a kind; by a key: of the cell of that kind at that address -/
def c_cu (ks : List Nat) (wp : va_W) (κ j : Nat) : Option Value := match c_fi ks wp κ with
  | some e => cval e j
  | none => c_ad ks wp κ j
abbrev CUt : Type := Nat → Nat → Option Value
def f_evs (ν : List Int) (as : List BV) : Option (List Int) := match as with
  | [] => some []
  | a :: r => (match f_ev ν a, f_evs ν r with | some z, some zs => some (z :: zs) | _, _ => none)
/-- which cell: the only one of its kind, or by its name -/
def hbk (T : TBt) (ν : List Int) (κ : Nat) (b : Option Nat) (q : Nat) : Prop := match b with
  | some k => ν[k]? = some (q : Int)
  | none => κ < T.2.1
def hcf (T : TBt) (I : IN) (ks : List Nat) (wp : va_W) (f : CFt) : Prop := ∃ (i q : Nat) (e : va_E) (z : Nat) (x : Value), ks[i]? = some f.1 ∧ wp[i]? = some (q, e) ∧ hbk T I.1 f.1 f.2.1 q ∧ f_ev I.1 f.2.2.1 = some (z : Int) ∧ cval e z = some x ∧ hv I f.2.2.2 x
def hsf (FP : Nat → CUt → List Int → Prop) (I : IN) (cu : CUt) (f : SFt) : Prop := ∃ zs, f_evs I.1 f.2 = some zs ∧ FP f.1 cu zs
/-- all that a state says of the cells -/
def HS (T : TBt) (FP : Nat → CUt → List Int → Prop) (cy : Nat → ClassId) (I : IN) (ks : List Nat) (wp : va_W) (F : FS) : Prop :=
  hpool T cy I.2.1 ks wp ∧ henv I.1 F.1 F.2.1 ∧ (∀ f ∈ F.2.2.1, hcf T I ks wp f) ∧ (∀ f ∈ F.2.2.2, hsf FP I (c_cu ks wp) f)
/-- where a fact of a cell stands: under its kind or under its name -/
def f_key (T : TBt) (κ : Nat) (nn : Bool) (nm : Option Nat) : Option (Option Nat) := if decide (κ < T.2.1) = true then some none else if nn = true then (match nm with | some k => some (some k) | none => none) else none
def f_cf (CF : List CFt) (κ : Nat) (b : Option Nat) (p : BV) : Option BV := match CF with
  | [] => none
  | (κ', b', p', v) :: r => if (Nat.beq κ' κ && (on_eq b' b && bv_eq p' p)) = true then some v else f_cf r κ b p
/-- what a place may hold, with a name -/
def f_fresh (t : BT) (n : Nat) (E : EB) : BV × Nat × EB := match t with
  | .inl (lo, hi) => if decide (lo = hi) = true then (bI lo, n, E) else (bV n 0, n + 1, (n, lo, hi) :: E)
  | .inr (.inl (lo, hi)) => (bL lo hi, n, E)
  | .inr (.inr (κ, nn)) => if nn = true then (bP κ true none, n, E) else (bP κ false (some n), n + 1, (n, 0, 1) :: E)
def f_load (T : TBt) (κ : Nat) (nn : Bool) (nm : Option Nat) (p : BV) (t : BT) (F : FS) : BV × FS := match F with
  | (n, E, CF, SF) => (match f_key T κ nn nm with
    | some b => (match f_cf CF κ b p with
      | some v => (v, F)
      | none => (match f_fresh t n E with | (v, n', E') => if Nat.beq n n' = true then (v, n', E', CF, SF) else (v, n', E', (κ, b, p, v) :: CF, SF)))
    | none => (match f_fresh t n E with | (v, n', E') => (v, n', E', CF, SF)))
def f_apart (E : EB) (a b : BV) : Bool := match a, b with
  | .inr (.inl (k, c)), .inr (.inl (k', c')) => if Nat.beq k k' = true then !(decide (c = c')) else (match f_iv E a, f_iv E b with | some (la, ha), some (lb, hb) => decide (ha < lb) || decide (hb < la) | _, _ => false)
  | _, _ => (match f_iv E a, f_iv E b with | some (la, ha), some (lb, hb) => decide (ha < lb) || decide (hb < la) | _, _ => false)
/-- not more, by names or by what they lie between -/
def f_lez (E : EB) (a b : BV) : Bool := match a, b with
  | .inr (.inl (k, c)), .inr (.inl (k', c')) => if Nat.beq k k' = true then decide (c ≤ c') else (match f_iv E a, f_iv E b with | some (_, ha), some (lb, _) => decide (ha ≤ lb) | _, _ => false)
  | _, _ => (match f_iv E a, f_iv E b with | some (_, ha), some (lb, _) => decide (ha ≤ lb) | _, _ => false)
def f_sb (as : List BV) (x : Int ⊕ Nat) : Option BV := match x with
  | .inl c => some (bI c)
  | .inr i => as[i]?
/-- a fact of which no place is p of kind κ -/
def f_skeep (T : TBt) (E : EB) (κ : Nat) (p : BV) (f : SFt) : Bool := match T.2.2[f.1]? with
  | some L => L.all (fun s => !(Nat.beq s.1 κ) || (match f_sb f.2 s.2.1, f_sb f.2 s.2.2 with | some a, some b => f_lez E b p || f_lez E (f_off p 1) a | _, _ => false))
  | none => false
def f_store (T : TBt) (κ : Nat) (nn : Bool) (nm : Option Nat) (p v : BV) (F : FS) : FS := match F with
  | (n, E, CF, SF) => (match f_key T κ nn nm with
    | some b => (n, E, (κ, b, p, v) :: CF.filter (fun f => !(Nat.beq f.1 κ) || f_apart E f.2.2.1 p), SF.filter (f_skeep T E κ p))
    | none => (n, E, CF.filter (fun f => !(Nat.beq f.1 κ) || f_apart E f.2.2.1 p), SF.filter (f_skeep T E κ p)))
/-- may a place of this type hold it -/
def f_fit (E : EB) (v : BV) (t : BT) : Bool := match t with
  | .inl (lo, hi) => (match f_iv E v with | some (l, h) => decide (lo ≤ l) && decide (h ≤ hi) | none => false)
  | .inr (.inl (lo, hi)) => (match v with | .inr (.inr (.inl (l, h))) => decide (lo ≤ l) && decide (h ≤ hi) | _ => false)
  | .inr (.inr (κ, nn)) => (match v with
    | .inr (.inr (.inr (.inl none))) => !nn
    | .inr (.inr (.inr (.inl (some (κ', _, _))))) => Nat.beq κ κ' && (!nn || f_nn E v)
    | _ => false)
section BWLD
variable {T : TBt} {FP : Nat → CUt → List Int → Prop} {cy : Nat → ClassId} {I J : IN} {ks : List Nat} {wp : va_W} {n : Nat} {E : EB}
theorem ht_mono {AK AK' : List (Nat × Nat)} {t : BT} {v : Value} (h : ∀ q ∈ AK, q ∈ AK') (h0 : ht AK t v) : ht AK' t v := by
  rcases t with ⟨lo, hi⟩ | ⟨lo, hi⟩ | ⟨κ, nn⟩
  · exact h0
  · exact h0
  · rcases h0 with h0 | ⟨q, h1, h2⟩
    · exact Or.inl h0
    · exact Or.inr ⟨q, h _ h1, h2⟩
theorem ht_join {AK : List (Nat × Nat)} {a b t : BT} {v : Value} (h : t_join a b = some t) (hab : ht AK a v ∨ ht AK b v) : ht AK t v := by
  rcases a with ⟨l1, h1⟩ | ⟨l1, h1⟩ | ⟨κ, nn⟩ <;> rcases b with ⟨l2, h2⟩ | ⟨l2, h2⟩ | ⟨κ', nn'⟩ <;> simp only [t_join] at h <;> try cases h
  · rcases hab with ⟨x, e, p1, p2⟩ | ⟨x, e, p1, p2⟩
    · exact ⟨x, e, by omega, by omega⟩
    · exact ⟨x, e, by omega, by omega⟩
  · rcases hab with ⟨x, e, p1, p2⟩ | ⟨x, e, p1, p2⟩
    · exact ⟨x, e, by omega, by omega⟩
    · exact ⟨x, e, by omega, by omega⟩
  · split at h
    · rename_i q
      have q := Nat.eq_of_beq_eq_true q
      subst q
      cases h
      rcases hab with (⟨e, p1⟩ | p1) | (⟨e, p1⟩ | p1)
      · exact Or.inl ⟨by rw [e]; rfl, p1⟩
      · exact Or.inr p1
      · exact Or.inl ⟨by rw [e, Bool.and_false], p1⟩
      · exact Or.inr p1
    · cases h
theorem k_hull_ok {AK : List (Nat × Nat)} {v : Value} : ∀ {x : List (Nat × BT)} {lo hi j : Nat} {t : BT}, k_hull x lo hi = some t → lo ≤ j → j ≤ hi → ∃ t', k_seg x j = some t' ∧ (ht AK t' v → ht AK t v) := by
  intro x
  induction x with
  | nil => intro lo hi j t h; cases h
  | cons q r ih =>
    obtain ⟨m, t0⟩ := q
    intro lo hi j t h h1 h2
    simp only [k_hull] at h
    simp only [k_seg]
    by_cases hj : j < m
    · rw [if_pos (decide_eq_true hj)]
      rw [if_pos (decide_eq_true (show lo < m by omega))] at h
      split at h
      · cases h; exact ⟨_, rfl, id⟩
      · split at h
        · exact ⟨_, rfl, fun g => ht_join h (Or.inl g)⟩
        · cases h
    · rw [if_neg (by rw [decide_eq_true_eq]; exact hj)]
      split at h
      · rw [if_neg (by rw [decide_eq_true_eq]; omega)] at h
        split at h
        · rename_i t' h3
          obtain ⟨t2, g1, g2⟩ := ih (j := j - m) h3 (by omega) (by omega)
          exact ⟨t2, g1, fun g => ht_join h (Or.inr (g2 g))⟩
        · cases h
      · rename_i hlo
        have hlo : ¬ lo < m := by rw [decide_eq_true_eq] at hlo; exact hlo
        exact ih h (by omega) (by omega)
theorem k_all_ok {f : BT → Bool} : ∀ {x : List (Nat × BT)} {lo hi j : Nat}, k_all f x lo hi = true → lo ≤ j → j ≤ hi → ∀ t, k_seg x j = some t → f t = true := by
  intro x
  induction x with
  | nil => intro lo hi j h; cases h
  | cons q r ih =>
    obtain ⟨m, t0⟩ := q
    intro lo hi j h h1 h2 t ht
    simp only [k_all] at h
    simp only [k_seg] at ht
    by_cases hj : j < m
    · rw [if_pos (decide_eq_true hj)] at ht
      cases ht
      rw [if_pos (decide_eq_true (show lo < m by omega)), Bool.and_eq_true] at h
      exact h.1
    · rw [if_neg (by rw [decide_eq_true_eq]; exact hj)] at ht
      split at h
      · rw [Bool.and_eq_true, if_neg (by rw [decide_eq_true_eq]; omega)] at h
        exact ih h.2 (by omega) (by omega) t ht
      · rename_i hlo
        have hlo : ¬ lo < m := by rw [decide_eq_true_eq] at hlo; exact hlo
        exact ih h (by omega) (by omega) t ht
theorem f_fit_ok {v : BV} {x : Value} {t : BT} (hE : henv I.1 n E) (h : hv I v x) (hf : f_fit E v t = true) : ht I.2.1 t x := by
  rcases t with ⟨lo, hi⟩ | ⟨lo, hi⟩ | ⟨κ, nn⟩
  · simp only [f_fit] at hf
    split at hf
    · rename_i l h1 hq
      simp only [Bool.and_eq_true, decide_eq_true_eq] at hf
      obtain ⟨y, rfl, g1, g2⟩ := hv_int hE h hq
      exact ⟨y, rfl, by omega, by omega⟩
    · cases hf
  · simp only [f_fit] at hf
    split at hf
    · simp only [Bool.and_eq_true, decide_eq_true_eq] at hf
      obtain ⟨y, rfl, g1, g2⟩ := h
      exact ⟨y, rfl, by omega, by omega⟩
    · cases hf
  · simp only [f_fit] at hf
    split at hf
    · have hf : nn = false := by simpa using hf
      exact Or.inl ⟨hf, h⟩
    · rename_i κ' b1 b2
      simp only [Bool.and_eq_true, Bool.or_eq_true] at hf
      have e1 := Nat.eq_of_beq_eq_true hf.1
      subst e1
      rcases h.1 with ⟨h1, h2⟩ | h1
      · rcases hf.2 with h3 | h3
        · exact Or.inl ⟨by simpa using h3, h2⟩
        · obtain ⟨q, hq⟩ := f_nn_ok hE h h3
          rw [hq] at h2
          cases h2
      · exact Or.inr h1
    · cases hf
theorem f_fresh_ok {t : BT} {x : Value} {v : BV} {n' : Nat} {E' : EB} (hE : henv I.1 n E) (h : ht I.2.1 t x) (hf : f_fresh t n E = (v, n', E')) : ∃ J : IN, hxt I J ∧ J.2 = I.2 ∧ henv J.1 n' E' ∧ hv J v x := by
  rcases t with ⟨lo, hi⟩ | ⟨lo, hi⟩ | ⟨κ, nn⟩
  · simp only [f_fresh] at hf
    obtain ⟨y, rfl, h1, h2⟩ := h
    split at hf
    · rename_i q
      have q := of_decide_eq_true q
      cases hf
      exact ⟨I, hxt.rf, rfl, hE, y, rfl, by omega⟩
    · cases hf
      refine ⟨(I.1 ++ [y.toInt], I.2), ⟨⟨_, rfl⟩, ⟨[], by simp⟩, rfl⟩, rfl, henv_cons hE h1 h2, y, y.toInt, rfl, ?_, by omega⟩
      rw [List.getElem?_append_right (by rw [hE.1]; exact Nat.le_refl _), hE.1]; simp
  · simp only [f_fresh] at hf
    cases hf
    exact ⟨I, hxt.rf, rfl, hE, h⟩
  · simp only [f_fresh] at hf
    split at hf
    · rename_i q
      cases hf
      subst q
      refine ⟨I, hxt.rf, rfl, hE, ?_, fun k hk => by cases hk⟩
      rcases h with h | h
      · cases h.1
      · exact Or.inr h
    · rename_i q
      have q : nn = false := by simpa using q
      cases hf
      have key : ∀ y : Int, hnm false x y → 0 ≤ y → y ≤ 1 → ∃ J : IN, hxt I J ∧ J.2 = I.2 ∧ henv J.1 (n + 1) ((n, 0, 1) :: E) ∧ hv J (bP κ false (some n)) x := by
        intro y hy y0 y1
        refine ⟨(I.1 ++ [y], I.2), ⟨⟨_, rfl⟩, ⟨[], by simp⟩, rfl⟩, rfl, henv_cons hE y0 y1, ?_, fun k hk => ?_⟩
        · rcases h with h | h
          · exact Or.inl ⟨rfl, h.2⟩
          · exact Or.inr h
        · cases hk
          refine ⟨y, ?_, hy⟩
          rw [List.getElem?_append_right (by rw [hE.1]; exact Nat.le_refl _), hE.1]; simp
      rcases h with h | ⟨q1, h1, h2⟩
      · exact key 0 (Or.inr ⟨rfl, Or.inl ⟨h.2, rfl⟩⟩) (by omega) (by omega)
      · exact key 1 (Or.inr ⟨rfl, Or.inr ⟨⟨q1, h2⟩, rfl⟩⟩) (by omega) (by omega)
theorem f_evs_xt {as : List BV} {zs : List Int} (h : hxt I J) : f_evs I.1 as = some zs → f_evs J.1 as = some zs := by
  induction as generalizing zs with
  | nil => exact id
  | cons a r ih =>
    intro h0
    simp only [f_evs] at h0 ⊢
    split at h0
    · rename_i z zs' h1 h2
      rw [ev_xt h h1, ih h2]; exact h0
    · cases h0
theorem hbk.xt {κ q : Nat} {b : Option Nat} (h : hxt I J) (h0 : hbk T I.1 κ b q) : hbk T J.1 κ b q := by
  cases b with
  | none => exact h0
  | some k => exact h.at h0
theorem hcf.xt {f : CFt} (h : hxt I J) (h0 : hcf T I ks wp f) : hcf T J ks wp f := by
  obtain ⟨i, q, e, z, x, h1, h2, h3, h4, h5, h6⟩ := h0
  exact ⟨i, q, e, z, x, h1, h2, h3.xt h, ev_xt h h4, h5, h6.xt h⟩
theorem hsf.xt {cu : CUt} {f : SFt} (h : hxt I J) (h0 : hsf FP I cu f) : hsf FP J cu f := by
  obtain ⟨zs, h1, h2⟩ := h0
  exact ⟨zs, f_evs_xt h h1, h2⟩
/-- names are added -/
theorem HS.xt {F : FS} {n' : Nat} {E' : EB} (h : hxt I J) (h2 : J.2 = I.2) (hE : henv J.1 n' E') (h0 : HS T FP cy I ks wp F) : HS T FP cy J ks wp (n', E', F.2.2.1, F.2.2.2) := by
  obtain ⟨g1, g2, g3, g4⟩ := h0
  exact ⟨by rw [h2]; exact g1, hE, fun f hf => (g3 f hf).xt h, fun f hf => (g4 f hf).xt h⟩
theorem f_cf_in {CF : List CFt} {κ : Nat} {b : Option Nat} {p v : BV} : f_cf CF κ b p = some v → (κ, b, p, v) ∈ CF := by
  induction CF with
  | nil => intro h; cases h
  | cons f r ih =>
    obtain ⟨κ', b', p', v'⟩ := f
    intro h
    simp only [f_cf] at h
    split at h
    · rename_i q
      simp only [Bool.and_eq_true] at q
      obtain ⟨q1, q2, q3⟩ := q
      have q1 := Nat.eq_of_beq_eq_true q1
      have q2 := on_eq_ok q2
      have q3 := bv_eq_ok q3
      subst q1
      subst q2
      subst q3
      cases h
      exact List.mem_cons_self
    · exact List.mem_cons_of_mem _ (ih h)
theorem f_key_ok {κ : Nat} {nn : Bool} {nm b : Option Nat} {q : Nat} (h : f_key T κ nn nm = some b) (hq : hv I (bP κ nn nm) (.ref q)) : hbk T I.1 κ b q := by
  unfold f_key at h
  split at h
  · rename_i h1
    cases h
    exact (of_decide_eq_true h1 : κ < T.2.1)
  · split at h
    · rename_i h1
      cases nm with
      | none => cases h
      | some k =>
        cases h
        obtain ⟨y, g1, g2⟩ := hq.2 k rfl
        rcases g2 with ⟨-, q', e1, e2⟩ | ⟨g3, -⟩
        · cases e1
          show I.1[k]? = _
          rw [g1, e2]
        · rw [h1] at g3; cases g3
    · cases h
/-- addresses are apart -/
def hap (wp : va_W) : Prop := ∀ (i j : Nat) (p q : Nat × va_E), wp[i]? = some p → wp[j]? = some q → p.1 = q.1 → i = j
/-- the same cell -/
theorem hcf_same {κ : Nat} {b : Option Nat} {i i1 q q1 : Nat} {e e1 : va_E} (hp : hpool T cy I.2.1 ks wp) (hD : hap wp) (hi : ks[i]? = some κ) (hw : wp[i]? = some (q, e)) (hb : hbk T I.1 κ b q)
    (hi1 : ks[i1]? = some κ) (hw1 : wp[i1]? = some (q1, e1)) (hb1 : hbk T I.1 κ b q1) : i = i1 := by
  cases b with
  | none => exact hp.2.2.2.1 i i1 κ hb hi hi1
  | some k =>
    have hb : I.1[k]? = some (q : Int) := hb
    have hb1 : I.1[k]? = some (q1 : Int) := hb1
    rw [hb] at hb1
    have e9 : q = q1 := by
      have := Option.some.inj hb1
      omega
    subst e9
    exact hD i i1 _ _ hw hw1 rfl
theorem load_ok {F F' : FS} {κ i q z : Nat} {nn : Bool} {nm : Option Nat} {e : va_E} {p v : BV} {t : BT} {x : Value} (h : HS T FP cy I ks wp F) (hD : hap wp) (hi : ks[i]? = some κ) (hw : wp[i]? = some (q, e)) (hr : hv I (bP κ nn nm) (.ref q)) (hz : f_ev I.1 p = some (z : Int)) (hx : cval e z = some x) (ht9 : ht I.2.1 t x)
    (hf : f_load T κ nn nm p t F = (v, F')) : ∃ J : IN, hxt I J ∧ J.2 = I.2 ∧ hv J v x ∧ HS T FP cy J ks wp F' := by
  obtain ⟨n, E, CF, SF⟩ := F
  have hE := h.2.1
  simp only at hE
  unfold f_load at hf
  simp only at hf
  split at hf
  · rename_i b hkey
    have hb := f_key_ok hkey hr
    split at hf
    · rename_i v0 hcf0
      cases hf
      obtain ⟨i1, q1, e1, z1, x1, g1, g2, g3, g4, g5, g6⟩ := h.2.2.1 _ (f_cf_in hcf0)
      simp only at g1 g3 g4 g6
      have e9 := hcf_same h.1 hD hi hw hb g1 g2 g3
      subst e9
      rw [hw] at g2
      cases g2
      rw [hz] at g4
      have e8 : z = z1 := by have := Option.some.inj g4; omega
      subst e8
      rw [hx] at g5
      cases g5
      exact ⟨I, hxt.rf, rfl, g6, h⟩
    · cases hfr : f_fresh t n E with
      | mk v0 qr =>
      obtain ⟨n', E'⟩ := qr
      rw [hfr] at hf
      simp only at hf
      obtain ⟨J, j1, j2, j3, j4⟩ := f_fresh_ok hE ht9 hfr
      have h9 := h.xt j1 j2 j3
      split at hf
      · cases hf
        exact ⟨J, j1, j2, j4, h9⟩
      · cases hf
        refine ⟨J, j1, j2, j4, h9.1, h9.2.1, fun f hf => ?_, h9.2.2.2⟩
        rcases List.mem_cons.mp hf with rfl | hf
        · exact ⟨i, q, e, z, x, hi, hw, hb.xt j1, ev_xt j1 hz, hx, j4⟩
        · exact h9.2.2.1 f hf
  · cases hfr : f_fresh t n E with
    | mk v0 qr =>
    obtain ⟨n', E'⟩ := qr
    rw [hfr] at hf
    simp only at hf
    obtain ⟨J, j1, j2, j3, j4⟩ := f_fresh_ok hE ht9 hfr
    cases hf
    exact ⟨J, j1, j2, j4, h.xt j1 j2 j3⟩
theorem f_apart_ok {ν : List Int} {a b : BV} {x y : Int} (hE : henv ν n E) (h : f_apart E a b = true) (ha : f_ev ν a = some x) (hb : f_ev ν b = some y) : x ≠ y := by
  have gen : (match f_iv E a, f_iv E b with | some (la, ha), some (lb, hb) => decide (ha < lb) || decide (hb < la) | _, _ => false) = true → x ≠ y := by
    intro h
    split at h
    · rename_i la ha1 lb hb1 e1 e2
      have p1 := ev_iv hE ha e1
      have p2 := ev_iv hE hb e2
      simp only [Bool.or_eq_true, decide_eq_true_eq] at h
      omega
    · cases h
  unfold f_apart at h
  split at h
  · rename_i k c k' c'
    split at h
    · rename_i hk
      have hk := Nat.eq_of_beq_eq_true hk
      subst hk
      simp only [f_ev] at ha hb
      split at ha
      · rename_i y0 hy
        rw [hy] at hb
        simp only [Option.some.injEq] at ha hb
        have : ¬ c = c' := by simpa using h
        omega
      · cases ha
    · exact gen h
  · exact gen h
theorem f_lez_ok {ν : List Int} {a b : BV} {x y : Int} (hE : henv ν n E) (h : f_lez E a b = true) (ha : f_ev ν a = some x) (hb : f_ev ν b = some y) : x ≤ y := by
  have gen : (match f_iv E a, f_iv E b with | some (_, ha), some (lb, _) => decide (ha ≤ lb) | _, _ => false) = true → x ≤ y := by
    intro h
    split at h
    · rename_i la ha1 lb hb1 e1 e2
      have p1 := ev_iv hE ha e1
      have p2 := ev_iv hE hb e2
      have h := of_decide_eq_true h
      omega
    · cases h
  unfold f_lez at h
  split at h
  · rename_i k c k' c'
    split at h
    · rename_i hk
      have hk := Nat.eq_of_beq_eq_true hk
      subst hk
      simp only [f_ev] at ha hb
      split at ha
      · rename_i y0 hy
        rw [hy] at hb
        simp only [Option.some.injEq] at ha hb
        have := of_decide_eq_true h
        omega
      · cases ha
    · exact gen h
  · exact gen h
/-- a number of a support -/
def z_sb (zs : List Int) (x : Int ⊕ Nat) : Option Int := match x with
  | .inl c => some c
  | .inr i => zs[i]?
theorem f_evs_at {ν : List Int} {as : List BV} {zs : List Int} {k : Nat} {a : BV} : f_evs ν as = some zs → as[k]? = some a → ∃ z, zs[k]? = some z ∧ f_ev ν a = some z := by
  induction as generalizing zs k with
  | nil => intro _ h; simp at h
  | cons a0 r ih =>
    intro h hk
    simp only [f_evs] at h
    split at h
    · rename_i z zs' h1 h2
      cases h
      cases k with
      | zero => simp at hk; subst hk; exact ⟨z, rfl, h1⟩
      | succ k => simp at hk; obtain ⟨w, g1, g2⟩ := ih h2 hk; exact ⟨w, by simpa using g1, g2⟩
    · cases h
theorem f_sb_ok {ν : List Int} {as : List BV} {zs : List Int} {x : Int ⊕ Nat} {a : BV} {z : Int} (h : f_evs ν as = some zs) (hs : f_sb as x = some a) (hz : z_sb zs x = some z) : f_ev ν a = some z := by
  rcases x with c | i
  · cases hs; cases hz; rfl
  · obtain ⟨w, g1, g2⟩ := f_evs_at h hs
    simp only [z_sb] at hz
    rw [g1] at hz
    cases hz
    exact g2
/-- what facts say hangs on the places of their supports alone -/
def FPOK (T : TBt) (FP : Nat → CUt → List Int → Prop) : Prop := ∀ (id : Nat) (L : List SUt) (cu cu' : CUt) (zs : List Int), T.2.2[id]? = some L → (∀ s ∈ L, ∀ (lo hi : Int) (j : Nat), z_sb zs s.2.1 = some lo → z_sb zs s.2.2 = some hi → lo ≤ j → (j : Int) < hi → (s.1 < T.2.1 → cu' s.1 j = cu s.1 j) ∧ ∀ (q : Nat) (v : Value), cu (ky q s.1) j = some v → cu' (ky q s.1) j = some v) → FP id cu zs → FP id cu' zs
theorem c_fi_set {κ κ' q : Nat} {e e' : va_E} : ∀ {ks : List Nat} {wp : va_W} {i : Nat}, ks[i]? = some κ → wp[i]? = some (q, e) → κ' ≠ κ → c_fi ks (wp.set i (q, e')) κ' = c_fi ks wp κ' := by
  intro ks
  induction ks with
  | nil => intro wp i h; simp at h
  | cons k r ih =>
    intro wp i h h2 hne
    cases wp with
    | nil => simp at h2
    | cons w ws =>
      cases i with
      | zero =>
        simp at h h2
        subst h
        simp only [List.set_cons_zero, c_fi]
        have hb : ¬ Nat.beq k κ' = true := fun hb => hne (Nat.eq_of_beq_eq_true hb).symm
        rw [if_neg hb, if_neg hb]
      | succ i =>
        simp at h h2
        simp only [List.set_cons_succ, c_fi]
        rw [ih h h2 hne]
theorem c_fi_at {κ q : Nat} {e : va_E} : ∀ {ks : List Nat} {wp : va_W} {i : Nat}, (∀ i', ks[i']? = some κ → i' = i) → ks[i]? = some κ → wp[i]? = some (q, e) → c_fi ks wp κ = some e := by
  intro ks
  induction ks with
  | nil => intro wp i _ h; simp at h
  | cons k r ih =>
    intro wp i hu h h2
    cases wp with
    | nil => simp at h2
    | cons w ws =>
      cases i with
      | zero =>
        simp at h h2
        subst h
        subst h2
        simp only [c_fi]
        rw [if_pos (Nat.beq_refl k)]
      | succ i =>
        simp at h h2
        simp only [c_fi]
        have hb : ¬ Nat.beq k κ = true := fun hb => by
          have := hu 0 (by rw [← Nat.eq_of_beq_eq_true hb]; rfl)
          omega
        rw [if_neg hb]
        exact ih (fun i' hi' => by have := hu (i' + 1) (by simpa using hi'); omega) h h2
/-- the places of the only cell of a kind, where one place of one cell was changed -/
theorem c_cu_set {κ κ' i q z j : Nat} {e e' : va_E} (hp : hpool T cy I.2.1 ks wp) (hi : ks[i]? = some κ) (hw : wp[i]? = some (q, e)) (he : ∀ j, j ≠ z → cval e' j = cval e j) (hu : κ' < T.2.1) (hne : κ' ≠ κ ∨ j ≠ z) : c_cu ks (wp.set i (q, e')) κ' j = c_cu ks wp κ' j := by
  by_cases hk : κ' = κ
  · subst hk
    have hj : j ≠ z := hne.resolve_left (fun h => h rfl)
    have u : ∀ i', ks[i']? = some κ' → i' = i := fun i' hi' => hp.2.2.2.1 i' i κ' hu hi' hi
    have e1 := c_fi_at (wp := wp) u hi hw
    have e2 := c_fi_at (e := e') (q := q) (wp := wp.set i (q, e')) u hi (by rw [List.getElem?_set, if_pos rfl, if_pos (List.getElem?_eq_some_iff.mp hw).1])
    simp only [c_cu, e1, e2]
    exact he j hj
  · obtain ⟨i0, hi0⟩ := hp.2.2.2.2 κ' hu
    obtain ⟨q0, e0, d0, g1, -⟩ := hp.2.1 i0 κ' hi0
    have e1 := c_fi_at (wp := wp) (fun i' hi' => hp.2.2.2.1 i' i0 κ' hu hi' hi0) hi0 g1
    simp only [c_cu, c_fi_set hi hw hk, e1]
/-- kinds are less than a hundred -/
def SUOK (T : TBt) : Prop := T.1.length ≤ 100 ∧ ∀ L ∈ T.2.2, ∀ s ∈ L, s.1 < 100
theorem c_fi_no {κ : Nat} : ∀ {ks : List Nat} {wp : va_W}, κ ∉ ks → c_fi ks wp κ = none := by
  intro ks
  induction ks with
  | nil => intro wp _; rfl
  | cons k r ih =>
    intro wp h
    cases wp with
    | nil => rfl
    | cons w ws =>
      simp only [c_fi]
      rw [if_neg (fun hb => h (by rw [Nat.eq_of_beq_eq_true hb]; exact List.mem_cons_self))]
      exact ih (fun h2 => h (List.mem_cons_of_mem _ h2))
theorem c_cu_ky {q κ j : Nat} (h : ∀ κ' ∈ ks, κ' < 100) (hκ : κ < 100) : c_cu ks wp (ky q κ) j = (match c_fa ks wp q κ with | some e => cval e j | none => none) := by
  have h1 : ky q κ ∉ ks := fun h2 => by have := h _ h2; unfold ky at this; omega
  unfold c_cu
  rw [c_fi_no h1]
  simp only
  unfold c_ad
  rw [if_pos (by unfold ky; exact Nat.ble_eq_true_of_le (by omega)), show (ky q κ - 100) / 100 = q by unfold ky; omega, show (ky q κ - 100) % 100 = κ by unfold ky; omega]
theorem hp_100 {AK : List (Nat × Nat)} (hT : T.1.length ≤ 100) (hp : hpool T cy AK ks wp) : ∀ κ ∈ ks, κ < 100 := by
  intro κ hκ
  obtain ⟨i, hi⟩ := List.mem_iff_getElem?.mp hκ
  obtain ⟨q, e, d, -, h2, -⟩ := hp.2.1 i κ hi
  have := (List.getElem?_eq_some_iff.mp h2).1
  omega
theorem c_fa_set {κ q q' κ' : Nat} {e e' : va_E} : ∀ {ks : List Nat} {wp : va_W} {i : Nat}, ks[i]? = some κ → wp[i]? = some (q, e) → c_fa ks (wp.set i (q, e')) q' κ' = c_fa ks wp q' κ' ∨ (κ' = κ ∧ c_fa ks wp q' κ' = some e ∧ c_fa ks (wp.set i (q, e')) q' κ' = some e') := by
  intro ks
  induction ks with
  | nil => intro wp i h; simp at h
  | cons k r ih =>
    intro wp i h h2
    cases wp with
    | nil => simp at h2
    | cons w ws =>
      cases i with
      | zero =>
        simp at h h2
        subst h
        subst h2
        simp only [List.set_cons_zero, c_fa]
        by_cases hb : (Nat.beq k κ' && Nat.beq q q') = true
        · right
          rw [if_pos hb, if_pos hb]
          simp only [Bool.and_eq_true] at hb
          exact ⟨(Nat.eq_of_beq_eq_true hb.1).symm, rfl, rfl⟩
        · left
          rw [if_neg hb, if_neg hb]
      | succ i =>
        simp at h h2
        simp only [List.set_cons_succ, c_fa]
        by_cases hb : (Nat.beq k κ' && Nat.beq w.1 q') = true
        · left
          rw [if_pos hb, if_pos hb]
        · rw [if_neg hb, if_neg hb]
          exact ih h h2
theorem c_cu_kset {AK : List (Nat × Nat)} {κ κ' i q q' z j : Nat} {e e' : va_E} (h1 : ∀ κ' ∈ ks, κ' < 100) (hk : κ' < 100) (hi : ks[i]? = some κ) (hw : wp[i]? = some (q, e)) (he : ∀ j, j ≠ z → cval e' j = cval e j) (hne : κ' ≠ κ ∨ j ≠ z) : c_cu ks (wp.set i (q, e')) (ky q' κ') j = c_cu ks wp (ky q' κ') j := by
  rw [c_cu_ky h1 hk, c_cu_ky h1 hk]
  rcases c_fa_set (q' := q') (κ' := κ') (e' := e') hi hw with h2 | ⟨h2, h3, h4⟩
  · rw [h2]
  · rw [h3, h4]
    exact he j (hne.resolve_left (fun h => h h2))
theorem c_cu_kset_ne {κ κ' i q q' j : Nat} {e e' : va_E} (h1 : ∀ κ' ∈ ks, κ' < 100) (hk : κ' < 100) (hi : ks[i]? = some κ) (hw : wp[i]? = some (q, e)) (hne : κ' ≠ κ) : c_cu ks (wp.set i (q, e')) (ky q' κ') j = c_cu ks wp (ky q' κ') j := by
  rw [c_cu_ky h1 hk, c_cu_ky h1 hk]
  rcases c_fa_set (q' := q') (κ' := κ') (e' := e') hi hw with h2 | ⟨h2, h3, h4⟩
  · rw [h2]
  · exact absurd h2 hne
theorem hpool_set {AK : List (Nat × Nat)} {κ i q : Nat} {e e' : va_E} {d : KD} (hp : hpool T cy AK ks wp) (hi : ks[i]? = some κ) (hw : wp[i]? = some (q, e)) (hd : T.1[κ]? = some d) (ht9 : ktyped cy AK d e') : hpool T cy AK ks (wp.set i (q, e')) := by
  obtain ⟨p1, p2, p3, p4⟩ := hp
  have hlt := (List.getElem?_eq_some_iff.mp hw).1
  refine ⟨by simp [p1], fun i1 κ1 h1 => ?_, fun q1 κ1 d1 h1 h2 => ?_, p4⟩
  · by_cases e9 : i = i1
    · subst e9
      rw [hi] at h1
      cases h1
      obtain ⟨q2, e2, d2, g1, g2, g3, g4⟩ := p2 i κ hi
      rw [hw] at g1
      cases g1
      refine ⟨q, e', d, ?_, hd, ht9, g4⟩
      rw [List.getElem?_set, if_pos rfl, if_pos hlt]
    · obtain ⟨q2, e2, d2, g1, g2⟩ := p2 i1 κ1 h1
      exact ⟨q2, e2, d2, by rw [List.getElem?_set, if_neg e9]; exact g1, g2⟩
  · obtain ⟨i1, e1, g1, g2⟩ := p3 q1 κ1 d1 h1 h2
    by_cases e9 : i = i1
    · subst e9
      rw [hw] at g2
      cases g2
      exact ⟨i, e', g1, by rw [List.getElem?_set, if_pos rfl, if_pos hlt]⟩
    · exact ⟨i1, e1, g1, by rw [List.getElem?_set, if_neg e9]; exact g2⟩
theorem store_ok {F : FS} {κ i q z : Nat} {nn : Bool} {nm : Option Nat} {e e' : va_E} {d : KD} {p v : BV} {x : Value} (hFP : FPOK T FP) (hSU : SUOK T) (h : HS T FP cy I ks wp F) (hi : ks[i]? = some κ) (hw : wp[i]? = some (q, e)) (hr : hv I (bP κ nn nm) (.ref q)) (hz : f_ev I.1 p = some (z : Int)) (hx : cval e' z = some x) (hv9 : hv I v x)
    (he : ∀ j, j ≠ z → cval e' j = cval e j) (hd : T.1[κ]? = some d) (ht9 : ktyped cy I.2.1 d e') : HS T FP cy I ks (wp.set i (q, e')) (f_store T κ nn nm p v F) := by
  obtain ⟨n, E, CF, SF⟩ := F
  obtain ⟨h1, hE, h3, h4⟩ := h
  simp only at hE h3 h4
  have hlt := (List.getElem?_eq_some_iff.mp hw).1
  have hw' : (wp.set i (q, e'))[i]? = some (q, e') := by rw [List.getElem?_set, if_pos rfl, if_pos hlt]
  have hp' := hpool_set h1 hi hw hd ht9
  have cfs : ∀ f ∈ CF.filter (fun f => !(Nat.beq f.1 κ) || f_apart E f.2.2.1 p), hcf T I ks (wp.set i (q, e')) f := by
    intro f hf
    obtain ⟨hf1, hf2⟩ := List.mem_filter.mp hf
    obtain ⟨i1, q1, e1, z1, x1, g1, g2, g3, g4, g5, g6⟩ := h3 f hf1
    by_cases e9 : i = i1
    · subst e9
      rw [hi] at g1
      have e8 := Option.some.inj g1
      rw [hw] at g2
      cases g2
      have ap : f_apart E f.2.2.1 p = true := by
        simp only [Bool.or_eq_true] at hf2
        rcases hf2 with hf2 | hf2
        · rw [e8] at hf2
          rw [Nat.beq_refl] at hf2
          cases hf2
        · exact hf2
      have zne := f_apart_ok hE ap g4 hz
      refine ⟨i, q, e', z1, x1, by rw [hi, e8], hw', g3, g4, ?_, g6⟩
      rw [he z1 (fun h => zne (by rw [h]))]
      exact g5
    · exact ⟨i1, q1, e1, z1, x1, g1, by rw [List.getElem?_set, if_neg e9]; exact g2, g3, g4, g5, g6⟩
  have sfs : ∀ f ∈ SF.filter (f_skeep T E κ p), hsf FP I (c_cu ks (wp.set i (q, e'))) f := by
    intro f hf
    obtain ⟨hf1, hf2⟩ := List.mem_filter.mp hf
    obtain ⟨zs, g1, g2⟩ := h4 f hf1
    unfold f_skeep at hf2
    split at hf2
    · rename_i L hL
      refine ⟨zs, g1, hFP f.1 L _ _ zs hL (fun s hs lo hi9 j hlo hhi j1 j2 => ?_) g2⟩
      have hs2 := List.all_eq_true.mp hf2 s hs
      suffices hne9 : s.1 ≠ κ ∨ j ≠ z from ⟨fun hu => c_cu_set h1 hi hw he hu hne9, fun q9 v9 hv9 => by rw [c_cu_kset (AK := []) (hp_100 hSU.1 h1) (hSU.2 L (List.mem_iff_getElem?.mpr ⟨_, hL⟩) s hs) hi hw he hne9]; exact hv9⟩
      simp only [Bool.or_eq_true] at hs2
      rcases hs2 with hs2 | hs2
      · left
        intro e9
        rw [e9, Nat.beq_refl] at hs2
        cases hs2
      · split at hs2
        · rename_i a b ha hb
          have wa := f_sb_ok g1 ha hlo
          have wb := f_sb_ok g1 hb hhi
          right
          intro e9
          subst e9
          rw [Bool.or_eq_true] at hs2
          rcases hs2 with hs2 | hs2
          · have := f_lez_ok hE hs2 wb hz
            omega
          · have := f_lez_ok hE hs2 (ev_off hz) wa
            omega
        · cases hs2
    · cases hf2
  unfold f_store
  simp only
  split
  · rename_i b hkey
    refine ⟨hp', hE, fun f hf => ?_, sfs⟩
    rcases List.mem_cons.mp hf with rfl | hf
    · exact ⟨i, q, e', z, x, hi, hw', f_key_ok hkey hr, hz, hx, hv9⟩
    · exact cfs f hf
  · exact ⟨hp', hE, cfs, sfs⟩
end BWLD
