/-! what a sentence's text says: the class's descent and the reference's automaton (plain numbers) -/
/-- a fault (0: none; 99: no fuel), where, how many ones (0 with a fault) -/
abbrev SR : Type := Int × Nat × Nat
abbrev sW (K V : Nat → Int) (i : Nat) (w : Int) : Prop := K i = 2 ∧ V i = w
/-- what stands behind a word that says something of a thing -/
def sLeaf (K V CN NM : Nat → Int) (i : Nat) : Int × Nat :=
  if V i = 21 ∨ V i = 22 then (0, i + 1)
  else if V i = 23 then (if tdF K V CN NM 1 (i + 1) = 0 then (0, i + 2) else (tdF K V CN NM 1 (i + 1), i + 1))
  else if V i = 24 then (if tdF K V CN NM 0 (i + 1) = 0 then (0, i + 2) else (tdF K V CN NM 0 (i + 1), i + 1))
  else if V i = 25 then (if tdF K V CN NM 3 (i + 1) = 0 then (0, i + 2) else (tdF K V CN NM 3 (i + 1), i + 1))
  else if K (i + 1) = 60 ∨ K (i + 1) = 61 ∨ K (i + 1) = 62 then (if nmF K V 0 999 (i + 2) = 0 then (0, i + 3) else (nmF K V 0 999 (i + 2), i + 2)) else (1, i + 1)
/-- the class's descent: one (0), behind one of all (1), behind all (2), all (3), a condition (4) -/
def sP (K V CN NM : Nat → Int) : Nat → Nat → Nat → Nat → Nat → SR
  | 0, _, _, _, _ => (99, 0, 0)
  | t + 1, 0, d, i, o => if ¬ K i = 40 ∧ ¬ (K i = 2 ∧ 20 ≤ V i ∧ V i ≤ 28) then (1, i, 0) else if 20 ≤ o ∨ 8 < d then (4, i, 0)
    else if K i = 40 then (match sP K V CN NM t 4 (d + 1) (i + 1) (o + 1) with
      | (f, j, o2) => if f = 0 then (if K j = 41 then (0, j + 1, o2) else (1, j, 0)) else (f, j, 0))
    else if V i = 20 then sP K V CN NM t 0 (d + 1) (i + 1) (o + 1)
    else (if (sLeaf K V CN NM i).1 = 0 then (0, (sLeaf K V CN NM i).2, o + 1) else ((sLeaf K V CN NM i).1, (sLeaf K V CN NM i).2, 0))
  | t + 1, 1, d, i, o => if sW K V i 19 then (match sP K V CN NM t 0 d (i + 1) o with
      | (f, j, o2) => if f = 0 then sP K V CN NM t 1 d j o2 else (f, j, 0)) else (0, i, o)
  | t + 1, 2, d, i, o => if sW K V i 18 then (match sP K V CN NM t 3 d (i + 1) o with
      | (f, j, o2) => if f = 0 then sP K V CN NM t 2 d j o2 else (f, j, 0)) else (0, i, o)
  | t + 1, 3, d, i, o => (match sP K V CN NM t 0 d i o with
      | (f, j, o2) => if f = 0 then sP K V CN NM t 1 d j o2 else (f, j, 0))
  | t + 1, _ + 4, d, i, o => (match sP K V CN NM t 3 d i o with
      | (f, j, o2) => if f = 0 then sP K V CN NM t 2 d j o2 else (f, j, 0))
/-- signs that wait: not (0), and (1), or (2), an opened bracket (3) -/
def sNots : List Nat → Nat → List Nat × Nat
  | 0 :: r, d => sNots r (d - 1)
  | st, d => (st, d)
def sJoin (w : Nat) : List Nat → List Nat
  | 1 :: r => sJoin w r
  | 2 :: r => if w = 2 then sJoin w r else 2 :: r
  | st => st
/-- the reference's automaton: whole or not, signs that wait, how deep -/
def sA (K V CN NM : Nat → Int) : Nat → Bool → List Nat → Nat → Nat → Nat → SR
  | 0, _, _, _, _, _ => (99, 0, 0)
  | t + 1, false, st, d, i, o => if ¬ K i = 40 ∧ ¬ (K i = 2 ∧ 20 ≤ V i ∧ V i ≤ 28) then (1, i, 0) else if 20 ≤ o ∨ 8 < d then (4, i, 0)
    else if K i = 40 then sA K V CN NM t false (3 :: st) (d + 1) (i + 1) (o + 1)
    else if V i = 20 then sA K V CN NM t false (0 :: st) (d + 1) (i + 1) (o + 1)
    else (if (sLeaf K V CN NM i).1 = 0 then sA K V CN NM t true st d (sLeaf K V CN NM i).2 (o + 1) else ((sLeaf K V CN NM i).1, (sLeaf K V CN NM i).2, 0))
  | t + 1, true, st, d, i, o => (match sNots st d with
    | (st', d') => if K i = 0 then (if sJoin 2 st' = [] then (0, i, o) else (1, i, 0))
      else if sW K V i 19 then sA K V CN NM t false (1 :: sJoin 1 st') d' (i + 1) o
      else if sW K V i 18 then sA K V CN NM t false (2 :: sJoin 2 st') d' (i + 1) o
      else if K i = 41 ∧ ¬ sJoin 2 st' = [] then sA K V CN NM t true (sJoin 2 st').tail (d' - 1) (i + 1) o else (1, i, 0))
section SE
variable {K V CN NM : Nat → Int}
/-- nothing waits on top but what is named -/
def sTop (L : List Nat) (st : List Nat) : Prop := ∀ x r, st = x :: r → x ∉ L
theorem sNots_top {st : List Nat} {d : Nat} (h : sTop [0] st) : sNots st d = (st, d) := by
  cases st with
  | nil => rfl
  | cons x r =>
    have := h x r rfl
    cases x with
    | zero => exact absurd (List.mem_singleton.mpr rfl) this
    | succ x => rfl
theorem sJoin_top {w : Nat} {st : List Nat} (h : sTop [1, 2] st) : sJoin w st = st := by
  cases st with
  | nil => rfl
  | cons x r =>
    have h1 := h x r rfl
    match x, h1 with
    | 0, _ => rfl
    | 1, h1 => exact absurd (by simp) h1
    | 2, h1 => exact absurd (by simp) h1
    | x + 3, _ => rfl
theorem sJoin1_top {st : List Nat} (h : sTop [1] st) : sJoin 1 st = st := by
  cases st with
  | nil => rfl
  | cons x r =>
    have h1 := h x r rfl
    match x, h1 with
    | 0, _ => rfl
    | 1, h1 => exact absurd (by simp) h1
    | 2, _ => rfl
    | x + 3, _ => rfl
/-- a not that waits -/
theorem sA_not {T d i o : Nat} {st : List Nat} : sA K V CN NM T true (0 :: st) (d + 1) i o = sA K V CN NM T true st d i o := by
  cases T with
  | zero => rfl
  | succ T => rfl
/-- an and that waits -/
theorem sA_and {T d i o : Nat} {st : List Nat} (h : sTop [0] st) : sA K V CN NM T true (1 :: st) d i o = sA K V CN NM T true st d i o := by
  cases T with
  | zero => rfl
  | succ T =>
    simp only [sA]
    rw [sNots_top h]
    rfl
/-- an or that waits, where no and stands -/
theorem sA_or {T d i o : Nat} {st : List Nat} (h : sTop [0] st) (hn : ¬ sW K V i 19) : sA K V CN NM T true (2 :: st) d i o = sA K V CN NM T true st d i o := by
  cases T with
  | zero => rfl
  | succ T =>
    simp only [sA]
    rw [sNots_top h, show sNots (2 :: st) d = (2 :: st, d) from rfl]
    simp only [if_neg hn]
    rfl
/-- what the automaton does where the descent has come to its end -/
def sEnd (K V CN NM : Nat → Int) (T : Nat) (st : List Nat) (d : Nat) (r : SR) : SR := if r.1 = 0 then sA K V CN NM T true st d r.2.1 r.2.2 else (r.1, r.2.1, 0)
theorem sP_sA : ∀ (t : Nat), (∀ (d i o : Nat) (st : List Nat), ¬ (sP K V CN NM t 0 d i o).1 = 99 → ∃ n, ∀ T, sA K V CN NM (T + n) false st d i o = sEnd K V CN NM T st d (sP K V CN NM t 0 d i o)) ∧
    (∀ (d i o : Nat) (st : List Nat), sTop [0, 1] st → ¬ (sP K V CN NM t 1 d i o).1 = 99 → (∃ n, ∀ T, sA K V CN NM (T + n) true st d i o = sEnd K V CN NM T st d (sP K V CN NM t 1 d i o)) ∧ ((sP K V CN NM t 1 d i o).1 = 0 → ¬ sW K V (sP K V CN NM t 1 d i o).2.1 19)) ∧
    (∀ (d i o : Nat) (st : List Nat), sTop [0, 1, 2] st → ¬ sW K V i 19 → ¬ (sP K V CN NM t 2 d i o).1 = 99 → (∃ n, ∀ T, sA K V CN NM (T + n) true st d i o = sEnd K V CN NM T st d (sP K V CN NM t 2 d i o)) ∧ ((sP K V CN NM t 2 d i o).1 = 0 → ¬ sW K V (sP K V CN NM t 2 d i o).2.1 19 ∧ ¬ sW K V (sP K V CN NM t 2 d i o).2.1 18)) ∧
    (∀ (d i o : Nat) (st : List Nat), sTop [0, 1] st → ¬ (sP K V CN NM t 3 d i o).1 = 99 → (∃ n, ∀ T, sA K V CN NM (T + n) false st d i o = sEnd K V CN NM T st d (sP K V CN NM t 3 d i o)) ∧ ((sP K V CN NM t 3 d i o).1 = 0 → ¬ sW K V (sP K V CN NM t 3 d i o).2.1 19)) ∧
    (∀ (d i o : Nat) (st : List Nat), sTop [0, 1, 2] st → ¬ (sP K V CN NM t 4 d i o).1 = 99 → (∃ n, ∀ T, sA K V CN NM (T + n) false st d i o = sEnd K V CN NM T st d (sP K V CN NM t 4 d i o)) ∧ ((sP K V CN NM t 4 d i o).1 = 0 → ¬ sW K V (sP K V CN NM t 4 d i o).2.1 19 ∧ ¬ sW K V (sP K V CN NM t 4 d i o).2.1 18)) := by
  intro t
  induction t with
  | zero => exact ⟨fun d i o st h => absurd rfl h, fun d i o st _ h => absurd rfl h, fun d i o st _ _ h => absurd rfl h, fun d i o st _ h => absurd rfl h, fun d i o st _ h => absurd rfl h⟩
  | succ t ih =>
    obtain ⟨ih0, ih1, ih2, ih3, ih4⟩ := ih
    have sub1 : ∀ {st : List Nat}, sTop [0, 1] st → sTop [0] st := fun h x r e hm => h x r e (by simp at hm; simp [hm])
    have sub2 : ∀ {st : List Nat}, sTop [0, 1, 2] st → sTop [0, 1] st := fun h x r e hm => h x r e (by simp at hm ⊢; omega)
    refine ⟨fun d i o st h => ?_, fun d i o st hs h => ?_, fun d i o st hs hn h => ?_, fun d i o st hs h => ?_, fun d i o st hs h => ?_⟩
    · by_cases c1 : ¬ K i = 40 ∧ ¬ (K i = 2 ∧ 20 ≤ V i ∧ V i ≤ 28)
      · exact ⟨1, fun T => by simp only [sP, sA, sEnd, if_pos c1]; rfl⟩
      by_cases c2 : 20 ≤ o ∨ 8 < d
      · exact ⟨1, fun T => by simp only [sP, sA, sEnd, if_neg c1, if_pos c2]; rfl⟩
      by_cases c3 : K i = 40
      · have step : ∀ T, sA K V CN NM (T + 1) false st d i o = sA K V CN NM T false (3 :: st) (d + 1) (i + 1) (o + 1) := fun T => by simp only [sA, if_neg c1, if_neg c2, if_pos c3]
        simp only [sP, if_neg c1, if_neg c2, if_pos c3] at h ⊢
        have i4 := ih4 (d + 1) (i + 1) (o + 1) (3 :: st) (fun x r e hm => by cases e; simp at hm)
        generalize sP K V CN NM t 4 (d + 1) (i + 1) (o + 1) = r at h i4 ⊢
        obtain ⟨f, j, o2⟩ := r
        simp only at h i4 ⊢
        by_cases hf : f = 0
        · subst hf
          obtain ⟨⟨n, hn⟩, hk⟩ := i4 (by decide)
          obtain ⟨k19, k18⟩ := hk rfl
          have w : ∀ T, sA K V CN NM (T + 1) true (3 :: st) (d + 1) j o2 = (if K j = 41 then sA K V CN NM T true st d (j + 1) o2 else (1, j, 0)) := by
            intro T
            simp only [sA, show sNots (3 :: st) (d + 1) = (3 :: st, d + 1) from rfl, show sJoin 2 (3 :: st) = 3 :: st from rfl, if_neg k19, if_neg k18]
            by_cases k0 : K j = 0
            · rw [if_pos k0, if_neg (by simp), if_neg (by omega)]
            · rw [if_neg k0]
              by_cases k41 : K j = 41
              · rw [if_pos ⟨k41, by simp⟩, if_pos k41]
                rfl
              · rw [if_neg (fun h9 => k41 h9.1), if_neg k41]
          refine ⟨n + 2, fun T => ?_⟩
          rw [show T + (n + 2) = ((T + 1) + n) + 1 by omega, step, hn (T + 1)]
          simp only [sEnd, if_true]
          rw [w]
          by_cases k41 : K j = 41
          · rw [if_pos k41, if_pos k41]
            rfl
          · rw [if_neg k41, if_neg k41]
            rfl
        · simp only [if_neg hf] at h ⊢
          obtain ⟨⟨n, hn⟩, -⟩ := i4 h
          refine ⟨n + 1, fun T => ?_⟩
          rw [show T + (n + 1) = (T + n) + 1 by omega, step, hn T]
          simp only [sEnd, if_neg hf]
      · by_cases c4 : V i = 20
        · have step : ∀ T, sA K V CN NM (T + 1) false st d i o = sA K V CN NM T false (0 :: st) (d + 1) (i + 1) (o + 1) := fun T => by simp only [sA, if_neg c1, if_neg c2, if_neg c3, if_pos c4]
          simp only [sP, if_neg c1, if_neg c2, if_neg c3, if_pos c4] at h ⊢
          obtain ⟨n, hn⟩ := ih0 (d + 1) (i + 1) (o + 1) (0 :: st) h
          refine ⟨n + 1, fun T => ?_⟩
          rw [show T + (n + 1) = (T + n) + 1 by omega, step, hn T]
          unfold sEnd
          rw [sA_not]
        · refine ⟨1, fun T => ?_⟩
          simp only [sP, sA, if_neg c1, if_neg c2, if_neg c3, if_neg c4]
          by_cases c5 : (sLeaf K V CN NM i).1 = 0
          · simp only [if_pos c5, sEnd, if_true]
          · simp only [if_neg c5, sEnd]
    · by_cases c1 : sW K V i 19
      · simp only [sP, if_pos c1] at h ⊢
        have i0 := ih0 d (i + 1) o (1 :: st)
        generalize sP K V CN NM t 0 d (i + 1) o = r at h i0 ⊢
        obtain ⟨f, j, o2⟩ := r
        simp only at h i0 ⊢
        have step : ∀ T, sA K V CN NM (T + 1) true st d i o = sA K V CN NM T false (1 :: st) d (i + 1) o := fun T => by
          simp only [sA]
          rw [sNots_top (sub1 hs)]
          simp only [if_pos c1]
          rw [if_neg (by have := c1.1; omega), sJoin1_top (fun x r e hm => hs x r e (by simp at hm; simp [hm]))]
        by_cases hf : f = 0
        · subst hf
          simp only [if_true] at h ⊢
          obtain ⟨n, hn⟩ := i0 (by decide)
          obtain ⟨⟨n2, hn2⟩, hk⟩ := ih1 d j o2 st hs h
          refine ⟨⟨n2 + n + 1, fun T => ?_⟩, hk⟩
          rw [show T + (n2 + n + 1) = ((T + n2) + n) + 1 by omega, step, hn (T + n2), ← hn2 T]
          simp only [sEnd, if_true]
          exact sA_and (sub1 hs)
        · simp only [if_neg hf] at h ⊢
          obtain ⟨n, hn⟩ := i0 h
          refine ⟨⟨n + 1, fun T => ?_⟩, fun h9 => absurd h9 hf⟩
          rw [show T + (n + 1) = (T + n) + 1 by omega, step, hn T]
          simp only [sEnd, if_neg hf]
      · simp only [sP, if_neg c1]
        exact ⟨⟨0, fun T => by simp only [sEnd, if_true]; rfl⟩, fun _ => c1⟩
    · by_cases c1 : sW K V i 18
      · simp only [sP, if_pos c1] at h ⊢
        have i3 := ih3 d (i + 1) o (2 :: st) (fun x r e hm => by cases e; simp at hm)
        generalize sP K V CN NM t 3 d (i + 1) o = r at h i3 ⊢
        obtain ⟨f, j, o2⟩ := r
        simp only at h i3 ⊢
        have step : ∀ T, sA K V CN NM (T + 1) true st d i o = sA K V CN NM T false (2 :: st) d (i + 1) o := fun T => by
          simp only [sA]
          rw [sNots_top (sub1 (sub2 hs))]
          simp only [if_neg hn, if_pos c1]
          rw [if_neg (by have := c1.1; omega), sJoin_top (fun x r e hm => hs x r e (by simp at hm ⊢; omega))]
        by_cases hf : f = 0
        · subst hf
          simp only [if_true] at h ⊢
          obtain ⟨⟨n, hn1⟩, hk1⟩ := i3 (by decide)
          obtain ⟨⟨n2, hn2⟩, hk⟩ := ih2 d j o2 st hs (hk1 rfl) h
          refine ⟨⟨n2 + n + 1, fun T => ?_⟩, hk⟩
          rw [show T + (n2 + n + 1) = ((T + n2) + n) + 1 by omega, step, hn1 (T + n2), ← hn2 T]
          simp only [sEnd, if_true]
          exact sA_or (sub1 (sub2 hs)) (hk1 rfl)
        · simp only [if_neg hf] at h ⊢
          obtain ⟨⟨n, hn1⟩, -⟩ := i3 h
          refine ⟨⟨n + 1, fun T => ?_⟩, fun h9 => absurd h9 hf⟩
          rw [show T + (n + 1) = (T + n) + 1 by omega, step, hn1 T]
          simp only [sEnd, if_neg hf]
      · simp only [sP, if_neg c1]
        exact ⟨⟨0, fun T => by simp only [sEnd, if_true]; rfl⟩, fun _ => ⟨hn, c1⟩⟩
    · simp only [sP] at h ⊢
      have i0 := ih0 d i o st
      generalize sP K V CN NM t 0 d i o = r at h i0 ⊢
      obtain ⟨f, j, o2⟩ := r
      simp only at h i0 ⊢
      by_cases hf : f = 0
      · subst hf
        simp only [if_true] at h ⊢
        obtain ⟨n, hn⟩ := i0 (by decide)
        obtain ⟨⟨n2, hn2⟩, hk⟩ := ih1 d j o2 st hs h
        refine ⟨⟨n2 + n, fun T => ?_⟩, hk⟩
        rw [show T + (n2 + n) = (T + n2) + n by omega, hn (T + n2), ← hn2 T]
        simp only [sEnd, if_true]
      · simp only [if_neg hf] at h ⊢
        obtain ⟨n, hn⟩ := i0 h
        exact ⟨⟨n, fun T => by rw [hn T]; simp only [sEnd, if_neg hf]⟩, fun h9 => absurd h9 hf⟩
    · simp only [sP] at h ⊢
      have i3 := ih3 d i o st (sub2 hs)
      generalize sP K V CN NM t 3 d i o = r at h i3 ⊢
      obtain ⟨f, j, o2⟩ := r
      simp only at h i3 ⊢
      by_cases hf : f = 0
      · subst hf
        simp only [if_true] at h ⊢
        obtain ⟨⟨n, hn⟩, hk1⟩ := i3 (by decide)
        obtain ⟨⟨n2, hn2⟩, hk⟩ := ih2 d j o2 st hs (hk1 rfl) h
        refine ⟨⟨n2 + n, fun T => ?_⟩, hk⟩
        rw [show T + (n2 + n) = (T + n2) + n by omega, hn (T + n2), ← hn2 T]
        simp only [sEnd, if_true]
      · simp only [if_neg hf] at h ⊢
        obtain ⟨⟨n, hn⟩, -⟩ := i3 h
        exact ⟨⟨n, fun T => by rw [hn T]; simp only [sEnd, if_neg hf]⟩, fun h9 => absurd h9 hf⟩
/-- a whole sentence -/
theorem sent_eq {t : Nat} (h : ¬ (sP K V CN NM t 4 1 0 0).1 = 99) : ∃ n, ∀ T, sA K V CN NM (T + n) false [] 1 0 0 = (if (sP K V CN NM t 4 1 0 0).1 = 0 then (if K (sP K V CN NM t 4 1 0 0).2.1 = 0 then sP K V CN NM t 4 1 0 0 else (1, (sP K V CN NM t 4 1 0 0).2.1, 0)) else ((sP K V CN NM t 4 1 0 0).1, (sP K V CN NM t 4 1 0 0).2.1, 0)) := by
  obtain ⟨⟨n, hn⟩, hk⟩ := (sP_sA t).2.2.2.2 1 0 0 [] (fun x r e => by cases e) h
  refine ⟨n + 1, fun T => ?_⟩
  rw [show T + (n + 1) = (T + 1) + n by omega, hn (T + 1)]
  generalize sP K V CN NM t 4 1 0 0 = r at h hk ⊢
  obtain ⟨f, j, o⟩ := r
  simp only at h hk ⊢
  by_cases hf : f = 0
  · subst hf
    obtain ⟨k19, k18⟩ := hk rfl
    simp only [sEnd, if_true, sA, show sNots [] 1 = ([], 1) from rfl, show sJoin 2 [] = [] from rfl, if_neg k19, if_neg k18, not_true, and_false, if_false]
  · simp only [sEnd, if_neg hf]
end SE
