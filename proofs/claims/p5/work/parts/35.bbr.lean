/-! branches -/
/-- the number that an int is -/
def f_ev (ν : List Int) (a : BV) : Option Int := match a with
  | .inl n => some n
  | .inr (.inl (k, c)) => (match ν[k]? with | some y => some (y + c) | none => none)
  | _ => none
def f_clamp (E : EB) (a : BV) (lo hi : Int) : Option EB := match a with
  | .inl n => if (decide (lo ≤ n) && decide (n ≤ hi)) = true then some E else none
  | .inr (.inl (k, c)) => (match f_lk E k with
    | some (la, ha) => if decide (max la (lo - c) ≤ min ha (hi - c)) = true then (if (decide (lo - c ≤ la) && decide (ha ≤ hi - c)) = true then some E else some ((k, max la (lo - c), min ha (hi - c)) :: E)) else none
    | none => none)
  | _ => none
def f_clamp2 (E : EB) (a : BV) (la ha : Int) (b : BV) (lb hb : Int) : Option EB := match f_clamp E a la ha with
  | some E1 => f_clamp E1 b lb hb
  | none => none
def f_sameN (a b : BV) : Bool := match a, b with
  | .inr (.inl (k, c)), .inr (.inl (k', c')) => Nat.beq k k' && decide (c = c')
  | _, _ => false
/-- where two ints are so: 0 equal, 1 not, 2 less, 3 not less -/
def f_rel (E : EB) (r : Nat) (a b : BV) : Option (List EB) := match f_iv E a, f_iv E b with
  | some (la, ha), some (lb, hb) =>
    (match r with
    | 0 => some (f_clamp2 E a lb hb b la ha).toList
    | 1 => if f_sameN a b = true then some [] else
        if decide (lb = hb) = true then (if decide (la = lb) = true then some (f_clamp E a (lb + 1) iMax).toList else if decide (ha = lb) = true then some (f_clamp E a iMin (lb - 1)).toList else some [E])
        else if decide (la = ha) = true then (if decide (lb = la) = true then some (f_clamp E b (la + 1) iMax).toList else if decide (hb = la) = true then some (f_clamp E b iMin (la - 1)).toList else some [E])
        else some [E]
    | 2 => some (f_clamp2 E a iMin (hb - 1) b (la + 1) iMax).toList
    | _ => some (f_clamp2 E a lb iMax b iMin ha).toList)
  | _, _ => none
def f_nmd (a : BV) : Bool := match a with
  | .inr (.inl _) => true
  | _ => false
/-- what is known then of the two: not more -/
def f_les (r : Nat) (a b : BV) : List (BV × BV) := if (f_nmd a && f_nmd b) = true then (match r with
  | 2 => [(f_off a 1, b)]
  | 3 => [(b, a)]
  | _ => []) else []
def hle (ν : List Int) (q : BV × BV) : Prop := ∃ z1 z2, f_ev ν q.1 = some z1 ∧ f_ev ν q.2 = some z2 ∧ z1 ≤ z2
abbrev BRB : Type := Nat × EB × List (BV × BV) × List BV
def f_b1 (x : List EB) (L : List (BV × BV)) (pc : Nat) (st : List BV) : List BRB := x.map (fun E => (pc, E, L, st))
def f_cmp (E : EB) (cnd : Jvm.ClassFile.Cond) (x y : BV) (t f : Nat) (st : List BV) : Option (List BRB) :=
  match (if (e_rc cnd).2.2 = true then f_rel E (e_rc cnd).1 y x else f_rel E (e_rc cnd).1 x y), (if (e_rc cnd).2.2 = true then f_rel E (e_rc cnd).2.1 y x else f_rel E (e_rc cnd).2.1 x y) with
  | some a, some b => some (f_b1 a (if (e_rc cnd).2.2 = true then f_les (e_rc cnd).1 y x else f_les (e_rc cnd).1 x y) t st ++ f_b1 b (if (e_rc cnd).2.2 = true then f_les (e_rc cnd).2.1 y x else f_les (e_rc cnd).2.1 x y) f st)
  | _, _ => none
def f_tab (E : EB) (pc : Nat) (a : BV) (st : List BV) (v : Int) (offs : List Int) : Option (List BRB) := match offs with
  | [] => some []
  | o :: r => (match e_tgt pc o, f_tab E pc a st (v + 1) r with
    | some t, some q => some (f_b1 (f_clamp E a v v).toList [] t st ++ q)
    | _, _ => none)
/-- is a reference surely not null -/
def f_nn (E : EB) (a : BV) : Bool := match a with
  | .inr (.inr (.inr (.inl (some (_, nn, nm))))) => nn || (match nm with | some k => (match f_lk E k with | some (lo, _) => decide (1 ≤ lo) | none => false) | none => false)
  | .inr (.inr (.inr (.inr _))) => true
  | _ => false
def f_nul (E : EB) (a : BV) : Option (Option EB × Option EB) := match a with
  | .inr (.inr (.inr (.inl none))) => some (some E, none)
  | .inr (.inr (.inr (.inl (some (_, nn, nm))))) => if f_nn E a = true then some (none, some E) else (match nm with
    | some k => (match f_lk E k with
      | some _ => some (f_clamp E (bV k 0) 0 0, f_clamp E (bV k 0) 1 1)
      | none => some (some E, some E))
    | none => some (some E, some E))
  | .inr (.inr (.inr (.inr _))) => some (none, some E)
  | _ => none
def f_o2l (x : Option EB) (pc : Nat) (st : List BV) : List BRB := match x with
  | some E => [(pc, E, [], st)]
  | none => []
def f_branch (E : EB) (pc : Nat) (ins : Instr) (len : Nat) (st : List BV) : Option (List BRB) := match ins with
  | .goto off => (match e_tgt pc off with | some t => if Nat.beq len 3 = true then some [(t, E, [], st)] else none | none => none)
  | .ifCond cnd off => (match st with
    | x :: st' => (match e_tgt pc off with | some t => if Nat.beq len 3 = true then f_cmp E cnd x (bI 0) t (pc + 3) st' else none | none => none)
    | _ => none)
  | .if_icmp cnd off => (match st with
    | y :: x :: st' => (match e_tgt pc off with | some t => if Nat.beq len 3 = true then f_cmp E cnd x y t (pc + 3) st' else none | none => none)
    | _ => none)
  | .ifnull off => (match st with
    | x :: st' => (match e_tgt pc off, f_nul E x with | some t, some (a, b) => if Nat.beq len 3 = true then some (f_o2l a t st' ++ f_o2l b (pc + 3) st') else none | _, _ => none)
    | _ => none)
  | .ifnonnull off => (match st with
    | x :: st' => (match e_tgt pc off, f_nul E x with | some t, some (a, b) => if Nat.beq len 3 = true then some (f_o2l a (pc + 3) st' ++ f_o2l b t st') else none | _, _ => none)
    | _ => none)
  | .tableswitch d lo hi offs => (match st with
    | x :: st' => (match f_iv E x, e_tgt pc d, f_tab E pc x st' lo offs.toList with
      | some _, some t, some q => if decide (hi = lo + offs.toList.length - 1) = true then some (f_b1 (f_clamp E x iMin (lo - 1)).toList [] t st' ++ (f_b1 (f_clamp E x (hi + 1) iMax).toList [] t st' ++ q)) else none
      | _, _, _ => none)
    | _ => none)
  | _ => none
section BBR
variable {I : IN} {E : EB} {n : Nat}
theorem hv_ev {a : BV} {x : Int32} (h : hv I a (.int x)) : f_ev I.1 a = some x.toInt := by
  rcases a with c | ⟨k, c⟩ | ⟨l0, h0⟩ | (_ | ⟨κ, nn, nm⟩) | j
  · obtain ⟨y, e, h1⟩ := h; cases e; rw [h1]; rfl
  · obtain ⟨y, z, e, h1, h2⟩ := h; cases e; simp only [f_ev, h1, h2]
  · obtain ⟨y, e, -⟩ := h; cases e
  · have h : Value.int x = .null := h; cases h
  · obtain ⟨h1 | ⟨q, -, h1⟩, -⟩ := h
    · cases h1.2
    · cases h1
  · have h : Value.int x = .ref (I.2.2 j) := h; cases h
theorem ev_hv {a : BV} {x : Int32} (h : f_ev I.1 a = some x.toInt) : hv I a (.int x) := by
  rcases a with c | ⟨k, c⟩ | ⟨l0, h0⟩ | (_ | ⟨κ, nn, nm⟩) | j
  · simp only [f_ev, Option.some.injEq] at h; exact ⟨x, rfl, h.symm⟩
  · simp only [f_ev] at h
    split at h
    · rename_i y hy
      simp only [Option.some.injEq] at h
      exact ⟨x, y, rfl, hy, h.symm⟩
    · cases h
  all_goals (simp only [f_ev] at h; cases h)
theorem ev_off {ν : List Int} {a : BV} {z d : Int} (h : f_ev ν a = some z) : f_ev ν (f_off a d) = some (z + d) := by
  rcases a with c | ⟨k, c⟩ | ⟨l0, h0⟩ | (_ | ⟨κ, nn, nm⟩) | j
  · simp only [f_ev, Option.some.injEq] at h; simp only [f_off, f_ev, h]
  · simp only [f_ev] at h
    split at h
    · rename_i y hy
      simp only [Option.some.injEq] at h
      simp only [f_off, f_ev, hy, Option.some.injEq]
      omega
    · cases h
  all_goals (simp only [f_ev] at h; cases h)
theorem ev_xt {J : IN} {a : BV} {z : Int} (h : hxt I J) (ha : f_ev I.1 a = some z) : f_ev J.1 a = some z := by
  rcases a with c | ⟨k, c⟩ | ⟨l0, h0⟩ | (_ | ⟨κ, nn, nm⟩) | j
  · exact ha
  · simp only [f_ev] at ha ⊢
    split at ha
    · rename_i y hy
      rw [h.at hy]; exact ha
    · cases ha
  all_goals (simp only [f_ev] at ha; cases ha)
theorem ev_iv {ν : List Int} {a : BV} {z lo hi : Int} (hE : henv ν n E) (h : f_ev ν a = some z) (hi9 : f_iv E a = some (lo, hi)) : lo ≤ z ∧ z ≤ hi := by
  rcases a with c | ⟨k, c⟩ | ⟨l0, h0⟩ | (_ | ⟨κ, nn, nm⟩) | j
  · simp only [f_ev, Option.some.injEq] at h
    simp only [f_iv, Option.some.injEq, Prod.mk.injEq] at hi9
    omega
  · simp only [f_ev] at h
    simp only [f_iv] at hi9
    split at h
    · rename_i y hy
      split at hi9
      · rename_i l1 h1 hk
        obtain ⟨y', g1, g2, g3⟩ := hE.2 k _ hk
        rw [hy] at g1
        cases g1
        simp only [Option.some.injEq, Prod.mk.injEq] at hi9 h
        simp only at g2 g3
        omega
      · cases hi9
    · cases h
  all_goals (simp only [f_ev] at h; cases h)
theorem henv_set {ν : List Int} {k : Nat} {y lo hi : Int} (hE : henv ν n E) (hk : ν[k]? = some y) (h1 : lo ≤ y) (h2 : y ≤ hi) : henv ν n ((k, lo, hi) :: E) := by
  refine ⟨hE.1, fun j q hj => ?_⟩
  simp only [f_lk] at hj
  split at hj
  · rename_i h3
    have := Nat.eq_of_beq_eq_true h3
    subst this
    cases hj
    exact ⟨y, hk, h1, h2⟩
  · exact hE.2 j q hj
theorem f_clamp_ev {ν : List Int} {a : BV} {z lo hi : Int} (hE : henv ν n E) (hx : f_ev ν a = some z) (hk : ∃ q, f_iv E a = some q) (h1 : lo ≤ z) (h2 : z ≤ hi) : ∃ E1, f_clamp E a lo hi = some E1 ∧ henv ν n E1 ∧ ∀ c q, f_iv E c = some q → ∃ q', f_iv E1 c = some q' := by
  rcases a with c | ⟨k, c⟩ | ⟨l0, h0⟩ | (_ | ⟨κ, nn, nm⟩) | j
  · simp only [f_ev, Option.some.injEq] at hx
    refine ⟨E, ?_, hE, fun c q hq => ⟨q, hq⟩⟩
    simp only [f_clamp]
    rw [if_pos]
    simp only [Bool.and_eq_true, decide_eq_true_eq]
    omega
  · simp only [f_ev] at hx
    obtain ⟨q, hq⟩ := hk
    simp only [f_iv] at hq
    split at hx
    · rename_i y hy
      split at hq
      · rename_i l1 h1' hlk
        obtain ⟨y', g1, g2, g3⟩ := hE.2 k _ hlk
        rw [hy] at g1
        cases g1
        simp only [Option.some.injEq] at hx
        simp only at g2 g3
        simp only [f_clamp, hlk]
        rw [if_pos (by rw [decide_eq_true_eq]; omega)]
        split
        · exact ⟨E, rfl, hE, fun c q hq => ⟨q, hq⟩⟩
        · refine ⟨_, rfl, henv_set hE hy (by omega) (by omega), fun c q hq => ?_⟩
          rcases c with c | ⟨k', c'⟩ | ⟨l0, h0⟩ | (_ | ⟨κ, nn, nm⟩) | j
          · exact ⟨_, rfl⟩
          · simp only [f_iv, f_lk] at hq ⊢
            split
            · rename_i l2 h2' hh; exact ⟨_, rfl⟩
            · rename_i hh
              split at hh
              · cases hh
              · rw [hh] at hq; cases hq
          all_goals (simp only [f_iv] at hq; cases hq)
      · cases hq
    · cases hx
  all_goals (simp only [f_ev] at hx; cases hx)
theorem f_clamp_ok {a : BV} {x : Int32} {lo hi : Int} (hE : henv I.1 n E) (hx : hv I a (.int x)) (hk : ∃ q, f_iv E a = some q) (h1 : lo ≤ x.toInt) (h2 : x.toInt ≤ hi) : ∃ E1, f_clamp E a lo hi = some E1 ∧ henv I.1 n E1 ∧ ∀ c q, f_iv E c = some q → ∃ q', f_iv E1 c = some q' :=
  f_clamp_ev hE (hv_ev hx) hk h1 h2
theorem f_clamp2_ok {a c : BV} {x y : Int32} {la ha lb hb : Int} (hE : henv I.1 n E) (hx : hv I a (.int x)) (hy : hv I c (.int y)) (k1 : ∃ q, f_iv E a = some q) (k2 : ∃ q, f_iv E c = some q) (h1 : la ≤ x.toInt) (h2 : x.toInt ≤ ha) (h3 : lb ≤ y.toInt) (h4 : y.toInt ≤ hb) : ∃ E1, f_clamp2 E a la ha c lb hb = some E1 ∧ henv I.1 n E1 := by
  obtain ⟨E1, e1, g1, w1⟩ := f_clamp_ok hE hx k1 h1 h2
  obtain ⟨q, hq⟩ := k2
  obtain ⟨E2, e2, g2, -⟩ := f_clamp_ok g1 hy (w1 _ _ hq) h3 h4
  exact ⟨E2, by simp only [f_clamp2, e1, e2], g2⟩
theorem mem_toB {x : Option EB} {E1 : EB} (h : x = some E1) : E1 ∈ x.toList := by rw [h]; exact List.mem_cons_self
theorem f_rel_ok {a c : BV} {x y : Int32} {r : Nat} {o : List EB} (hE : henv I.1 n E) (hx : hv I a (.int x)) (hy : hv I c (.int y)) (h : f_rel E r a c = some o) (hr : e_holds r x.toInt y.toInt) : ∃ E1, E1 ∈ o ∧ henv I.1 n E1 := by
  unfold f_rel at h
  split at h
  · rename_i la ha1 lb hb1 e1 e2
    have p1 := hv_int2 hE hx e1
    have p2 := hv_int2 hE hy e2
    have r1 := fb_rng x
    have r2 := fb_rng y
    split at h
    · have hr : x.toInt = y.toInt := hr
      cases h
      obtain ⟨E1, g1, g2⟩ := f_clamp2_ok hE hx hy ⟨_, e1⟩ ⟨_, e2⟩ (show lb ≤ x.toInt by omega) (show x.toInt ≤ hb1 by omega) (show la ≤ y.toInt by omega) (show y.toInt ≤ ha1 by omega)
      exact ⟨E1, mem_toB g1, g2⟩
    · have hr : x.toInt ≠ y.toInt := hr
      split at h
      · rename_i q
        exfalso
        unfold f_sameN at q
        split at q
        · rename_i k1 c1 k2 c2
          simp only [Bool.and_eq_true, decide_eq_true_eq] at q
          have q1 := Nat.eq_of_beq_eq_true q.1
          subst q1
          obtain ⟨x', w, ex, hk, hx'⟩ := hx
          obtain ⟨y', w', ey, hk', hy'⟩ := hy
          cases ex
          cases ey
          rw [hk] at hk'
          cases hk'
          omega
        · cases q
      · split at h
        · rename_i q
          have q := of_decide_eq_true q
          split at h
          · rename_i q1
            have q1 := of_decide_eq_true q1
            cases h
            obtain ⟨E1, g1, g2, -⟩ := f_clamp_ok (lo := lb + 1) (hi := iMax) hE hx ⟨_, e1⟩ (by omega) (by simp only [iMax]; omega)
            exact ⟨E1, mem_toB g1, g2⟩
          · split at h
            · rename_i q1
              have q1 := of_decide_eq_true q1
              cases h
              obtain ⟨E1, g1, g2, -⟩ := f_clamp_ok (lo := iMin) (hi := lb - 1) hE hx ⟨_, e1⟩ (by simp only [iMin]; omega) (by omega)
              exact ⟨E1, mem_toB g1, g2⟩
            · cases h; exact ⟨E, List.mem_cons_self, hE⟩
        · split at h
          · rename_i q
            have q := of_decide_eq_true q
            split at h
            · rename_i q1
              have q1 := of_decide_eq_true q1
              cases h
              obtain ⟨E1, g1, g2, -⟩ := f_clamp_ok (lo := la + 1) (hi := iMax) hE hy ⟨_, e2⟩ (by omega) (by simp only [iMax]; omega)
              exact ⟨E1, mem_toB g1, g2⟩
            · split at h
              · rename_i q1
                have q1 := of_decide_eq_true q1
                cases h
                obtain ⟨E1, g1, g2, -⟩ := f_clamp_ok (lo := iMin) (hi := la - 1) hE hy ⟨_, e2⟩ (by simp only [iMin]; omega) (by omega)
                exact ⟨E1, mem_toB g1, g2⟩
              · cases h; exact ⟨E, List.mem_cons_self, hE⟩
          · cases h; exact ⟨E, List.mem_cons_self, hE⟩
    · have hr : x.toInt < y.toInt := hr
      cases h
      obtain ⟨E1, g1, g2⟩ := f_clamp2_ok hE hx hy ⟨_, e1⟩ ⟨_, e2⟩ (show iMin ≤ x.toInt by simp only [iMin]; omega) (show x.toInt ≤ hb1 - 1 by omega) (show la + 1 ≤ y.toInt by omega) (show y.toInt ≤ iMax by simp only [iMax]; omega)
      exact ⟨E1, mem_toB g1, g2⟩
    · rename_i n0 n1 n2
      have hr : y.toInt ≤ x.toInt := by
        rcases r with _ | _ | _ | r
        · exact absurd rfl n0
        · exact absurd rfl n1
        · exact absurd rfl n2
        · exact hr
      cases h
      obtain ⟨E1, g1, g2⟩ := f_clamp2_ok hE hx hy ⟨_, e1⟩ ⟨_, e2⟩ (show lb ≤ x.toInt by omega) (show x.toInt ≤ iMax by simp only [iMax]; omega) (show iMin ≤ y.toInt by simp only [iMin]; omega) (show y.toInt ≤ ha1 by omega)
      exact ⟨E1, mem_toB g1, g2⟩
  · cases h
theorem f_les_ok {a c : BV} {x y : Int32} {r : Nat} (hx : hv I a (.int x)) (hy : hv I c (.int y)) (hr : e_holds r x.toInt y.toInt) : ∀ q ∈ f_les r a c, hle I.1 q := by
  intro q hq
  unfold f_les at hq
  split at hq
  · split at hq
    · have hr : x.toInt < y.toInt := hr
      rcases List.mem_cons.mp hq with rfl | hq
      · exact ⟨_, _, ev_off (hv_ev hx), hv_ev hy, by omega⟩
      · cases hq
    · have hr : y.toInt ≤ x.toInt := hr
      rcases List.mem_cons.mp hq with rfl | hq
      · exact ⟨_, _, hv_ev hy, hv_ev hx, hr⟩
      · cases hq
    · cases hq
  · cases hq
theorem mem_b1B {x : List EB} {E1 : EB} {L : List (BV × BV)} {t : Nat} {st : List BV} (h : E1 ∈ x) : (t, E1, L, st) ∈ f_b1 x L t st := List.mem_map.mpr ⟨E1, h, rfl⟩
theorem f_cmp_ok {cnd : Jvm.ClassFile.Cond} {ax ay : BV} {x y : Int32} {t f : Nat} {st : List BV} {o : List BRB} (hE : henv I.1 n E) (hx : hv I ax (.int x)) (hy : hv I ay (.int y)) (h : f_cmp E cnd ax ay t f st = some o) :
    ((if (e_rc cnd).2.2 = true then e_holds (e_rc cnd).1 y.toInt x.toInt else e_holds (e_rc cnd).1 x.toInt y.toInt) → ∃ E1 L, (t, E1, L, st) ∈ o ∧ henv I.1 n E1 ∧ ∀ q ∈ L, hle I.1 q) ∧ ((if (e_rc cnd).2.2 = true then e_holds (e_rc cnd).2.1 y.toInt x.toInt else e_holds (e_rc cnd).2.1 x.toInt y.toInt) → ∃ E1 L, (f, E1, L, st) ∈ o ∧ henv I.1 n E1 ∧ ∀ q ∈ L, hle I.1 q) := by
  unfold f_cmp at h
  split at h
  · rename_i a b h1 h2
    cases h
    refine ⟨fun g => ?_, fun g => ?_⟩
    · by_cases q : (e_rc cnd).2.2 = true
      · rw [if_pos q] at g h1
        obtain ⟨E1, m1, m2⟩ := f_rel_ok hE hy hx h1 g
        exact ⟨E1, _, List.mem_append_left _ (mem_b1B m1), m2, by rw [if_pos q]; exact f_les_ok hy hx g⟩
      · rw [if_neg q] at g h1
        obtain ⟨E1, m1, m2⟩ := f_rel_ok hE hx hy h1 g
        exact ⟨E1, _, List.mem_append_left _ (mem_b1B m1), m2, by rw [if_neg q]; exact f_les_ok hx hy g⟩
    · by_cases q : (e_rc cnd).2.2 = true
      · rw [if_pos q] at g h2
        obtain ⟨E1, m1, m2⟩ := f_rel_ok hE hy hx h2 g
        exact ⟨E1, _, List.mem_append_right _ (mem_b1B m1), m2, by rw [if_pos q]; exact f_les_ok hy hx g⟩
      · rw [if_neg q] at g h2
        obtain ⟨E1, m1, m2⟩ := f_rel_ok hE hx hy h2 g
        exact ⟨E1, _, List.mem_append_right _ (mem_b1B m1), m2, by rw [if_neg q]; exact f_les_ok hx hy g⟩
  · cases h
theorem f_cmp_iv {cnd : Jvm.ClassFile.Cond} {ax ay : BV} {t f : Nat} {st : List BV} {o : List BRB} (h : f_cmp E cnd ax ay t f st = some o) : (∃ q, f_iv E ax = some q) ∧ ∃ q, f_iv E ay = some q := by
  have key : ∀ {k : Nat} {u v : BV} {o : List EB}, f_rel E k u v = some o → (∃ q, f_iv E u = some q) ∧ ∃ q, f_iv E v = some q := by
    intro k u v o h
    unfold f_rel at h
    split at h
    · rename_i e1 e2
      exact ⟨⟨_, e1⟩, ⟨_, e2⟩⟩
    · cases h
  unfold f_cmp at h
  split at h
  · rename_i t1 f1 h1 h2
    split at h1
    · have := key h1; exact ⟨this.2, this.1⟩
    · exact key h1
  · cases h
theorem f_tab_ok {pc : Nat} {x : Int32} {a : BV} {st : List BV} (hE : henv I.1 n E) (hx : hv I a (.int x)) (hk : ∃ q, f_iv E a = some q) : ∀ (offs : List Int) (v : Int) (q : List BRB), f_tab E pc a st v offs = some q → ∀ (k : Nat) (off : Int), offs[k]? = some off → x.toInt = v + (k : Int) → ∃ (t : Nat) (E1 : EB), (pc : Int) + off = (t : Int) ∧ (t, E1, [], st) ∈ q ∧ henv I.1 n E1 := by
  intro offs
  induction offs with
  | nil => intro v q _ k off h; simp at h
  | cons o r ih =>
    intro v q h k off hk9 hv
    simp only [f_tab] at h
    split at h
    · rename_i t q1 h1 h2
      cases h
      cases k with
      | zero =>
        simp at hk9
        subst hk9
        obtain ⟨E1, e1, g1, -⟩ := f_clamp_ok (lo := v) (hi := v) hE hx hk (by omega) (by omega)
        exact ⟨t, E1, e_tgt_ok h1, List.mem_append_left _ (mem_b1B (mem_toB e1)), g1⟩
      | succ k =>
        simp at hk9
        obtain ⟨t', E1, g1, g2, g3⟩ := ih (v + 1) q1 h2 k off hk9 (by omega)
        exact ⟨t', E1, g1, List.mem_append_right _ g2, g3⟩
    · cases h
theorem f_nn_ok {a : BV} {v : Value} (hE : henv I.1 n E) (h : hv I a v) (hn : f_nn E a = true) : ∃ q : Nat, v = .ref q := by
  rcases a with c | ⟨k, c⟩ | ⟨l0, h0⟩ | (_ | ⟨κ, nn, nm⟩) | j
  · cases hn
  · cases hn
  · cases hn
  · cases hn
  · obtain ⟨h1, h2⟩ := h
    rcases h1 with ⟨h3, h4⟩ | ⟨q, h3, h4⟩
    · exfalso
      subst h3
      simp only [f_nn, Bool.false_or] at hn
      split at hn
      · rename_i k
        split at hn
        · rename_i lo hi hk
          have hn := of_decide_eq_true hn
          obtain ⟨y, g1, g2⟩ := h2 k rfl
          obtain ⟨y', g3, g4, g5⟩ := hE.2 k _ hk
          rw [g1] at g3
          cases g3
          rcases g2 with ⟨g6, -⟩ | ⟨-, ⟨-, rfl⟩ | ⟨⟨q, rfl⟩, -⟩⟩
          · cases g6
          · simp only at g4; omega
          · cases h4
        · cases hn
      · cases hn
    · exact ⟨q, h4⟩
  · exact ⟨_, h⟩
theorem f_nul_ok {a : BV} {v : Value} {x y : Option EB} (hE : henv I.1 n E) (h : hv I a v) (hn : f_nul E a = some (x, y)) : (v = .null ∧ ∃ E1, x = some E1 ∧ henv I.1 n E1) ∨ ((∃ q : Nat, v = .ref q) ∧ ∃ E1, y = some E1 ∧ henv I.1 n E1) := by
  unfold f_nul at hn
  split at hn
  · cases hn
    exact Or.inl ⟨h, E, rfl, hE⟩
  · rename_i κ nn nm
    split at hn
    · rename_i q
      cases hn
      exact Or.inr ⟨f_nn_ok hE h q, E, rfl, hE⟩
    · rename_i hnn
      have two : v = .null ∨ ∃ q : Nat, v = .ref q := by
        rcases h.1 with ⟨-, h3⟩ | ⟨q, -, h3⟩
        · exact Or.inl h3
        · exact Or.inr ⟨q, h3⟩
      split at hn
      · rename_i k
        split at hn
        · rename_i q hq
          cases hn
          obtain ⟨h1, h2⟩ := h
          obtain ⟨y, g1, g2⟩ := h2 k rfl
          have hk : ∀ lo hi, lo ≤ y → y ≤ hi → ∃ E1, f_clamp E (bV k 0) lo hi = some E1 ∧ henv I.1 n E1 := by
            intro lo hi w1 w2
            obtain ⟨E1, e1, e2, -⟩ := f_clamp_ev (a := bV k 0) (z := y) (lo := lo) (hi := hi) hE (by simp [f_ev, g1]) ⟨(q.1 + 0, q.2 + 0), by simp only [f_iv, hq]⟩ w1 w2
            exact ⟨E1, e1, e2⟩
          rcases g2 with ⟨g6, -⟩ | ⟨-, ⟨g7, rfl⟩ | ⟨g7, rfl⟩⟩
          · subst g6
            exact absurd (show f_nn E (Sum.inr (Sum.inr (Sum.inr (Sum.inl (some (κ, true, some k)))))) = true by simp [f_nn]) hnn
          · exact Or.inl ⟨g7, hk 0 0 (by omega) (by omega)⟩
          · exact Or.inr ⟨g7, hk 1 1 (by omega) (by omega)⟩
        · cases hn
          rcases two with h3 | h3
          · exact Or.inl ⟨h3, E, rfl, hE⟩
          · exact Or.inr ⟨h3, E, rfl, hE⟩
      · cases hn
        rcases two with h3 | h3
        · exact Or.inl ⟨h3, E, rfl, hE⟩
        · exact Or.inr ⟨h3, E, rfl, hE⟩
  · cases hn
    exact Or.inr ⟨⟨_, h⟩, E, rfl, hE⟩
  · cases hn
variable {p : Program} {l : Launch} {e : Env} {R : Room} {s : State} {m : MethodId} {args : Array Value} {below : List Frame} {meth : Method} {c : Code} {H : Heap} {locs : List Loc} {cells slots : Nat} {Q : State → Prop}
variable {cc : ByteArray} {pc nL : Nat} {ls : Array Slot}
theorem mem_o2lB {x : Option EB} {E1 : EB} {t : Nat} {st : List BV} (h : x = some E1) : (t, E1, [], st) ∈ f_o2l x t st := by rw [h]; exact List.mem_cons_self
theorem f_branch_ok {ins : Instr} {len : Nat} {st : List BV} {vs : List Value} {brs : List BRB} (hx9 : p.tables.exec = Jvm.exec) (hb : c.code = cc) (h : f_branch E pc ins len st = some brs) (hd : decode cc pc = .ok (ins, len)) (hs : hvs I st vs) (hE : henv I.1 n E)
    (kk : ∀ br ∈ brs, ∀ vs', henv I.1 n br.2.1 → (∀ q ∈ br.2.2.1, hle I.1 q) → hvs I br.2.2.2 vs' → W p l e R s m args below meth c H locs cells slots Q (F0 m br.1 ls vs')) : W p l e R s m args below meth c H locs cells slots Q (F0 m pc ls vs) := by
  have none9 : ∀ q ∈ ([] : List (BV × BV)), hle I.1 q := fun q hq => by cases hq
  unfold f_branch at h
  split at h
  · split at h
    · rename_i ht
      split at h
      · rename_i hlen
        cases h
        have := Nat.eq_of_beq_eq_true hlen
        subst this
        exact lv_goto hx9 hb hd (e_tgt_ok ht) (kk _ List.mem_cons_self _ hE none9 hs)
      · cases h
    · cases h
  · split at h
    · split at h
      · rename_i ht
        split at h
        · rename_i hlen
          have := Nat.eq_of_beq_eq_true hlen
          subst this
          obtain ⟨vx, vs1, rfl, g1, hs1⟩ := hvs_cons hs
          obtain ⟨⟨q1, e1⟩, -⟩ := f_cmp_iv h
          obtain ⟨i, rfl, -⟩ := hv_int hE g1 e1
          have g0 : hv I (bI 0) (.int 0) := ⟨0, rfl, rfl⟩
          obtain ⟨c1, c2⟩ := f_cmp_ok hE g1 g0 h
          refine h_ifc hx9 hb hd (e_tgt_ok ht) (fun g => ?_) (fun g => ?_)
          · obtain ⟨E1, L, e9, gE, gL⟩ := c1 g
            exact kk _ e9 _ gE gL hs1
          · obtain ⟨E1, L, e9, gE, gL⟩ := c2 g
            exact kk _ e9 _ gE gL hs1
        · cases h
      · cases h
    · cases h
  · split at h
    · split at h
      · rename_i ht
        split at h
        · rename_i hlen
          have := Nat.eq_of_beq_eq_true hlen
          subst this
          obtain ⟨vy, vs1, rfl, g1, hs1⟩ := hvs_cons hs
          obtain ⟨vx, vs2, rfl, g2, hs2⟩ := hvs_cons hs1
          obtain ⟨⟨q1, e1⟩, ⟨q2, e2⟩⟩ := f_cmp_iv h
          obtain ⟨i, rfl, -⟩ := hv_int hE g2 e1
          obtain ⟨j, rfl, -⟩ := hv_int hE g1 e2
          obtain ⟨c1, c2⟩ := f_cmp_ok hE g2 g1 h
          refine h_icmp hx9 hb hd (e_tgt_ok ht) (fun g => ?_) (fun g => ?_)
          · obtain ⟨E1, L, e9, gE, gL⟩ := c1 g
            exact kk _ e9 _ gE gL hs2
          · obtain ⟨E1, L, e9, gE, gL⟩ := c2 g
            exact kk _ e9 _ gE gL hs2
        · cases h
      · cases h
    · cases h
  · split at h
    · split at h
      · rename_i ht hn
        split at h
        · rename_i hlen
          cases h
          have := Nat.eq_of_beq_eq_true hlen
          subst this
          obtain ⟨v, vs1, rfl, g1, hs1⟩ := hvs_cons hs
          rcases f_nul_ok hE g1 hn with ⟨rfl, E1, e1, gE⟩ | ⟨⟨q, rfl⟩, E1, e1, gE⟩
          · exact lv_ifnullN hx9 hb hd (e_tgt_ok ht) (kk _ (List.mem_append_left _ (mem_o2lB e1)) _ gE none9 hs1)
          · exact lv_ifnull hx9 hb hd (kk _ (List.mem_append_right _ (mem_o2lB e1)) _ gE none9 hs1)
        · cases h
      · cases h
    · cases h
  · split at h
    · split at h
      · rename_i ht hn
        split at h
        · rename_i hlen
          cases h
          have := Nat.eq_of_beq_eq_true hlen
          subst this
          obtain ⟨v, vs1, rfl, g1, hs1⟩ := hvs_cons hs
          rcases f_nul_ok hE g1 hn with ⟨rfl, E1, e1, gE⟩ | ⟨⟨q, rfl⟩, E1, e1, gE⟩
          · exact lv_ifnonnullN hx9 hb hd (kk _ (List.mem_append_left _ (mem_o2lB e1)) _ gE none9 hs1)
          · exact lv_ifnonnull hx9 hb hd (e_tgt_ok ht) (kk _ (List.mem_append_right _ (mem_o2lB e1)) _ gE none9 hs1)
        · cases h
      · cases h
    · cases h
  · rename_i d lo hi offs
    split at h
    · split at h
      · rename_i hiv ht hq
        split at h
        · rename_i hh
          have hh := of_decide_eq_true hh
          cases h
          obtain ⟨v, vs1, rfl, g1, hs1⟩ := hvs_cons hs
          obtain ⟨i, rfl, -⟩ := hv_int hE g1 hiv
          have r1 := fb_rng i
          by_cases hlo : i.toInt < lo
          · obtain ⟨E1, e1, gE, -⟩ := f_clamp_ok (lo := iMin) (hi := lo - 1) hE g1 ⟨_, hiv⟩ (by simp only [iMin]; omega) (by omega)
            exact lv_tableOut hx9 hb hd (Or.inl hlo) (e_tgt_ok ht) (kk _ (List.mem_append_left _ (mem_b1B (mem_toB e1))) _ gE none9 hs1)
          · by_cases hhi : hi < i.toInt
            · obtain ⟨E1, e1, gE, -⟩ := f_clamp_ok (lo := hi + 1) (hi := iMax) hE g1 ⟨_, hiv⟩ (by omega) (by simp only [iMax]; omega)
              exact lv_tableOut hx9 hb hd (Or.inr hhi) (e_tgt_ok ht) (kk _ (List.mem_append_right _ (List.mem_append_left _ (mem_b1B (mem_toB e1)))) _ gE none9 hs1)
            · have hlt : (i.toInt - lo).toNat < offs.toList.length := by omega
              have hget : offs.toList[(i.toInt - lo).toNat]? = some offs.toList[(i.toInt - lo).toNat] := List.getElem?_eq_getElem hlt
              obtain ⟨t', E1, e1, e2, gE⟩ := f_tab_ok hE g1 ⟨_, hiv⟩ offs.toList lo _ hq _ _ hget (by omega)
              exact lv_tableIn hx9 hb hd hlo hhi (by rw [← Array.getElem?_toList]; exact hget) e1 (kk _ (List.mem_append_right _ (List.mem_append_right _ e2)) _ gE none9 hs1)
        · cases h
      · cases h
    · cases h
  · cases h
end BBR
