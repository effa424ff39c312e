/-! the exact engine: steps at the heap (a cell is told by its place in the world), blocks -/
/-- pc, locals, stack, cells -/
abbrev XS : Type := Nat × List (Nat × Value) × List Value × va_W
abbrev XH : Type := Nat × List Value × va_W × List Prop
def x_hst (RT : List (List (Nat × RES))) (cy : Nat → ClassId) (M : MT) (ins : Instr) (i : Nat) (st : List Value) (wp : va_W) : Option XH := match ins with
  | .getfield ix => (match e_res RT (mO M) ix, st, wp[i]? with
    | some (kd, ci, k, _), .ref q :: st', some (q', .inr (ci', fs)) => (match fs[k]? with
      | some v => if (Nat.ble kd 1 && Nat.beq ci ci') = true then some (3, v :: st', wp, [q = q']) else none
      | none => none)
    | _, _, _ => none)
  | .putfield ix => (match e_res RT (mO M) ix, st, wp[i]? with
    | some (kd, ci, k, _), v :: .ref q :: st', some (q', .inr (ci', fs)) => if (Nat.ble kd 1 && (Nat.beq ci ci' && (f_plainF ci k && decide (k < fs.length)))) = true then some (3, st', wp.set i (q', .inr (ci', fs.set k v)), [q = q', narrow (clTy ci k) v = v, fits (clTy ci k) v = true]) else none
    | _, _, _ => none)
  | .arraylength => (match st, wp[i]? with
    | .ref q :: st', some (q', .inl (cA, x)) => some (1, .int (Int32.ofNat x.1) :: st', wp, [q = q', ∃ t, t < 6 ∧ cA = cy t])
    | _, _ => none)
  | .iaload => (match st, wp[i]? with
    | .int j :: .ref q :: st', some (q', .inl (cA, n, .inl f)) => some (1, .int (f j.toNatClampNeg) :: st', wp, [q = q', cA = cy 0, vp_in j n])
    | _, _ => none)
  | .baload => (match st, wp[i]? with
    | .int j :: .ref q :: st', some (q', .inl (cA, n, .inl f)) => some (1, .int (f j.toNatClampNeg) :: st', wp, [q = q', cA = cy 1, vp_in j n])
    | _, _ => none)
  | .laload => (match st, wp[i]? with
    | .int j :: .ref q :: st', some (q', .inl (cA, n, .inr (.inl f))) => some (1, .long (f j.toNatClampNeg) :: st', wp, [q = q', cA = cy 3, vp_in j n])
    | _, _ => none)
  | .iastore => (match st, wp[i]? with
    | .int x :: .int j :: .ref q :: st', some (q', .inl (cA, n, .inl f)) => some (1, st', wp.set i (q', .inl (cA, n, .inl (upd f j.toNatClampNeg x))), [q = q', cA = cy 0, vp_in j n])
    | _, _ => none)
  | .bastore => (match st, wp[i]? with
    | .int x :: .int j :: .ref q :: st', some (q', .inl (cA, n, .inl f)) => some (1, st', wp.set i (q', .inl (cA, n, .inl (upd f j.toNatClampNeg (vp_nar .byte x)))), [q = q', cA = cy 1, vp_in j n])
    | _, _ => none)
  | .lastore => (match st, wp[i]? with
    | .long x :: .int j :: .ref q :: st', some (q', .inl (cA, n, .inr (.inl f))) => some (1, st', wp.set i (q', .inl (cA, n, .inr (.inl (vp_updL f j.toNatClampNeg x)))), [q = q', cA = cy 3, vp_in j n])
    | _, _ => none)
  | .ldc2_w ix => (match e_res RT (mO M) ix with
    | some (kd, _, _, v) => if Nat.beq kd 9 = true then some (3, .long (Int64.ofInt v) :: st, wp, []) else none
    | none => none)
  | .ldc ix => (match e_res RT (mO M) ix with
    | some (kd, _, _, v) => if Nat.beq kd 11 = true then some (2, .int (Int32.ofInt v) :: st, wp, []) else none
    | none => none)
  | .ldc_w ix => (match e_res RT (mO M) ix with
    | some (kd, _, _, v) => if Nat.beq kd 11 = true then some (3, .int (Int32.ofInt v) :: st, wp, []) else none
    | none => none)
  | _ => none
def x_at (T : List INS) (pc : Nat) : Option (Instr × Nat) := match T with
  | [] => none
  | (j, _, i, n) :: r => if Nat.beq j pc = true then some (i, n) else x_at r pc
/-- does the step take a hint -/
def x_hint (ins : Instr) : Bool := match ins with
  | .getfield _ => true
  | .putfield _ => true
  | .arraylength => true
  | .iaload => true
  | .baload => true
  | .laload => true
  | .iastore => true
  | .bastore => true
  | .lastore => true
  | .ldc2_w _ => true
  | .ldc _ => true
  | .ldc_w _ => true
  | _ => false
def x_jmp (pc : Nat) (ins : Instr) : Option Nat := match ins with
  | .goto off => if decide (0 ≤ (pc : Int) + off) = true then some ((pc : Int) + off).toNat else none
  | _ => none
def x_one (RT : List (List (Nat × RES))) (cy : Nat → ClassId) (M : MT) (hs : List Nat) (S : XS) : Option (XS × List Nat × List Prop) := match S with
  | (pc, lv, st, wp) => (match x_at (mT M) pc with
    | some (ins, len) => (match x_jmp pc ins with
      | some tgt => if Nat.beq len 3 = true then some ((tgt, lv, st, wp), hs, []) else none
      | none => if x_hint ins = true then (match hs with
          | i :: hs' => (match x_hst RT cy M ins i st wp with
            | some (n, st', wp', ob) => if Nat.beq n len = true then some ((pc + n, lv, st', wp'), hs', ob) else none
            | none => none)
          | [] => none)
        else (match x_mov (mL M) ins lv st with
          | some (n, lv', st', ob) => if Nat.beq n len = true then some ((pc + n, lv', st', wp), hs, ob) else none
          | none => none))
    | none => none)
def x_blk (RT : List (List (Nat × RES))) (cy : Nat → ClassId) (M : MT) : Nat → List Nat → XS → Option (XS × List Prop)
  | 0, _, S => some (S, [])
  | n + 1, hs, S => (match x_one RT cy M hs S with
    | some (S', hs', ob) => (match x_blk RT cy M n hs' S' with
      | some (S2, ob2) => some (S2, ob ++ ob2)
      | none => none)
    | none => none)
theorem x_all_app {a b : List Prop} (h : x_all (a ++ b)) : x_all a ∧ x_all b := by
  induction a with
  | nil => exact ⟨trivial, h⟩
  | cons P r ih =>
    obtain ⟨h1, h2⟩ := h
    obtain ⟨g1, g2⟩ := ih h2
    exact ⟨⟨h1, g1⟩, g2⟩
theorem x_at_ok {T : List INS} {pc : Nat} {i : Instr} {n : Nat} (h : x_at T pc = some (i, n)) : ∃ g, (pc, g, i, n) ∈ T := by
  induction T with
  | nil => cases h
  | cons q r ih =>
    obtain ⟨j, g, i0, n0⟩ := q
    simp only [x_at] at h
    split at h
    · rename_i h1
      have h1 := Nat.eq_of_beq_eq_true h1
      subst h1
      cases h
      exact ⟨g, List.mem_cons_self⟩
    · obtain ⟨g', h'⟩ := ih h
      exact ⟨g', List.mem_cons_of_mem _ h'⟩
def XG (D : va_G) (M : MT) (p : Program) (l : Launch) (e : Env) (R : Room) (s : State) (m : MethodId) (args : Array Value) (below : List Frame) (meth : Method) (c : Code) (A : Nat → Prop) (Q : State → Prop) (N K : Nat) (S : XS) : Prop :=
  ∀ (H : Heap) (locs : List Loc) (ls : Array Slot), lv_has ls (mL M) S.2.1 → va_P D vwCl S.2.2.2 H → va_D A S.2.2.2 → va_S A s.heap H locs → W p l e R s m args below meth c H locs N K Q (F0 m S.1 ls S.2.2.1)
section XHP
variable {P : List MT} {RT : List (List (Nat × RES))} {OW : List String} {EW : EWt} {D : va_G} {cy : Nat → ClassId} {ex : Nat → Nat} {M : MT} {own : String}
variable {p : Program} {l : Launch} {e : Env} {R : Room} {s : State} {m : MethodId} {args : Array Value} {below : List Frame} {meth : Method} {c : Code} {A : Nat → Prop} {Q : State → Prop} {rm : RMt} {cb sb N K : Nat}
theorem x_link {kd ci kf i : Nat} {z : Int} (hP : POK2 P RT OW) (X : Cx OW EW D cy ex M own p R s m args meth c A rm cb sb) (hkd : kd ≤ 1) (hr : e_res RT (mO M) i = some (kd, ci, kf, z)) : ∃ r : vw_C, vwCl[ci]? = some r ∧ kf < r.2.2 ∧ ((Cond.fieldLink own i (r.2.1 kf).1 (r.2.1 kf).2.1 (r.2.1 kf).2.2.1).before args s = true ∨ ∃ host, (Cond.fieldLinkNest own i (r.2.1 kf).1 (r.2.1 kf).2.1 (r.2.1 kf).2.2.1 host).before args s = true) := by
  obtain ⟨x1, x2, x3, x4, x5, x6, x7, x8, x9, x10, x11⟩ := X
  have hro := (res_ok hP x4 hr).1
  rcases (show kd = 0 ∨ kd = 1 by omega) with rfl | rfl
  · obtain ⟨r', r1, r2, r3⟩ := hro
    exact ⟨r', r1, r2, Or.inl (x6 _ r3)⟩
  · obtain ⟨r', host, r1, r2, r3⟩ := hro
    exact ⟨r', r1, r2, Or.inr ⟨host, va_Nw.use rfl (x7.2.1 _ r3)⟩⟩
set_option maxHeartbeats 4000000 in
theorem x_hst_ok {ins : Instr} {n i pc : Nat} {st st' : List Value} {wp wp' : va_W} {lv : List (Nat × Value)} {ob : List Prop} (hP : POK2 P RT OW) (X : Cx OW EW D cy ex M own p R s m args meth c A rm cb sb)
    (h : x_hst RT cy M ins i st wp = some (n, st', wp', ob)) (ho : x_all ob) (hd : decode (mC M) pc = .ok (ins, n)) (k : XG D M p l e R s m args below meth c A Q N K (pc + n, lv, st', wp')) : XG D M p l e R s m args below meth c A Q N K (pc, lv, st, wp) := by
  have X0 := X
  obtain ⟨x1, x2, x3, x4, x5, x6, x7, x8, x9, x10, x11⟩ := X
  intro H locs ls a1 a2 a3 a4
  simp only at a1 a2 a3 ⊢
  unfold x_hst at h
  split at h
  · split at h
    · rename_i kd ci kf z q st1 q' ci' fs hr hw
      split at h
      · rename_i v hv
        split at h
        · rename_i w
          simp only [Bool.and_eq_true] at w
          have w2 := beq3 w.2
          subst w2
          cases h
          obtain ⟨o1, -⟩ := ho
          subst o1
          obtain ⟨r, r1, r2, r3⟩ := x_link hP X0 (Nat.le_of_ble_eq_true w.1) hr
          exact b_get x1 x2 x6 x5 x7 a2 hw r1 r2 hv r3 hd (k H locs ls a1 a2 a3 a4)
        · cases h
      · cases h
    · cases h
  · split at h
    · rename_i kd ci kf z v q st1 q' ci' fs hr hw
      split at h
      · rename_i w
        simp only [Bool.and_eq_true, decide_eq_true_eq] at w
        obtain ⟨w1, w2, w3, w4⟩ := w
        have w2 := beq3 w2
        subst w2
        cases h
        obtain ⟨o1, o2, o3, -⟩ := ho
        subst o1
        obtain ⟨r, r1, r2, r3⟩ := x_link hP X0 (Nat.le_of_ble_eq_true w1) hr
        have hfin : (r.2.1 kf).2.2.2 = false := by
          unfold f_plainF at w3
          rw [r1] at w3
          simp only [Bool.and_eq_true, Bool.not_eq_true'] at w3
          exact w3.2
        exact b_put x1 x2 x6 x5 x7 a2 a3 a4 hw r1 r2 w4 o2 o3 hfin r3 hd (fun H1 locs1 g1 g2 g3 => k H1 locs1 ls a1 g1 g2 g3)
      · cases h
    · cases h
  · split at h
    · rename_i q st1 q' cA x hw
      cases h
      obtain ⟨o1, ⟨t, ht, rfl⟩, -⟩ := ho
      subst o1
      exact va_alen x1 x2 x7.1 a2 i t hw (atys_at cy t ht) rfl hd (k H locs ls a1 a2 a3 a4)
    · cases h
  · split at h
    · rename_i j q st1 q' cA n0 f hw
      cases h
      obtain ⟨o1, o2, o3, -⟩ := ho
      subst o1
      subst o2
      exact va_iald x1 x2 x7.1 a2 i 0 hw (atys_at cy 0 (by decide)) o3 hd (k H locs ls a1 a2 a3 a4)
    · cases h
  · split at h
    · rename_i j q st1 q' cA n0 f hw
      cases h
      obtain ⟨o1, o2, o3, -⟩ := ho
      subst o1
      subst o2
      exact va_bald x1 x2 x7.1 a2 i 1 hw (atys_at cy 1 (by decide)) o3 hd (k H locs ls a1 a2 a3 a4)
    · cases h
  · split at h
    · rename_i j q st1 q' cA n0 f hw
      cases h
      obtain ⟨o1, o2, o3, -⟩ := ho
      subst o1
      subst o2
      exact va_lald x1 x2 x7.1 a2 i 3 hw (atys_at cy 3 (by decide)) o3 hd (k H locs ls a1 a2 a3 a4)
    · cases h
  · split at h
    · rename_i x j q st1 q' cA n0 f hw
      cases h
      obtain ⟨o1, o2, o3, -⟩ := ho
      subst o1
      subst o2
      exact va_iast x1 x2 x7.1 a2 a3 a4 i 0 hw (atys_at cy 0 (by decide)) o3 hd (fun H1 locs1 g1 g2 g3 => k H1 locs1 ls a1 g1 g2 g3)
    · cases h
  · split at h
    · rename_i x j q st1 q' cA n0 f hw
      cases h
      obtain ⟨o1, o2, o3, -⟩ := ho
      subst o1
      subst o2
      exact va_bast x1 x2 x7.1 a2 a3 a4 i 1 hw (atys_at cy 1 (by decide)) o3 hd (fun H1 locs1 g1 g2 g3 => k H1 locs1 ls a1 g1 g2 g3)
    · cases h
  · split at h
    · rename_i x j q st1 q' cA n0 f hw
      cases h
      obtain ⟨o1, o2, o3, -⟩ := ho
      subst o1
      subst o2
      exact va_last x1 x2 x7.1 a2 a3 a4 i 3 hw (atys_at cy 3 (by decide)) o3 hd (fun H1 locs1 g1 g2 g3 => k H1 locs1 ls a1 g1 g2 g3)
    · cases h
  · split at h
    · rename_i kd z1 z2 v hr
      split at h
      · rename_i w
        have w := beq3 w
        subst w
        cases h
        obtain ⟨r1, r2, r3⟩ := (res_ok hP x4 hr).1
        exact lv_ldc2 x1 x2 x5 (x6 _ r1) hd (k H locs ls a1 a2 a3 a4)
      · cases h
    · cases h
  · split at h
    · rename_i kd z1 z2 v hr
      split at h
      · rename_i w
        have w := beq3 w
        subst w
        cases h
        obtain ⟨r1, r2, r3⟩ := (res_ok hP x4 hr).2 rfl
        exact lv_ldc x1 x2 x5 (x6 _ r1) hd (k H locs ls a1 a2 a3 a4)
      · cases h
    · cases h
  · split at h
    · rename_i kd z1 z2 v hr
      split at h
      · rename_i w
        have w := beq3 w
        subst w
        cases h
        obtain ⟨r1, r2, r3⟩ := (res_ok hP x4 hr).2 rfl
        exact lv_ldcw x1 x2 x5 (x6 _ r1) hd (k H locs ls a1 a2 a3 a4)
      · cases h
    · cases h
  · cases h
theorem x_jmp_ok {pc tgt : Nat} {ins : Instr} (h : x_jmp pc ins = some tgt) : ∃ off, ins = .goto off ∧ (pc : Int) + off = (tgt : Int) := by
  unfold x_jmp at h
  split at h
  · split at h
    · rename_i off w
      have w := of_decide_eq_true w
      cases h
      exact ⟨off, rfl, by omega⟩
    · cases h
  · cases h
theorem x_one_ok {hs hs' : List Nat} {S S' : XS} {ob : List Prop} (hP : POK2 P RT OW) (X : Cx OW EW D cy ex M own p R s m args meth c A rm cb sb)
    (h : x_one RT cy M hs S = some (S', hs', ob)) (ho : x_all ob) (k : XG D M p l e R s m args below meth c A Q N K S') : XG D M p l e R s m args below meth c A Q N K S := by
  obtain ⟨pc, lv, st, wp⟩ := S
  have tok : TOK OW M := X.2.2.2.2.2.2.2.2.1
  unfold x_one at h
  simp only at h
  split at h
  · rename_i ins len hat
    obtain ⟨g, hg⟩ := x_at_ok hat
    have hd : decode (mC M) pc = .ok (ins, len) := tok.1 (pc, g, ins, len) hg
    split at h
    · rename_i tgt hj
      split at h
      · rename_i w
        have w := beq3 w
        subst w
        cases h
        obtain ⟨off, rfl, ht⟩ := x_jmp_ok hj
        intro H locs ls a1 a2 a3 a4
        exact lv_goto X.1 X.2.1 hd ht (k H locs ls a1 a2 a3 a4)
      · cases h
    · split at h
      · split at h
        · split at h
          · rename_i n st' wp' ob' hh
            split at h
            · rename_i w
              have w := beq3 w
              subst w
              cases h
              exact x_hst_ok hP X hh ho hd k
            · cases h
          · cases h
        · cases h
      · split at h
        · rename_i n lv' st' ob' hm
          split at h
          · rename_i w
            have w := beq3 w
            subst w
            cases h
            intro H locs ls a1 a2 a3 a4
            exact x_mov_ok X.1 X.2.1 hm ho hd a1 (fun ls' hl' => k H locs ls' hl' a2 a3 a4)
          · cases h
        · cases h
  · cases h
/-- a block of steps -/
theorem xg_blk (hP : POK2 P RT OW) (X : Cx OW EW D cy ex M own p R s m args meth c A rm cb sb) : ∀ (n : Nat) (hs : List Nat) {S S' : XS} {ob : List Prop}, x_blk RT cy M n hs S = some (S', ob) → x_all ob → XG D M p l e R s m args below meth c A Q N K S' → XG D M p l e R s m args below meth c A Q N K S := by
  intro n
  induction n with
  | zero =>
    intro hs S S' ob h ho k
    simp only [x_blk] at h
    cases h
    exact k
  | succ n ih =>
    intro hs S S' ob h ho k
    unfold x_blk at h
    split at h
    · rename_i S1 hs1 ob1 h1
      split at h
      · rename_i S2 ob2 h2
        cases h
        obtain ⟨g1, g2⟩ := x_all_app ho
        exact x_one_ok hP X h1 g1 (ih _ h2 g2 k)
      · cases h
    · cases h
end XHP
