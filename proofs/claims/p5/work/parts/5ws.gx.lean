/-! the law's calls of feed and city: steps outside -/
abbrev five : List BV := [bV 1 0, bV 2 0, bV 3 0, bV 4 0, bV 5 0]
def o_off (wr : WR) (κs : List Nat) : Bool := wr.all (fun w => κs.all (fun κ => !(Nat.beq w.1 κ)))
def rm_eq (a b : RMt) : Bool := Nat.beq a.1 b.1 && (Nat.beq a.2.1 b.2.1 && (Nat.beq a.2.2.1 b.2.2.1 && Nat.beq a.2.2.2 b.2.2.2))
def o_add (id : Nat) (zs : List BV) (q : Option BV × FS) : Option BV × FS := (q.1, (q.2.1, q.2.2.1, q.2.2.2.1, (id, zs) :: q.2.2.2.2))
/-- a call, its spec, its ends -/
def o_call (SP : List SPt) (DM : List (Nat × List Nat)) (lim : Nat) (wr : WR) (rm : RMt) (M : MT) (S : SB) (ins : Instr) (len : Nat) : Option (Nat × MT × List BV × List BV × SPt × List (Option BV × FS)) := match f_call T2 PR2 RB2 M S ins len with
  | some (j, M', as, rest) => (match f_pickd DM j lim with
    | some cs => (match g_try (T2, PR2, RB2, DM, SP, (fun _ _ => none), (fun _ _ _ _ _ _ => none)) lim wr rm S M' j as cs with
      | some (sp, σ) => (match g_cats (g_aft T2 sp σ S.2.2.2.1) (pO sp) with
        | some L => some (j, M', as, rest, sp, L)
        | none => none)
      | none => none)
    | none => none)
  | none => none
def o_cat {α : Type} (f : α → Option (List SB)) (x : List α) : Option (List SB) := match x with
  | [] => some []
  | a :: r => (match f a with
    | some u => (match o_cat f r with
      | some v => some (u ++ v)
      | none => none)
    | none => none)
theorem o_off_ok {wr : WR} {κs : List Nat} (h : o_off wr κs = true) {κ j : Nat} (hκ : κ ∈ κs) : ¬ inwr wr κ j := by
  rintro ⟨w, w1, w2, w3⟩
  have h1 := List.all_eq_true.mp (List.all_eq_true.mp h w w1) κ hκ
  rw [w2, Nat.beq_refl] at h1
  cases h1
theorem rm_eq_ok {a b : RMt} (h : rm_eq a b = true) : a = b := by
  obtain ⟨a1, a2, a3, a4⟩ := a
  obtain ⟨b1, b2, b3, b4⟩ := b
  unfold rm_eq at h
  simp only [Bool.and_eq_true] at h
  obtain ⟨h1, h2, h3, h4⟩ := h
  rw [beq3 h1, beq3 h2, beq3 h3, beq3 h4]
theorem o_cat_ok {α : Type} {f : α → Option (List SB)} : ∀ {x : List α} {y : List SB}, o_cat f x = some y → ∀ a ∈ x, ∃ o1, f a = some o1 ∧ ∀ o ∈ o1, o ∈ y := by
  intro x
  induction x with
  | nil => intro y _ a h; cases h
  | cons a0 r ih =>
    intro y h a ha
    simp only [o_cat] at h
    split at h
    · rename_i u hu
      split at h
      · rename_i v hv9
        cases h
        rcases List.mem_cons.mp ha with rfl | ha
        · exact ⟨u, hu, fun o ho => List.mem_append_left _ ho⟩
        · obtain ⟨o1, h1, h2⟩ := ih hv9 a ha
          exact ⟨o1, h1, fun o ho => List.mem_append_right _ (h2 o ho)⟩
      · cases h
    · cases h
theorem f_call_rw {T : TBt} {P : List MT} {RT : List (List (Nat × RES))} {M : MT} {S : SB} {ins : Instr} {len j : Nat} {M' : MT} {as rest : List BV} (h1 : f_call T P RT M S ins len = some (j, M', as, rest)) : S.2.2.2.2.1.isNone = true := by
  obtain ⟨pc, lo, st, F, rw0, nc, ns⟩ := S
  unfold f_call at h1
  simp only at h1 ⊢
  split at h1
  · split at h1
    · split at h1
      · split at h1
        · split at h1
          · split at h1
            · rename_i q
              simp only [Bool.and_eq_true] at q
              exact q.2.2.2.1
            · cases h1
          · cases h1
        · cases h1
      · cases h1
    · cases h1
  · cases h1
theorem o_call_ok {SP : List SPt} {DM : List (Nat × List Nat)} {lim : Nat} {wr : WR} {rm : RMt} {M M' : MT} {S : SB} {ins : Instr} {len j : Nat} {as rest : List BV} {sp : SPt} {L : List (Option BV × FS)} (h : o_call SP DM lim wr rm M S ins len = some (j, M', as, rest, sp, L)) :
    f_call T2 PR2 RB2 M S ins len = some (j, M', as, rest) ∧ ∃ cs σ, g_try (T2, PR2, RB2, DM, SP, (fun _ _ => none), (fun _ _ _ _ _ _ => none)) lim wr rm S M' j as cs = some (sp, σ) ∧ g_cats (g_aft T2 sp σ S.2.2.2.1) (pO sp) = some L := by
  unfold o_call at h
  split at h
  · rename_i h1
    split at h
    · split at h
      · rename_i h2
        split at h
        · rename_i h3
          cases h
          exact ⟨h1, _, _, h2, h3⟩
        · cases h
      · cases h
    · cases h
  · cases h
section GX1
variable {xs : Nat → Int32} {D : va_G} {cy : Nat → ClassId} {I0 : IN} {ks0 : List Nat} {wp0 : va_W} {wr : WR} {M : MT} {own : String}
variable {p : Program} {l : Launch} {e : Env} {R : Room} {s : State} {m : MethodId} {args : Array Value} {below : List Frame} {meth : Method} {c : Code} {A : Nat → Prop} {Q : State → Prop} {rm : RMt} {cb sb : Nat}
theorem HS_add {I : IN} {ks : List Nat} {wp : va_W} {q : Option BV × FS} {id : Nat} {zs : List BV} (h : HS T2 FPX cy I ks wp q.2) (hf : hsf FPX I (c_cu ks wp) (id, zs)) : HS T2 FPX cy I ks wp (o_add id zs q).2 := by
  obtain ⟨h1, h2, h3, h4⟩ := h
  refine ⟨h1, h2, h3, fun f hf2 => ?_⟩
  rcases List.mem_cons.mp hf2 with rfl | hf2
  · exact hf
  · exact h4 f hf2
/-- five named ints -/
theorem five_ints {I : IN} {vs : List Value} (h : hvs I five vs) : ∃ x1 x2 x3 x4 x5 : Int32, vs = [.int x1, .int x2, .int x3, .int x4, .int x5] ∧ f_evs I.1 five = some [x1.toInt, x2.toInt, x3.toInt, x4.toInt, x5.toInt] := by
  obtain ⟨v1, vs, rfl, g1, h⟩ := hvs_cons h
  obtain ⟨v2, vs, rfl, g2, h⟩ := hvs_cons h
  obtain ⟨v3, vs, rfl, g3, h⟩ := hvs_cons h
  obtain ⟨v4, vs, rfl, g4, h⟩ := hvs_cons h
  obtain ⟨v5, vs, rfl, g5, h⟩ := hvs_cons h
  have h := hvs_nil h
  subst h
  obtain ⟨x1, y1, rfl, w1, z1⟩ := g1
  obtain ⟨x2, y2, rfl, w2, z2⟩ := g2
  obtain ⟨x3, y3, rfl, w3, z3⟩ := g3
  obtain ⟨x4, y4, rfl, w4, z4⟩ := g4
  obtain ⟨x5, y5, rfl, w5, z5⟩ := g5
  refine ⟨x1, x2, x3, x4, x5, rfl, ?_⟩
  simp only [f_evs, f_ev, w1, w2, w3, w4, w5]
  rw [z1, z2, z3, z4, z5]
theorem aft_W {S : SB} {rest : List BV} {dc ds : Nat} {q : Option BV × FS} {J : IN} {H1 : Heap} {locs1 : List Loc} {ls : Array Slot} {lv : List (Nat × Value)} {vr : List Value} {r : Int32} {ks1 : List Nat} {wp1 : va_W}
    (hrw : S.2.2.2.2.1.isNone = true) (k : Sf T2 FPX D cy I0 ks0 wp0 wr M p l e R s m args below meth c A Q cb sb (f_aftS S rest dc ds q)) (a1 : lv_has ls (mL M) lv) (a2 : hlv J S.2.1 lv) (c1 : hvs J rest vr) (hr : rvl J q.1 (some (.int r))) (hF : HS T2 FPX cy J ks1 wp1 q.2) (hP : va_P D vwCl wp1 H1) (hD : va_D A wp1) (hS : va_S A s.heap H1 locs1) (hx : hxt I0 J) (hu : Unch wr ks0 wp0 ks1 wp1) :
    W p l e R s m args below meth c H1 locs1 (cb + (S.2.2.2.2.2.1 + dc)) (sb + (S.2.2.2.2.2.2 + ds)) Q (F0 m (S.1 + 3) ls (.int r :: vr)) := by
  obtain ⟨pc, lo, st, F, rw0, nc, ns⟩ := S
  obtain ⟨r', F'⟩ := q
  have := k J H1 locs1 ls lv (.int r :: vr) ks1 wp1 [] a1 a2 ?_ hF ?_ (by rw [List.append_nil]; exact hP) (by rw [List.append_nil]; exact hD) hS hx hu
  · exact this
  · simp only [f_aftS]
    simp only at hr
    cases r' with
    | none => exact absurd hr id
    | some a => exact ⟨hr, c1⟩
  · simp only at hrw
    simp only [f_aftS]
    cases rw0 with
    | none => rfl
    | some x => cases hrw
theorem fed_cell {B : Nat → Int} {n a b c9 d e9 : Int} {j : Nat} (hn : 0 ≤ n ∧ n ≤ 940) : (if n + 20 ≤ 940 then fed B n a b c9 d e9 else B) j = (if n + 20 ≤ 940 ∧ n ≤ (j : Int) ∧ (j : Int) < n + 20 then fby [a, b, c9, d, e9] ((j : Int) - n).toNat else B j) := by
  by_cases h : n + 20 ≤ 940
  · rw [if_pos h, fed_at (N := n.toNat) (by omega)]
    by_cases h2 : n.toNat ≤ j ∧ j < n.toNat + 20
    · rw [if_pos h2, if_pos ⟨h, by omega, by omega⟩, show j - n.toNat = ((j : Int) - n).toNat by omega]
    · rw [if_neg h2, if_neg (fun h3 => h2 ⟨by omega, by omega⟩)]
  · rw [if_neg h, if_neg (fun h3 => h h3.1)]
theorem fed_zin {B : Nat → Int} {n a b c9 d e9 : Int} {j : Nat} (hn : 0 ≤ n ∧ n ≤ 940) (hB : ∀ k, -128 ≤ B k ∧ B k ≤ 127) : zin ((if n + 20 ≤ 940 then fed B n a b c9 d e9 else B) j) := by
  rw [fed_cell hn]
  have h1 := hB j
  have h2 := fby_rng [a, b, c9, d, e9] ((j : Int) - n).toNat
  unfold zin
  split <;> omega
theorem cint_i {cu : CUt} {κ j : Nat} {z : Int} (h : cu κ j = some (.int (Int32.ofInt z))) (hz : zin z) : cint cu κ j = z := by
  unfold cint
  rw [h]
  exact z_o32 hz
theorem cint_un {I : IN} {ks ks1 : List Nat} {wp wp1 : va_W} {wr : WR} {κ j : Nat} {κs : List Nat} (hp : hpool T2 cy I.2.1 ks wp) (hu : Unch wr ks wp ks1 wp1) (hk : κ < 51) (ho : o_off wr κs = true) (hm : κ ∈ κs) : c_cu ks1 wp1 κ j = c_cu ks wp κ j := c_cu_unch (T := T2) hp hu hk (o_off_ok ho hm)
theorem tb_same {B B' : Nat → Int} {n : Int} (hn : n ≤ 940) (h : ∀ j, j < 940 → B' j = B j) : tb B' n = tb B n := by
  funext i
  unfold tb
  split
  · rw [h i.toNat (by omega)]
  · rfl
theorem rv_same {RV : Nat → Int} {cu : CUt} (h1 : ∀ j, j < 29 → cu 31 j = some (.long (Int64.ofInt (RV j)))) (h2 : ∀ j : Nat, j < 29 → cu 31 j = some (.long (Int64.ofInt (RVk j)))) (hz : ∀ q, zin64 (RV q)) : ∀ q, q < 29 → RV q = RVc q := by
  intro q hq
  have e := (h1 q hq).symm.trans (h2 q hq)
  have e2 : Int64.ofInt (RV q) = Int64.ofInt (RVk q) := Value.long.inj (Option.some.inj e)
  have k1 : ∀ q : Fin 29, zin64 (RVk q.val) ∧ RVk q.val = RVc q.val := by unfold zin64; decide +kernel
  have e3 := congrArg Int64.toInt e2
  rw [z_o64 (hz q), z_o64 (k1 ⟨q, hq⟩).1] at e3
  rw [e3]
  exact (k1 ⟨q, hq⟩).2
end GX1
