/-! all steps outside of a book's reading, together; hooks 177, 178 -/
def o_f1 : List SFt → Nat → Option BV
  | [], _ => none
  | (i, as) :: r, id => if Nat.beq i id = true then as.head? else o_f1 r id
def o_f2 : List SFt → Nat → Option (BV × BV)
  | [], _ => none
  | (i, as) :: r, id => if Nat.beq i id = true then (match as with
    | [a, b] => some (a, b)
    | _ => none) else o_f2 r id
def ox_bkB (SP : List SPt) (DM : List (Nat × List Nat)) (lim : Nat) (wr : WR) (rm : RMt) (M : MT) (S : SB) (ins : Instr) (len : Nat) : Option (List SB) := match o_call SP DM lim wr rm M S ins len with
  | some (j, _, as, rest, sp, L) =>
    if Nat.beq j 23 = true then (match f_cf S.2.2.2.1.2.2.1 1 none (bI 1) with
      | some a => if (bvs_eq as [bP 3 true none, bI 400] && (rm_eq (pR sp) (10, 0, 0, 283) && (o_off (pW sp) [2, 26] && (o_has S.2.2.2.1.2.2.2 80 [] && f_isI a)))) = true then some (L.map (fun q => f_aftS S rest (pR sp).2.1 (pR sp).2.2.1 (o_add 107 [a] q))) else none
      | none => none)
    else if Nat.beq j 11 = true then (match o_f1 S.2.2.2.1.2.2.2 107, h_pn 51 (as[2]?) with
      | some an, some kc => if (bvs_eq as [bP 9 true none, bP 3 true none, bP 51 true (some kc)] && (rm_eq (pR sp) (5, 0, 0, 118) && (o_off (pW sp) [26, 27, 30] && (o_has S.2.2.2.1.2.2.2 101 [bV kc 0] && o_has S.2.2.2.1.2.2.2 107 [an])))) = true then
          o_cat (fun q => match f_cf q.2.2.2.1 3 none (bI 9) with | some b => if f_isI b = true then some [f_aftS S rest (pR sp).2.1 (pR sp).2.2.1 (o_add 108 [an, b] q)] else none | none => none) L else none
      | _, _ => none)
    else if Nat.beq j 161 = true then (match o_f2 S.2.2.2.1.2.2.2 108 with
      | some (an, af) => (match f_cf S.2.2.2.1.2.2.1 25 none (bI 3), f_cf S.2.2.2.1.2.2.1 25 none (bI 4), f_cf S.2.2.2.1.2.2.1 25 none (bI 5), f_cf S.2.2.2.1.2.2.1 25 none (bI 15) with
        | some c3, some c4, some c5, some c15 => if (bvs_eq as [bP 25 true none] && (rm_eq (pR sp) (1, 0, 0, 20) && (o_off (pW sp) [26, 27, 30] && (o_has S.2.2.2.1.2.2.2 108 [an, af] && (bv_eq c3 an && (f_isI an && (bv_eq c4 (bI 0) && (bv_eq c5 (bI 400) && bv_eq c15 (bI 0))))))))) = true then some (L.map (fun q => f_aftS S rest (pR sp).2.1 (pR sp).2.2.1 (o_add 109 [af, bI 0] q))) else none
        | _, _, _, _ => none)
      | none => none)
    else if Nat.beq j 93 = true then (match o_f2 S.2.2.2.1.2.2.2 109, f_cf S.2.2.2.1.2.2.1 25 none (bI 40), f_cf S.2.2.2.1.2.2.1 25 none (bI 11) with
      | some (af, at_), some c40, some ak => if (bvs_eq as [bP 25 true none] && (rm_eq (pR sp) (3, 0, 0, 68) && (o_off (pW sp) [26, 27, 30, 31] && (o_has S.2.2.2.1.2.2.2 109 [af, at_] && (o_has S.2.2.2.1.2.2.2 81 [] && (bv_eq c40 at_ && (f_isI at_ && (f_isI ak && (h_in S.2.2.2.1.2.1 (some ak) 1 4 && (f_isI af && h_in S.2.2.2.1.2.1 (some af) 0 4)))))))))) = true then o_cat (bk_out S rest (pR sp).2.1 (pR sp).2.2.1 af 110 [af, at_]) L else none
      | _, _, _ => none)
    else if Nat.beq j 191 = true then (match o_f2 S.2.2.2.1.2.2.2 110 with
      | some (af, at_) => if (bvs_eq as [bP 25 true none, bI 59] && (rm_eq (pR sp) (2, 0, 0, 43) && (o_off (pW sp) [26, 27, 30, 31] && (o_has S.2.2.2.1.2.2.2 110 [af, at_] && (o_has S.2.2.2.1.2.2.2 81 [] && (f_isI af && h_in S.2.2.2.1.2.1 (some af) 0 4)))))) = true then o_cat (bk_out S rest (pR sp).2.1 (pR sp).2.2.1 af 109 [af, f_off at_ 1]) L else none
      | none => none)
    else none
  | none => none
section OB1
variable {xs : Nat → Int32} {D : va_G} {cy : Nat → ClassId} {I0 : IN} {ks0 : List Nat} {wp0 : va_W} {wr : WR} {M : MT} {own : String}
variable {p : Program} {l : Launch} {e : Env} {R : Room} {s : State} {m : MethodId} {args : Array Value} {below : List Frame} {meth : Method} {c : Code} {A : Nat → Prop} {Q : State → Prop} {rm : RMt} {cb sb : Nat}
theorem s_bk (E107 : ∀ (cu : CUt) (zs : List Int), FPX 107 cu zs ↔ ∃ n, zs = [n] ∧ f107 cu n) (E108 : ∀ (cu : CUt) (zs : List Int), FPX 108 cu zs ↔ ∃ n f, zs = [n, f] ∧ b108 (cB cu) (cS cu) (cN cu) f n) (E109 : ∀ (cu : CUt) (zs : List Int), FPX 109 cu zs ↔ ∃ f t, zs = [f, t] ∧ f109 cu f t) (E110 : ∀ (cu : CUt) (zs : List Int), FPX 110 cu zs ↔ ∃ f t, zs = [f, t] ∧ f110 cu f t)
    {SP : List SPt} {DM : List (Nat × List Nat)} {lim : Nat} {S : SB} {ins : Instr} {len : Nat} {y : List SB} (hSP : ∀ (i : Nat) (sp : SPt), i < lim → SP[i]? = some sp → SPOK T2 FPX (EWX xs) D cy l PR2 sp) (X : Cx OW2 (EWX xs) D cy I0.2.2 M own p R s m args meth c A rm cb sb)
    (h : ox_bkB SP DM lim wr rm M S ins len = some y) (hd : decode (mC M) S.1 = .ok (ins, len))
    (k : ∀ S' ∈ y, Sf T2 FPX D cy I0 ks0 wp0 wr M p l e R s m args below meth c A Q cb sb S') : Sf T2 FPX D cy I0 ks0 wp0 wr M p l e R s m args below meth c A Q cb sb S := by
  unfold ox_bkB at h
  split at h
  · rename_i j M' as rest sp L hc
    split at h
    · rename_i hj
      have hj := beq3 hj
      subst hj
      split at h
      · rename_i a ha
        split at h
        · rename_i q
          simp only [Bool.and_eq_true] at q
          obtain ⟨q1, q2, q3, q4, q5⟩ := q
          have q1 := bvs_eq_ok q1
          subst q1
          cases h
          exact s_openB E107 hSP X hc hd (rm_eq_ok q2) q3 q4 ha q5 k
        · cases h
      · cases h
    · split at h
      · rename_i hj
        have hj := beq3 hj
        subst hj
        split at h
        · rename_i an kc h1 h2
          split at h
          · rename_i q
            simp only [Bool.and_eq_true] at q
            obtain ⟨q1, q2, q3, q4, q5⟩ := q
            have q1 := bvs_eq_ok q1
            subst q1
            exact s_readB E107 E108 hSP X hc hd (rm_eq_ok q2) q3 q4 q5 h k
          · cases h
        · cases h
      · split at h
        · rename_i hj
          have hj := beq3 hj
          subst hj
          split at h
          · rename_i an af h1
            split at h
            · rename_i c3 c4 c5 c15 e3 e4 e5 e15
              split at h
              · rename_i q
                simp only [Bool.and_eq_true] at q
                obtain ⟨q1, q2, q3, q4, q5, q6, q7, q8, q9⟩ := q
                have q1 := bvs_eq_ok q1
                subst q1
                have q5 := bv_eq_ok q5
                have q7 := bv_eq_ok q7
                have q8 := bv_eq_ok q8
                have q9 := bv_eq_ok q9
                subst q5
                subst q7
                subst q8
                subst q9
                cases h
                exact s_nextB E108 E109 hSP X hc hd (rm_eq_ok q2) q3 q4 e3 q6 e4 e5 e15 k
              · cases h
            · cases h
          · cases h
        · split at h
          · rename_i hj
            have hj := beq3 hj
            subst hj
            split at h
            · rename_i af at_ c40 ak h1 e40 e11
              split at h
              · rename_i q
                simp only [Bool.and_eq_true] at q
                obtain ⟨q1, q2, q3, q4, q5, q6, q7, q8, q9, q10, q11⟩ := q
                have q1 := bvs_eq_ok q1
                subst q1
                have q6 := bv_eq_ok q6
                subst q6
                exact s_lineB E109 E110 hSP X hc hd (rm_eq_ok q2) q3 q4 q5 q10 q11 e40 q7 e11 q8 q9 h k
              · cases h
            · cases h
          · split at h
            · rename_i hj
              have hj := beq3 hj
              subst hj
              split at h
              · rename_i af at_ h1
                split at h
                · rename_i q
                  simp only [Bool.and_eq_true] at q
                  obtain ⟨q1, q2, q3, q4, q5, q6, q7⟩ := q
                  have q1 := bvs_eq_ok q1
                  subst q1
                  exact s_signB E109 E110 hSP X hc hd (rm_eq_ok q2) q3 q4 q5 q6 q7 (f_off at_ 1) (fun ν z hz => ev_off hz) h k
                · cases h
              · cases h
            · cases h
  · cases h
end OB1
/-- all steps outside, of p5's specs -/
def OXR5 (SP : List SPt) (DM : List (Nat × List Nat)) (lim : Nat) (M : MT) (wr : WR) (rm : RMt) (S : SB) (ins : Instr) (len : Nat) : Option (List SB) := match ins with
  | .invokevirtual _ => (match ox_bkB SP DM lim wr rm M S ins len with
    | some x => some x
    | none => OXR M wr rm S ins len)
  | _ => OXR M wr rm S ins len
theorem oxrok5 (E107 : ∀ (cu : CUt) (zs : List Int), FPX 107 cu zs ↔ ∃ n, zs = [n] ∧ f107 cu n) (E108 : ∀ (cu : CUt) (zs : List Int), FPX 108 cu zs ↔ ∃ n f, zs = [n, f] ∧ b108 (cB cu) (cS cu) (cN cu) f n) (E109 : ∀ (cu : CUt) (zs : List Int), FPX 109 cu zs ↔ ∃ f t, zs = [f, t] ∧ f109 cu f t) (E110 : ∀ (cu : CUt) (zs : List Int), FPX 110 cu zs ↔ ∃ f t, zs = [f, t] ∧ f110 cu f t)
    {IX : IN → Prop} {xs : Nat → Int32} {D : va_G} {cy : Nat → ClassId} {l : Launch} {SP : List SPt} {DM : List (Nat × List Nat)} {lim : Nat} (hSP : ∀ (i : Nat) (sp : SPt), i < lim → SP[i]? = some sp → SPOK T2 FPX (EWX xs) D cy l PR2 sp) : OXOK IX T2 FPX OW2 (EWX xs) D cy l (OXR5 SP DM lim) := by
  intro M wr rm S ins len x h I0 ks0 wp0 own p e R s m args below meth c A Q cb sb hI X hd k
  unfold OXR5 at h
  split at h
  · split at h
    · rename_i x9 h9
      cases h
      exact s_bk E107 E108 E109 E110 hSP X h9 hd k
    · exact oxrok (IX := IX) M wr rm S _ len x h I0 ks0 wp0 own p e R s m args below meth c A Q cb sb hI X hd k
  · exact oxrok (IX := IX) M wr rm S _ len x h I0 ks0 wp0 own p e R s m args below meth c A Q cb sb hI X hd k
/-- the reading is at its end: both have the same fault -/
def hk_stop : HKt := fun S => match S.2.2.2.1 with
  | (n, E, CF, SF) => (match o_f2 SF 109, f_cf CF 25 none (bI 11) with
    | some (af, at_), some ak => if (o_has SF 109 [af, at_] && (f_isI ak && (h_in E (some ak) 0 0 && (f_isI af && h_in E (some af) 0 4)))) = true then some [(o_cf 25 15 af (none, (n, E, CF, SF))).2] else none
    | _, _ => none)
def hk_fe : HKt := fun S => match S.2.2.2.1 with
  | (n, E, CF, SF) => (match f_cf CF 0 none (bI 14), f_cf CF 25 none (bI 15) with
    | some a, some b => if (bv_eq a b && f_isI a) = true then some [(n, E, CF, (106, []) :: SF)] else some [(n, E, CF, SF)]
    | _, _ => some [(n, E, CF, SF)])
section HS9
variable {cy : Nat → ClassId}
theorem hk_stop_ok (E109 : ∀ (cu : CUt) (zs : List Int), FPX 109 cu zs ↔ ∃ f t, zs = [f, t] ∧ f109 cu f t) : HKP T2 FPX cy hk_stop := by
  intro S L h I ks wp lv vs ha _ _ hF
  obtain ⟨pc, lo, st, ⟨n, E, CF, SF⟩, q⟩ := S
  unfold hk_stop at h
  simp only at h hF
  split at h
  · rename_i af at_ ak e1 e11
    split at h
    · rename_i q9
      simp only [Bool.and_eq_true] at q9
      obtain ⟨q1, q2, q3, q4, q5⟩ := q9
      cases h
      obtain ⟨zs, z1, z2⟩ := hF.2.2.2 _ (o_has_ok q1)
      obtain ⟨f, t, rfl, g15, g5x, kk, P, K, S9, V, CN, NM, x9, R, t0, i9, j, hT, hC, hA, hj, ht, hi, hrun, hR, hf⟩ := (E109 _ _).mp z2
      obtain ⟨f', t', w1, w2, w3⟩ := evs2 z1
      simp only [List.cons.injEq, and_true] at w3
      obtain ⟨rfl, rfl⟩ := w3
      have y11 := int_at (z := 11) hF (by decide) e11 q2
      have h11 := in_iv hF.2.1 q3 y11
      have hfr := in_iv hF.2.1 q5 w1
      have hK : K j = 0 := by
        have h9 := hA.2.1.stop
        have h8 : cR (c_cu ks wp) 11 = cint (c_cu ks wp) 25 11 := rfl
        omega
      have hr0 := hrun 1
      rw [show 1 + t0 = t0 + 1 by omega, bRun_s, if_pos hK] at hr0
      have hf0 : f = 0 := by rw [← hf, ← hr0]
      obtain ⟨d2, lo2, hi2, b1, b2, b3⟩ := t2_25f
      obtain ⟨j2, p2, f2, v2, t1, t2, t3, t4, x2, rfl, t5, t6⟩ := cell_any hF (by decide) b1 b2 b3
      have c2 : cint (c_cu ks wp) 25 15 = x2.toInt := by unfold cint; rw [t4]
      exact ⟨_, List.mem_cons_self, I, hxt.rf, rfl, HS_cf (q := (none, (n, E, CF, SF))) hF (cf_25 hF.1 t4 q4 (by rw [w1]; exact congrArg some (by omega)))⟩
    · cases h
  · cases h
theorem hk_fe_ok : HKP T2 FPX cy hk_fe := by
  intro S L h I ks wp lv vs ha _ _ hF
  obtain ⟨pc, lo, st, ⟨n, E, CF, SF⟩, q⟩ := S
  unfold hk_fe at h
  simp only at h hF
  split at h
  · rename_i a b e1 e2
    split at h
    · rename_i q9
      simp only [Bool.and_eq_true] at q9
      obtain ⟨q1, q2⟩ := q9
      have q1 := bv_eq_ok q1
      subst q1
      cases h
      have y1 := int_at (z := 14) hF (by decide) e1 q2
      have y2 := int_at (z := 15) hF (by decide) e2 q2
      rw [y1] at y2
      exact ⟨_, List.mem_cons_self, I, hxt.rf, rfl, hs_add hF ⟨[], rfl, rfl, Option.some.inj y2⟩⟩
    · cases h
      exact ⟨_, List.mem_cons_self, I, hxt.rf, rfl, hF⟩
  · cases h
    exact ⟨_, List.mem_cons_self, I, hxt.rf, rfl, hF⟩
end HS9
