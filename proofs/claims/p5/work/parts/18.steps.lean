section STEPS2
variable {RT : List (List (Nat × RES))} {P : List MT} {OW : List String} {ν : Nat → Int} {b : Nat} {cy : Nat → ClassId} {pool : va_W} {D : va_G} {A : Nat → Prop} {al0 : List Nat} {M : MT} {own : String} {sc : Bool}
variable {p : Program} {l : Launch} {e : Env} {R : Room} {s : State} {m : MethodId} {args : Array Value} {below : List Frame} {meth : Method} {c : Code} {Q : State → Prop}
theorem e_cell_ok {C : List AC} {a : AV} {i : Nat} {x : AC} (h : e_cell C a = some (i, x)) : a = aR i ∧ C[i]? = some x := by
  unfold e_cell at h
  split at h
  · split at h
    · rename_i h1
      cases h
      exact ⟨rfl, h1⟩
    · cases h
  · cases h
theorem e_known_ok {E : EV} {al : List Nat} {a : AV} {v : Value} {n : Nat} (hE : genv ν E) (hv : gv ν al b a v) (h : e_known E a = some n) : ∃ x : Int32, v = .int x ∧ x.toInt = (n : Int) := by
  unfold e_known at h
  split at h
  · rename_i lo hi h1
    split at h
    · rename_i q
      simp only [Bool.and_eq_true, decide_eq_true_eq] at q
      cases h
      obtain ⟨x, rfl, g1, g2⟩ := gv_int hE hv h1
      exact ⟨x, rfl, by omega⟩
    · cases h
  · cases h
theorem e_lk_ok {x : List (Nat × RES)} {i : Nat} {r : RES} (h : e_lk x i = some r) : (i, r) ∈ x := by
  induction x with
  | nil => cases h
  | cons q t ih =>
    obtain ⟨j, r0⟩ := q
    simp only [e_lk] at h
    split at h
    · rename_i h1
      have := Nat.eq_of_beq_eq_true h1
      cases h
      rw [this]
      exact List.mem_cons_self
    · exact List.mem_cons_of_mem _ (ih h)
theorem e_res_ok {i : Nat} {r : RES} (hP : POK P RT OW) (ho : OW[mO M]? = some own) (h : e_res RT (mO M) i = some r) : ROK P own i r := by
  unfold e_res at h
  split at h
  · rename_i L h1
    exact hP.2.1 _ _ _ ho h1 _ (e_lk_ok h)
  · cases h
theorem cats_ok {al : List Nat} {st : List AV} {vs : List Value} (h : gvs ν al b st vs) : (vs.map fun v => v.category).sum = e_cats st := by
  induction st generalizing vs with
  | nil => rw [gvs_nil h]; rfl
  | cons a r ih =>
    obtain ⟨v, vs', rfl, g1, g2⟩ := gvs_cons h
    simp only [List.map_cons, List.sum_cons, e_cats]
    rw [ih g2]
    cases h9 : e_isL a with
    | true => rw [gv_cat2 g1 h9]; rfl
    | false => rw [gv_cat1 g1 h9]; rfl
theorem alw_more {ws ws' : va_W} {q : Nat} (h : ∃ more, alw ws = al0 ++ more) (e : alw ws' = alw ws ++ [q]) : ∃ more, alw ws' = al0 ++ more := by
  obtain ⟨more, h⟩ := h
  exact ⟨more ++ [q], by rw [e, h, List.append_assoc]⟩
theorem beq3 {a c : Nat} (h : Nat.beq a c = true) : a = c := Nat.eq_of_beq_eq_true h
set_option maxHeartbeats 4000000 in
theorem s_hstep {S S' : ST} {ins : Instr} {len : Nat} (hP : POK P RT OW) (X : Ctx OW D cy ν b M own p R s m args meth c A sc) (h : e_hstep RT M sc S ins len = some S') (hd : decode (mC M) S.1 = .ok (ins, len)) (k : Safe D cy ν b pool al0 M p l e R s m args below meth c A Q S') : Safe D cy ν b pool al0 M p l e R s m args below meth c A Q S := by
  obtain ⟨pc, lo, st, E, C, nc, ns⟩ := S
  obtain ⟨x1, x2, x3, x4, x5, x6, x7, x8, x9, x10, x11, x12⟩ := X
  subst x10
  intro H locs ls lv vs ws a1 a2 a3 a4 a5 a6
  unfold e_hstep at h
  simp only at h a2 a3 a4 a5 hd ⊢
  split at h
  · -- getfield
    split at h
    · rename_i kd ci kf z a st' hr
      split at h
      · rename_i n ci' fs hc
        split at h
        · rename_i v hv
          split at h
          · rename_i q
            simp only [Bool.and_eq_true] at q
            obtain ⟨q1, q2, q3⟩ := q
            have q2 := beq3 q2
            have q3 := beq3 q3
            cases h
            subst q2
            subst q3
            obtain ⟨rfl, hC⟩ := e_cell_ok hc
            obtain ⟨v0, vs1, rfl, g1, g2⟩ := gvs_cons a3
            obtain ⟨qa, gq, rfl⟩ := g1
            have hro := e_res_ok hP x4 hr
            have hk : kd = 0 ∨ kd = 1 := by have := Nat.le_of_ble_eq_true q1; omega
            rcases hk with rfl | rfl
            · obtain ⟨r, r1, r2, r3⟩ := hro
              exact h_get x1 x2 x6 x5 x7.1 a5 hC gq r1 r2 hv (x6 _ r3) hd (fun v gv9 => k H locs ls lv _ ws a1 a2 ⟨gv9, g2⟩ a4 a5 a6)
            · obtain ⟨r, host, r1, r2, r3⟩ := hro
              exact h_getN x1 x2 x6 x5 x7.1 a5 hC gq r1 r2 hv (va_Nw.use rfl (x7.2.1 _ r3)) hd (fun v gv9 => k H locs ls lv _ ws a1 a2 ⟨gv9, g2⟩ a4 a5 a6)
          · cases h
        · cases h
      · cases h
    · cases h
  · -- putfield
    split at h
    · rename_i kd ci kf z v a st' hr
      split at h
      · rename_i n ci' fs hc
        split at h
        · rename_i q
          simp only [Bool.and_eq_true, decide_eq_true_eq] at q
          obtain ⟨q1, q2, q3, q4, q5, q6⟩ := q
          have q1 := beq3 q1
          have q2 := beq3 q2
          have q3 := beq3 q3
          cases h
          subst q1
          subst q2
          subst q3
          obtain ⟨rfl, hC⟩ := e_cell_ok hc
          obtain ⟨v0, vs1, rfl, g1, g2⟩ := gvs_cons a3
          obtain ⟨v1, vs2, rfl, g3, g4⟩ := gvs_cons g2
          obtain ⟨qa, gq, rfl⟩ := g3
          obtain ⟨r, r1, r2, r3⟩ := e_res_ok hP x4 hr
          have hfin : (r.2.1 kf).2.2.2 = false ∨ (meth.name = "<init>" ∧ (r.2.1 kf).2.2.2 = true ∧ (r.2.1 kf).1 = own) := by
            unfold e_initOk at q6
            rw [r1] at q6
            simp only at q6
            split at q6
            · cases q6
            · split at q6
              · rename_i q7
                simp only [Bool.and_eq_true] at q6
                have w1 := beq3 q6.1
                have w2 := beq3 q6.2
                rw [w2] at r1
                have w3 := x11.2 w1 r r1 kf r2
                rw [x4] at w3
                exact Or.inr ⟨x9 w1, q7, (Option.some.inj w3).symm⟩
              · rename_i q7
                left
                cases h7 : (r.2.1 kf).2.2.2 with
                | true => exact absurd h7 q7
                | false => rfl
          exact h_put x1 x2 x6 x5 x7.1 a5 a4 hC gq r1 r2 q4 g1 q5 hfin (x6 _ r3) hd (fun ws' H' locs' e1 w1 => k H' locs' ls lv _ ws' a1 (by rw [e1]; exact a2) (by rw [e1]; exact g4) a4 w1 (by rw [e1]; exact a6))
        · cases h
      · cases h
    · cases h
  · -- arraylength
    split at h
    · rename_i a st'
      split at h
      · rename_i n t n0 d x hc
        split at h
        · rename_i q
          simp only [Bool.and_eq_true, decide_eq_true_eq] at q
          obtain ⟨q1, q2, q3⟩ := q
          have q3 := beq3 q3
          cases h
          subst q3
          obtain ⟨rfl, hC⟩ := e_cell_ok hc
          obtain ⟨v0, vs1, rfl, g1, g2⟩ := gvs_cons a3
          obtain ⟨qa, gq, rfl⟩ := g1
          exact h_alen x1 x2 x7.1 a5 hC gq (by have := Nat.le_of_ble_eq_true q1; omega) (by omega) hd (fun v gv9 => k H locs ls lv _ ws a1 a2 ⟨gv9, g2⟩ a4 a5 a6)
        · cases h
      · split at h
        · split at h
          · rename_i q
            simp only [Bool.and_eq_true] at q
            have q2 := beq3 q.2
            cases h
            subst q2
            obtain ⟨v0, vs1, rfl, g1, g2⟩ := gvs_cons a3
            have g1 : v0 = .ref b := g1
            subst g1
            obtain ⟨L, xs, y1, y2, y3, y4, y5, y6⟩ := x12 q.1
            refine va_slen x1 x2 y1 y2 y3 a5.2.2.2 hd (k H locs ls lv _ ws a1 a2 ⟨⟨_, rfl, ?_⟩, g2⟩ a4 a5 a6)
            have := nI_toInt (n := L) (by omega)
            rw [show Int32.ofNat L = nI L from rfl, this, y5]
            omega
          · cases h
        · cases h
    · cases h
  · -- new
    split at h
    · rename_i kd ci n z hr
      split at h
      · rename_i fs hfs
        split at h
        · rename_i q
          simp only [Bool.and_eq_true] at q
          obtain ⟨q1, q2, q3, q4⟩ := q
          have q1 := beq3 q1
          have q2 := beq3 q2
          cases h
          subst q1
          subst q2
          obtain ⟨r, r1, r2, r3, r4, r5⟩ := e_res_ok hP x4 hr
          subst r2
          exact h_new x1 x2 x6 x5 x7.1 a5 x8 r1 hfs (x6 _ r3) (x6 _ r4) (x6 _ r5) (Nat.le_of_ble_eq_true q3) (Nat.le_of_ble_eq_true q4) hd (fun ws' qa H' e1 g1 w1 => k H' locs ls lv _ ws' a1 (by rw [e1]; exact glv_app _ a2) ⟨g1, by rw [e1]; exact gvs_app _ a3⟩ a4 w1 (alw_more a6 e1))
        · cases h
      · cases h
    · cases h
  · -- newarray
    split at h
    · rename_i at9 t a st' ht
      split at h
      · rename_i n hn
        split at h
        · rename_i q
          simp only [Bool.and_eq_true, decide_eq_true_eq] at q
          obtain ⟨q1, q2, q3, q4⟩ := q
          have q2 := beq3 q2
          cases h
          subst q2
          obtain ⟨v0, vs1, rfl, g1, g2⟩ := gvs_cons a3
          obtain ⟨x, rfl, hx⟩ := e_known_ok a4 g1 hn
          exact h_newa x1 x2 (x6 _ (hP.2.2.2.2.2.2.2 _ _ ht)) x7.1 a5 x8 ht hx q1 (Nat.le_of_ble_eq_true q3) (Nat.le_of_ble_eq_true q4) hd (fun ws' qa H' e1 g3 w1 => k H' locs ls lv _ ws' a1 (by rw [e1]; exact glv_app _ a2) ⟨g3, by rw [e1]; exact gvs_app _ g2⟩ a4 w1 (alw_more a6 e1))
        · cases h
      · cases h
    · cases h
  · -- anewarray
    split at h
    · rename_i kd t z1 z2 a st' hr
      split at h
      · rename_i n hn
        split at h
        · rename_i q
          simp only [Bool.and_eq_true, decide_eq_true_eq] at q
          obtain ⟨q1, q2, q3, q4, q5, q6, q7⟩ := q
          have q1 := beq3 q1
          have q5 := beq3 q5
          cases h
          subst q1
          subst q5
          obtain ⟨v0, vs1, rfl, g1, g2⟩ := gvs_cons a3
          obtain ⟨x, rfl, hx⟩ := e_known_ok a4 g1 hn
          obtain ⟨r, i', r1, r2, r3, r4⟩ := e_res_ok hP x4 hr
          have r2 := Nat.add_right_cancel r2
          subst r2
          have hover : va_AO r.1 s := by
            rcases r4 with r4 | r4 <;> rw [r4]
            · exact x7.2.2.1
            · exact x7.2.2.2
          exact h_newq x1 x2 x5 x7.1 a5 x8 (Nat.le_of_ble_eq_true q2) (by have := Nat.le_of_ble_eq_true q3; omega) r1 (x6 _ r3) hover hx q4 (Nat.le_of_ble_eq_true q6) (Nat.le_of_ble_eq_true q7) hd (fun ws' qa H' e1 g3 w1 => k H' locs ls lv _ ws' a1 (by rw [e1]; exact glv_app _ a2) ⟨g3, by rw [e1]; exact gvs_app _ g2⟩ a4 w1 (alw_more a6 e1))
        · cases h
      · cases h
    · cases h
  · -- ldc2_w
    split at h
    · rename_i kd z1 z2 v hr
      split at h
      · rename_i q
        simp only [Bool.and_eq_true] at q
        have q1 := beq3 q.1
        have q2 := beq3 q.2
        cases h
        subst q1
        subst q2
        obtain ⟨r1, r2, r3⟩ := e_res_ok hP x4 hr
        have w : (Int64.ofInt v).toInt = v := by
          rw [Int64.toInt_ofInt]
          exact fb_bmodL r2 r3
        exact lv_ldc2 x1 x2 x5 (x6 _ r1) hd (k H locs ls lv _ ws a1 a2 ⟨⟨_, rfl, by rw [w]; omega, by rw [w]; omega⟩, a3⟩ a4 a5 a6)
      · cases h
    · cases h
  · -- Object's maker
    split at h
    · rename_i kd z1 z2 z3 n st' hr
      split at h
      · rename_i q
        simp only [Bool.and_eq_true] at q
        obtain ⟨q1, q2, q3, q4⟩ := q
        have q1 := beq3 q1
        have q2 := beq3 q2
        cases h
        subst q1
        subst q2
        have r1 := e_res_ok hP x4 hr
        obtain ⟨v0, vs1, rfl, g1, g2⟩ := gvs_cons a3
        obtain ⟨qa, gq, rfl⟩ := g1
        refine W.objInit x1 x2 x5 (x6 _ r1) (x6 _ hP.2.2.1) (x6 _ hP.2.2.2.1) rfl (by rw [x3]; exact a1.1) rfl hd (Nat.le_of_ble_eq_true q3) ?_ (k H locs ls lv _ ws a1 a2 g2 a4 a5 a6)
        have w1 := cats_ok g2
        have w2 := Nat.le_of_ble_eq_true q4
        show 2 * 0 + (vs1.map fun v => v.category).sum + 12 ≤ mLo M
        rw [w1]; omega
      · cases h
    · cases h
  · -- arraycopy
    split at h
    · rename_i kd z1 z2 z3 nn dp r1 sp r0 st' hr
      split at h
      · rename_i j0 n0 d0 y0 i1 n1 d1 y1 n hc0 hc1 hn hdp hsp
        split at h
        · rename_i q
          simp only [Bool.and_eq_true, decide_eq_true_eq] at q
          obtain ⟨q1, q2, q3, q4, q5, q6, q7⟩ := q
          have q1 := beq3 q1
          have q2 := beq3 q2
          have q3 := beq3 q3
          have q4 := beq3 q4
          cases h
          subst q1
          subst q2
          subst q3
          subst q4
          have w0 := e_res_ok hP x4 hr
          obtain ⟨rfl, hC0⟩ := e_cell_ok hc0
          obtain ⟨rfl, hC1⟩ := e_cell_ok hc1
          obtain ⟨u1, vs1, rfl, g1, a3⟩ := gvs_cons a3
          obtain ⟨u2, vs2, rfl, g2, a3⟩ := gvs_cons a3
          obtain ⟨u3, vs3, rfl, g3, a3⟩ := gvs_cons a3
          obtain ⟨u4, vs4, rfl, g4, a3⟩ := gvs_cons a3
          obtain ⟨u5, vs5, rfl, g5, a3'⟩ := gvs_cons a3
          obtain ⟨x1', rfl, hx1⟩ := e_known_ok a4 g1 hn
          obtain ⟨x2', rfl, hx2⟩ := e_known_ok a4 g2 hdp
          obtain ⟨x4', rfl, hx4⟩ := e_known_ok a4 g4 hsp
          obtain ⟨qa, gq, rfl⟩ := g3
          obtain ⟨qb, gqb, rfl⟩ := g5
          refine h_copy x1 x2 (by rw [x3]; exact a1.1.symm) x5 (x6 _ w0) (x6 _ hP.2.2.2.2.1) (x6 _ hP.2.2.2.2.2.1) (x6 _ hP.2.2.2.2.2.2.1) x7.1 a5 hC0 gqb hC1 gq (by simpa using hx4) (by simpa using hx2) hx1 q5 (Nat.le_of_ble_eq_true q6) ?_ hd (fun ws' H' locs' e1 w1 => k H' locs' ls lv _ ws' a1 (by rw [e1]; exact a2) (by rw [e1]; exact a3') a4 w1 (by rw [e1]; exact a6))
          have w1 := cats_ok a3'
          rw [w1]
          exact Nat.le_of_ble_eq_true q7
        · cases h
      · cases h
    · cases h
  · cases h
end STEPS2
