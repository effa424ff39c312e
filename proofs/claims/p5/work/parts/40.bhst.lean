section BHST
variable {T : TBt} {FP : Nat → CUt → List Int → Prop} {RT : List (List (Nat × RES))} {P : List MT} {OW : List String} {EW : EWt} {D : va_G} {cy : Nat → ClassId} {I0 : IN} {ks0 : List Nat} {wp0 : va_W} {wr : WR} {M : MT} {own : String}
variable {p : Program} {l : Launch} {e : Env} {R : Room} {s : State} {m : MethodId} {args : Array Value} {below : List Frame} {meth : Method} {c : Code} {A : Nat → Prop} {Q : State → Prop} {rm : RMt} {cb sb : Nat}
theorem f_plainF_ok {ci k : Nat} {r : vw_C} (h : f_plainF ci k = true) (hc : vwCl[ci]? = some r) : k < r.2.2 ∧ (r.2.1 k).2.2.2 = false := by
  unfold f_plainF at h
  rw [hc] at h
  simp only [Bool.and_eq_true] at h
  exact ⟨Nat.lt_of_lt_of_le (Nat.lt_succ_self k) (Nat.le_of_ble_eq_true h.1), by simpa using h.2⟩
theorem ktyped_put {AK : List (Nat × Nat)} {ci k : Nat} {tys : List BT} {vs : List Value} {t : BT} {v : Value} (h : ktyped cy AK (.inr (ci, tys)) (.inr (ci, vs))) (hk : tys[k]? = some t) (ht9 : ht AK t v) : k < vs.length ∧ ktyped cy AK (.inr (ci, tys)) (.inr (ci, vs.set k v)) := by
  obtain ⟨⟨vs', e1, hlen⟩, h2⟩ := h
  cases e1
  have hlt : k < tys.length := (List.getElem?_eq_some_iff.mp hk).1
  refine ⟨by omega, ⟨_, rfl, by simp [hlen]⟩, fun j t' hj hj2 => ?_⟩
  by_cases e9 : k = j
  · subst e9
    simp only [k_ty] at hj2
    rw [hk] at hj2
    cases hj2
    exact ⟨v, by simp only [cval]; rw [List.getElem?_set, if_pos rfl, if_pos (by omega)], ht9⟩
  · obtain ⟨w, g1, g2⟩ := h2 j t' hj hj2
    refine ⟨w, ?_, g2⟩
    simp only [cval] at g1 ⊢
    rw [List.getElem?_set, if_neg e9]; exact g1
theorem ktyped_ast {AK : List (Nat × Nat)} {d : KD} {e0 e1 : va_E} {z : Nat} {v : Value} (h : ktyped cy AK d e0) (hs : kshape cy d e1) (hz : cval e1 z = some v) (he : ∀ j, j ≠ z → cval e1 j = cval e0 j) (ht9 : ∀ t, k_ty d z = some t → ht AK t v) : ktyped cy AK d e1 := by
  refine ⟨hs, fun j t hj hj2 => ?_⟩
  by_cases e9 : j = z
  · subst e9
    exact ⟨v, hz, ht9 t hj2⟩
  · obtain ⟨w, g1, g2⟩ := h.2 j t hj hj2
    exact ⟨w, by rw [he j e9]; exact g1, g2⟩
set_option maxHeartbeats 4000000 in
theorem s_hst {S S' : SB} {ins : Instr} {len : Nat} (hFP : FPOK T FP) (hSU : SUOK T) (hP : POK2 P RT OW) (X : Cx OW EW D cy I0.2.2 M own p R s m args meth c A rm cb sb) (h : f_hst T RT M wr S ins len = some S') (hd : decode (mC M) S.1 = .ok (ins, len))
    (k : Sf T FP D cy I0 ks0 wp0 wr M p l e R s m args below meth c A Q cb sb S') : Sf T FP D cy I0 ks0 wp0 wr M p l e R s m args below meth c A Q cb sb S := by
  obtain ⟨pc, lo, st, F, rw0, nc, ns⟩ := S
  obtain ⟨x1, x2, x3, x4, x5, x6, x7, x8, x9, x10, x11⟩ := X
  intro I H locs ls lv vs ks wp raw a1 a2 a3 a4 a5 a6 a7 a8 a9 a10
  simp only at a2 a3 a4 a5 hd ⊢
  have hlk : ∀ {kd ci kf : Nat} {z : Int} {i : Nat} {r : vw_C}, kd ≤ 1 → e_res RT (mO M) i = some (kd, ci, kf, z) → vwCl[ci]? = some r → kf < r.2.2 ∧ ((Cond.fieldLink own i (r.2.1 kf).1 (r.2.1 kf).2.1 (r.2.1 kf).2.2.1).before args s = true ∨ ∃ host, (Cond.fieldLinkNest own i (r.2.1 kf).1 (r.2.1 kf).2.1 (r.2.1 kf).2.2.1 host).before args s = true) := by
    intro kd ci kf z i r hkd hr hc
    have hro := (res_ok hP x4 hr).1
    rcases (show kd = 0 ∨ kd = 1 by omega) with rfl | rfl
    · obtain ⟨r', r1, r2, r3⟩ := hro
      rw [hc] at r1
      cases r1
      exact ⟨r2, Or.inl (x6 _ r3)⟩
    · obtain ⟨r', host, r1, r2, r3⟩ := hro
      rw [hc] at r1
      cases r1
      exact ⟨r2, Or.inr ⟨host, va_Nw.use rfl (x7.2.1 _ r3)⟩⟩
  have hcls : ∀ {kd ci kf : Nat} {z : Int} {i : Nat}, kd ≤ 1 → e_res RT (mO M) i = some (kd, ci, kf, z) → ∃ r : vw_C, vwCl[ci]? = some r := by
    intro kd ci kf z i hkd hr
    have hro := (res_ok hP x4 hr).1
    rcases (show kd = 0 ∨ kd = 1 by omega) with rfl | rfl
    · obtain ⟨r', r1, -⟩ := hro; exact ⟨r', r1⟩
    · obtain ⟨r', host, r1, -⟩ := hro; exact ⟨r', r1⟩
  unfold f_hst at h
  simp only at h
  split at h
  · -- getfield
    split at h
    · rename_i kd ci kf z a st' hr
      split at h
      · rename_i κ nn nm ci' tys hkd
        split at h
        · rename_i t hty
          split at h
          · rename_i q
            simp only [Bool.and_eq_true] at q
            obtain ⟨q1, q2, q3⟩ := q
            have q1 := Nat.le_of_ble_eq_true q1
            have q2 := Nat.eq_of_beq_eq_true q2
            have q3 := Nat.eq_of_beq_eq_true q3
            subst q2
            subst q3
            cases hld : f_load T κ nn nm (bI (kf : Int)) t F with
            | mk v0 F' =>
            rw [hld] at h
            simp only at h
            cases h
            obtain ⟨v1, vs1, rfl, g1, g2⟩ := hvs_cons a3
            obtain ⟨qa, i0, e0, rfl, hki, hwi, hty0, hT, rfl⟩ := kd_ok a4 g1 hkd
            obtain ⟨vs0, rfl, hlen⟩ := hty0.1
            have hlt : kf < tys.length := (List.getElem?_eq_some_iff.mp hty).1
            obtain ⟨w, hw1, hw2⟩ := hty0.2 kf t hlt hty
            obtain ⟨r, hr1⟩ := hcls q1 hr
            obtain ⟨hk2, hlink⟩ := hlk q1 hr hr1
            obtain ⟨J, j1, j2, j3, j4⟩ := load_ok (p := bI (kf : Int)) a4 (hap_of a7) hki hwi g1 rfl hw1 hw2 hld
            refine b_get x1 x2 x6 x5 x7 a6 (wr_at hwi) hr1 hk2 hw1 hlink hd ?_
            exact k J H locs ls lv _ ks wp raw a1 (a2.xt j1) ⟨j3, g2.xt j1⟩ j4 (by
              revert a5
              cases rw0 with
              | none => exact id
              | some x => intro ⟨q, n, w1, w2, w3⟩; exact ⟨q, n, j1.at w1, w2, w3⟩) a6 a7 a8 (a9.tr j1) a10
          · cases h
        · cases h
      · cases h
    · cases h
  · -- putfield
    split at h
    · rename_i kd ci kf z v a st' hr
      split at h
      · rename_i κ nn nm ci' tys hkd
        split at h
        · rename_i t hty
          split at h
          · rename_i q
            simp only [Bool.and_eq_true] at q
            obtain ⟨q1, q2, q3, q4, q5, q6, q7⟩ := q
            have q1 := Nat.le_of_ble_eq_true q1
            have q2 := Nat.eq_of_beq_eq_true q2
            have q3 := Nat.eq_of_beq_eq_true q3
            subst q2
            subst q3
            cases h
            obtain ⟨v0, vs1, rfl, g1, g2⟩ := hvs_cons a3
            obtain ⟨v1, vs2, rfl, g3, g4⟩ := hvs_cons g2
            obtain ⟨qa, i0, e0, rfl, hki, hwi, hty0, hT, rfl⟩ := kd_ok a4 g3 hkd
            obtain ⟨vs0, rfl, hlen⟩ := hty0.1
            obtain ⟨r, hr1⟩ := hcls q1 hr
            obtain ⟨hk2, hlink⟩ := hlk q1 hr hr1
            have hft := f_fit_ok a4.2.1 g1 q4
            obtain ⟨f1, f2⟩ := f_fits_ok a4.2.1 g1 q5
            obtain ⟨hkl, hty1⟩ := ktyped_put hty0 hty hft
            have hne : ∀ j, j ≠ kf → cval (.inr (ci, vs0.set kf v0)) j = cval (.inr (ci, vs0)) j := by
              intro j hj
              simp only [cval]
              rw [List.getElem?_set, if_neg (fun h => hj h.symm)]
            have hvz : cval (.inr (ci, vs0.set kf v0)) kf = some v0 := by
              simp only [cval]
              rw [List.getElem?_set, if_pos rfl, if_pos hkl]
            refine b_put x1 x2 x6 x5 x7 a6 a7 a8 (wr_at hwi) hr1 hk2 hkl f1 f2 (f_plainF_ok q6 hr1).2 hlink hd (fun H1 locs1 w1 w2 w3 => ?_)
            rw [wr_set hwi] at w1 w2
            exact k I H1 locs1 ls lv _ ks _ raw a1 a2 g4 (store_ok (p := bI (kf : Int)) hFP hSU a4 hki hwi g3 rfl hvz g1 hne hT hty1) a5 w1 w2 w3 a9 (a10.set hki hwi hne (f_wr_ok q7 (Nat.le_refl _) (Nat.le_refl _)))
          · cases h
        · cases h
      · cases h
    · cases h
  · -- arraylength
    split at h
    · rename_i a st'
      split at h
      · rename_i κ nn nm t n x hkd
        split at h
        · rename_i q
          simp only [Bool.and_eq_true, decide_eq_true_eq] at q
          obtain ⟨q1, q2, q3⟩ := q
          have q1 := Nat.le_of_ble_eq_true q1
          have q3 := Nat.eq_of_beq_eq_true q3
          subst q3
          cases h
          obtain ⟨v1, vs1, rfl, g1, g2⟩ := hvs_cons a3
          obtain ⟨qa, i0, e0, rfl, hki, hwi, hty0, hT, rfl⟩ := kd_ok a4 g1 hkd
          refine b_alen x1 x2 x7 a6 (wr_at hwi) hty0.1 (by omega) hd ?_
          exact k I H locs ls lv _ ks wp raw a1 a2 ⟨⟨_, rfl, nI_toInt (by omega)⟩, g2⟩ a4 a5 a6 a7 a8 a9 a10
        · cases h
      · cases h
    · cases h
  · -- ldc2_w
    split at h
    · rename_i kd z1 z2 v hr
      split at h
      · rename_i q
        simp only [Bool.and_eq_true] at q
        have q1 := Nat.eq_of_beq_eq_true q.1
        have q2 := Nat.eq_of_beq_eq_true q.2
        subst q1
        subst q2
        cases h
        obtain ⟨r1, r2, r3⟩ := (res_ok hP x4 hr).1
        have w : (Int64.ofInt v).toInt = v := by
          rw [Int64.toInt_ofInt_of_le (by omega) (by omega)]
        exact lv_ldc2 x1 x2 x5 (x6 _ r1) hd (k I H locs ls lv _ ks wp raw a1 a2 ⟨⟨_, rfl, by rw [w]; omega, by rw [w]; omega⟩, a3⟩ a4 a5 a6 a7 a8 a9 a10)
      · cases h
    · cases h
  · -- ldc
    split at h
    · rename_i kd z1 z2 v hr
      split at h
      · rename_i q
        simp only [Bool.and_eq_true] at q
        have q1 := Nat.eq_of_beq_eq_true q.1
        have q2 := Nat.eq_of_beq_eq_true q.2
        subst q1
        subst q2
        cases h
        obtain ⟨r1, r2, r3⟩ := (res_ok hP x4 hr).2 rfl
        exact lv_ldc x1 x2 x5 (x6 _ r1) hd (k I H locs ls lv _ ks wp raw a1 a2 ⟨⟨_, rfl, en_o32 r2 r3⟩, a3⟩ a4 a5 a6 a7 a8 a9 a10)
      · cases h
    · cases h
  · -- ldc_w
    split at h
    · rename_i kd z1 z2 v hr
      split at h
      · rename_i q
        simp only [Bool.and_eq_true] at q
        have q1 := Nat.eq_of_beq_eq_true q.1
        have q2 := Nat.eq_of_beq_eq_true q.2
        subst q1
        subst q2
        cases h
        obtain ⟨r1, r2, r3⟩ := (res_ok hP x4 hr).2 rfl
        exact lv_ldcw x1 x2 x5 (x6 _ r1) hd (k I H locs ls lv _ ks wp raw a1 a2 ⟨⟨_, rfl, en_o32 r2 r3⟩, a3⟩ a4 a5 a6 a7 a8 a9 a10)
      · cases h
    · cases h
  · split at h
    · -- a place is read
      split at h
      · rename_i i a st'
        split at h
        · rename_i κ nn nm t n x hkd
          split at h
          · rename_i l1 h1 hpl
            split at h
            · rename_i ty hty
              split at h
              · rename_i q
                simp only [Bool.and_eq_true, decide_eq_true_eq] at q
                obtain ⟨q1, q2, q3, q4⟩ := q
                have q1 := Nat.le_of_ble_eq_true q1
                have q3 := Nat.eq_of_beq_eq_true q3
                subst q3
                cases hld : f_load T κ nn nm i ty F with
                | mk v0 F' =>
                rw [hld] at h
                simp only at h
                cases h
                obtain ⟨v1, vs1, rfl, g1, g2⟩ := hvs_cons a3
                obtain ⟨v2, vs2, rfl, g3, g4⟩ := hvs_cons g2
                obtain ⟨qa, i0, e0, rfl, hki, hwi, hty0, hT, rfl⟩ := kd_ok a4 g3 hkd
                obtain ⟨j, z, rfl, jz, zn, zl, zh, jev⟩ := f_pl_ok a4.2.1 g1 hpl
                obtain ⟨t', t1, t2⟩ := k_hull_ok (AK := I.2.1) (v := (cval e0 z).getD .null) hty zl zh
                obtain ⟨w, hw1, hw2⟩ := hty0.2 z t' zn t1
                rw [hw1] at t2
                obtain ⟨J, j1, j2, j3, j4⟩ := load_ok a4 (hap_of a7) hki hwi g3 jev hw1 (t2 hw2) hld
                refine b_ald x1 x2 x7 a6 (wr_at hwi) hty0.1 (by omega) jz zn (by omega) hw1 q4 hd ?_
                exact k J H locs ls lv _ ks wp raw a1 (a2.xt j1) ⟨j3, g4.xt j1⟩ j4 (by
                  revert a5
                  cases rw0 with
                  | none => exact id
                  | some x => intro ⟨q, n, w1, w2, w3⟩; exact ⟨q, n, j1.at w1, w2, w3⟩) a6 a7 a8 (a9.tr j1) a10
              · cases h
            · cases h
          · cases h
        · cases h
      · cases h
    · split at h
      · -- a place is written
        split at h
        · rename_i v i a st'
          split at h
          · rename_i κ nn nm t n x hkd
            split at h
            · rename_i l1 h1 hpl
              split at h
              · rename_i q
                simp only [Bool.and_eq_true, decide_eq_true_eq] at q
                obtain ⟨q1, q2, q3, q4, q5, q6, q7⟩ := q
                have q1 := Nat.le_of_ble_eq_true q1
                have q3 := Nat.eq_of_beq_eq_true q3
                subst q3
                cases h
                obtain ⟨v0, vs1, rfl, g1, g2⟩ := hvs_cons a3
                obtain ⟨v1, vs2, rfl, g3, g4⟩ := hvs_cons g2
                obtain ⟨v2, vs3, rfl, g5, g6⟩ := hvs_cons g4
                obtain ⟨qa, i0, e0, rfl, hki, hwi, hty0, hT, rfl⟩ := kd_ok a4 g5 hkd
                obtain ⟨j, z, rfl, jz, zn, zl, zh, jev⟩ := f_pl_ok a4.2.1 g3 hpl
                refine b_ast (x := x) x1 x2 x7 a6 a7 a8 (wr_at hwi) hty0.1 (by omega) jz zn (by omega) (f_afit_ok (by omega) a4 g1 q5) q4 hd (fun e1 s1 s2 s3 H1 locs1 w1 w2 w3 => ?_)
                rw [wr_set hwi] at w1 w2
                have hty1 := ktyped_ast hty0 s1 s2 s3 (fun t' h9 => f_fit_ok a4.2.1 g1 (k_all_ok q6 zl zh t' h9))
                exact k I H1 locs1 ls lv _ ks _ raw a1 a2 g6 (store_ok hFP hSU a4 hki hwi g5 jev s2 g1 s3 hT hty1) a5 w1 w2 w3 a9 (a10.set hki hwi s3 (f_wr_ok q7 zl zh))
              · cases h
            · cases h
          · cases h
        · cases h
      · cases h
end BHST
