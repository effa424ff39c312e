/-! a scene's city is set: a scene of the history that gets the city k keeps what is said of k -/
def h_keepC (k : Nat) (f : SFt) : Bool := match f.2 with
  | a :: _ => (Nat.beq f.1 93 || Nat.beq f.1 98) && bv_eq a (bV k 0)
  | [] => false
def ox_pc (M : MT) (wr : WR) (S : SB) (ins : Instr) (len : Nat) : Option (List SB) := match ins, S.2.2.1 with
  | .putfield i, v :: a :: _ => (match f_hst T2 RB2 M wr S ins len with
    | some S' => (match e_res RB2 (mO M) i, h_pn 51 (some v), f_kd T2 S.2.2.2.1.2.1 a with
      | some (_, _, kf, _), some k, some (κ, _) => if (Nat.beq kf 0 && Nat.beq κ 64) = true then some [(S'.1, S'.2.1, S'.2.2.1, (S'.2.2.2.1.1, S'.2.2.2.1.2.1, S'.2.2.2.1.2.2.1, S.2.2.2.1.2.2.2.filter (h_keepC k) ++ S'.2.2.2.1.2.2.2), S'.2.2.2.2)] else some [S']
      | _, _, _ => some [S'])
    | none => none)
  | _, _ => none
section PC1
variable {xs : Nat → Int32} {D : va_G} {cy : Nat → ClassId} {I0 : IN} {ks0 : List Nat} {wp0 : va_W} {wr : WR} {M : MT} {own : String}
variable {p : Program} {l : Launch} {e : Env} {R : Room} {s : State} {m : MethodId} {args : Array Value} {below : List Frame} {meth : Method} {c : Code} {A : Nat → Prop} {Q : State → Prop} {rm : RMt} {cb sb : Nat}
theorem hs_more {I : IN} {ks : List Nat} {wp : va_W} {F : FS} {X : List SFt} (h : HS T2 FPX cy I ks wp F) (hX : ∀ f ∈ X, hsf FPX I (c_cu ks wp) f) : HS T2 FPX cy I ks wp (F.1, F.2.1, F.2.2.1, X ++ F.2.2.2) := by
  obtain ⟨h1, h2, h3, h4⟩ := h
  refine ⟨h1, h2, h3, fun g hg => ?_⟩
  rcases List.mem_append.mp hg with hg | hg
  · exact hX g hg
  · exact h4 g hg
theorem hGo_put {ks : List Nat} {wp : va_W} {i q qc : Nat} {e e' : va_E} {f s9 t : Int} (h100 : ∀ κ' ∈ ks, κ' < 100) (hi : ks[i]? = some 64) (hw : wp[i]? = some (q, e)) (hnew : cval e' 0 = some (.ref qc)) (h8 : ∀ j, c_cu ks (wp.set i (q, e')) 8 j = c_cu ks wp 8 j) (h : hGo (c_cu ks wp) qc f s9 t) : hGo (c_cu ks (wp.set i (q, e'))) qc f s9 t := by
  intro j hj ht
  obtain ⟨qh, h1, h2⟩ := h j hj ht
  refine ⟨qh, by rw [h8]; exact h1, ?_⟩
  rw [c_cu_ky h100 (by decide)] at h2 ⊢
  rcases c_fa_set (q' := qh) (κ' := 64) (e' := e') hi hw with h3 | ⟨-, h3, h4⟩
  · rw [h3]; exact h2
  · rw [h4]; exact hnew
theorem keepK_ok {I : IN} {ks : List Nat} {wp : va_W} {F : FS} {i q qc k : Nat} {e e' : va_E} (hF : HS T2 FPX cy I ks wp F) (hi : ks[i]? = some 64) (hw : wp[i]? = some (q, e)) (hk : I.1[k]? = some (qc : Int)) (hnew : cval e' 0 = some (.ref qc)) (he : ∀ j, j ≠ 0 → cval e' j = cval e j) : ∀ f ∈ F.2.2.2.filter (h_keepC k), hsf FPX I (c_cu ks (wp.set i (q, e'))) f := by
  intro f hf
  obtain ⟨h1, h2⟩ := List.mem_filter.mp hf
  obtain ⟨zs, z1, z2⟩ := hF.2.2.2 f h1
  have h100 := hp_100 (T := T2) suok2.1 hF.1
  have h8 : ∀ j, c_cu ks (wp.set i (q, e')) 8 j = c_cu ks wp 8 j := fun j => c_cu_set (T := T2) hF.1 hi hw he (by decide) (Or.inl (by decide))
  refine ⟨zs, z1, ?_⟩
  obtain ⟨id, as⟩ := f
  unfold h_keepC at h2
  simp only at h2 z1 z2 ⊢
  cases as with
  | nil => cases h2
  | cons a r =>
    simp only [Bool.and_eq_true, Bool.or_eq_true] at h2
    obtain ⟨h2, h3⟩ := h2
    have h3 := bv_eq_ok h3
    subst h3
    have hz0 : ∀ (y : Int) (ys : List Int), zs = y :: ys → y = (qc : Int) := by
      intro y ys e9
      subst e9
      simp only [f_evs, ev_nm hk] at z1
      split at z1
      · rename_i z9 zs9 w1 w2
        cases w1
        simp only [Option.some.injEq, List.cons.injEq] at z1
        exact z1.1.symm
      · cases z1
    rcases h2 with h2 | h2
    · have h2 := beq3 h2
      subst h2
      obtain ⟨qc9, f0, s0, rfl, g⟩ := z2
      have := hz0 _ _ rfl
      have e7 : qc9 = qc := by omega
      subst e7
      exact ⟨qc9, f0, s0, rfl, hGo_put h100 hi hw hnew h8 g⟩
    · have h2 := beq3 h2
      subst h2
      obtain ⟨qc9, f0, s0, t0, rfl, g⟩ := z2
      have := hz0 _ _ rfl
      have e7 : qc9 = qc := by omega
      subst e7
      exact ⟨qc9, f0, s0, t0, rfl, hGo_put h100 hi hw hnew h8 g⟩
set_option maxHeartbeats 2000000 in
theorem s_pcX {pc : Nat} {lo : List (Nat × BV)} {v a : BV} {st : List BV} {F : FS} {rw0 : Option (Nat × Nat)} {nc ns i kd ci k : Nat} {z : Int} {y : Bool × Option Nat × KD} {S' : SB} {len : Nat} (X : Cx OW2 (EWX xs) D cy I0.2.2 M own p R s m args meth c A rm cb sb) (h : f_hst T2 RB2 M wr (pc, lo, v :: a :: st, F, rw0, nc, ns) (.putfield i) len = some S') (hd : decode (mC M) pc = .ok (.putfield i, len))
    (hr0 : e_res RB2 (mO M) i = some (kd, ci, 0, z)) (hv0 : h_pn 51 (some v) = some k) (hk0 : f_kd T2 F.2.1 a = some (64, y))
    (kk : Sf T2 FPX D cy I0 ks0 wp0 wr M p l e R s m args below meth c A Q cb sb (S'.1, S'.2.1, S'.2.2.1, (S'.2.2.2.1.1, S'.2.2.2.1.2.1, S'.2.2.2.1.2.2.1, F.2.2.2.filter (h_keepC k) ++ S'.2.2.2.1.2.2.2), S'.2.2.2.2)) : Sf T2 FPX D cy I0 ks0 wp0 wr M p l e R s m args below meth c A Q cb sb (pc, lo, v :: a :: st, F, rw0, nc, ns) := by
  obtain ⟨x1, x2, x3, x4, x5, x6, x7, x8, x9, x10, x11⟩ := X
  intro I H locs ls lv vs ks wp raw a1 a2 a3 a4 a5 a6 a7 a8 a9 a10
  simp only at a2 a3 a4 a5 hd ⊢
  have hlk : ∀ {kd ci kf : Nat} {z : Int} {i : Nat} {r : vw_C}, kd ≤ 1 → e_res RB2 (mO M) i = some (kd, ci, kf, z) → vwCl[ci]? = some r → kf < r.2.2 ∧ ((Cond.fieldLink own i (r.2.1 kf).1 (r.2.1 kf).2.1 (r.2.1 kf).2.2.1).before args s = true ∨ ∃ host, (Cond.fieldLinkNest own i (r.2.1 kf).1 (r.2.1 kf).2.1 (r.2.1 kf).2.2.1 host).before args s = true) := by
    intro kd ci kf z i r hkd hr hc
    have hro := (res_ok pok2 x4 hr).1
    rcases (show kd = 0 ∨ kd = 1 by omega) with rfl | rfl
    · obtain ⟨r', r1, r2, r3⟩ := hro
      rw [hc] at r1
      cases r1
      exact ⟨r2, Or.inl (x6 _ r3)⟩
    · obtain ⟨r', host, r1, r2, r3⟩ := hro
      rw [hc] at r1
      cases r1
      exact ⟨r2, Or.inr ⟨host, va_Nw.use rfl (x7.2.1 _ r3)⟩⟩
  have hcls : ∀ {kd ci kf : Nat} {z : Int} {i : Nat}, kd ≤ 1 → e_res RB2 (mO M) i = some (kd, ci, kf, z) → ∃ r : vw_C, vwCl[ci]? = some r := by
    intro kd ci kf z i hkd hr
    have hro := (res_ok pok2 x4 hr).1
    rcases (show kd = 0 ∨ kd = 1 by omega) with rfl | rfl
    · obtain ⟨r', r1, -⟩ := hro; exact ⟨r', r1⟩
    · obtain ⟨r', host, r1, -⟩ := hro; exact ⟨r', r1⟩
  unfold f_hst at h
  simp only at h
  obtain ⟨nn, nm, d⟩ := y
  rw [hr0] at h
  simp only at h
  rw [hk0] at h
  split at h
  · rename_i κ9 nn9 nm9 ci' tys hkd
    cases hkd
    split at h
    · rename_i t hty
      split at h
      · rename_i q
        simp only [Bool.and_eq_true] at q
        obtain ⟨q1, q2, q3, q4, q5, q6, q7⟩ := q
        have q1 := Nat.le_of_ble_eq_true q1
        have q2 := Nat.eq_of_beq_eq_true q2
        have q3 := Nat.eq_of_beq_eq_true q3
        subst q2
        subst q3
        cases h
        obtain ⟨v0, vs1, rfl, g1, g2⟩ := hvs_cons a3
        obtain ⟨v1, vs2, rfl, g3, g4⟩ := hvs_cons g2
        obtain ⟨qa, i0, e0, rfl, hki, hwi, hty0, hT, rfl⟩ := kd_ok a4 g3 hk0
        obtain ⟨vs0, rfl, hlen⟩ := hty0.1
        obtain ⟨r, hr1⟩ := hcls q1 hr0
        obtain ⟨hk2, hlink⟩ := hlk q1 hr0 hr1
        have hft := f_fit_ok a4.2.1 g1 q4
        obtain ⟨f1, f2⟩ := f_fits_ok a4.2.1 g1 q5
        obtain ⟨hkl, hty1⟩ := ktyped_put hty0 hty hft
        have hne : ∀ j, j ≠ 0 → cval (.inr (ci, vs0.set 0 v0)) j = cval (.inr (ci, vs0)) j := by
          intro j hj
          simp only [cval]
          rw [List.getElem?_set, if_neg (fun h => hj h.symm)]
        have hvz : cval (.inr (ci, vs0.set 0 v0)) 0 = some v0 := by
          simp only [cval]
          rw [List.getElem?_set, if_pos rfl, if_pos hkl]
        have hpn := Option.some.inj (h_pn_ok hv0)
        subst hpn
        obtain ⟨qc, rfl, n1, n2⟩ := hv_rn g1
        refine b_put x1 x2 x6 x5 x7 a6 a7 a8 (wr_at hwi) hr1 hk2 hkl f1 f2 (f_plainF_ok q6 hr1).2 hlink hd (fun H1 locs1 w1 w2 w3 => ?_)
        rw [wr_set hwi] at w1 w2
        exact kk I H1 locs1 ls lv _ ks _ raw a1 a2 g4 (hs_more (store_ok (p := bI ((0 : Nat) : Int)) fpok2 suok2 a4 hki hwi g3 rfl hvz g1 hne hT hty1) (keepK_ok a4 hki hwi n1 hvz hne)) a5 w1 w2 w3 a9 (a10.set hki hwi hne (f_wr_ok q7 (Nat.le_refl _) (Nat.le_refl _)))
      · cases h
    · cases h
  · cases h
theorem s_pc {S : SB} {x : List SB} {ins : Instr} {len : Nat} (X : Cx OW2 (EWX xs) D cy I0.2.2 M own p R s m args meth c A rm cb sb) (h : ox_pc M wr S ins len = some x) (hd : decode (mC M) S.1 = .ok (ins, len))
    (k : ∀ S' ∈ x, Sf T2 FPX D cy I0 ks0 wp0 wr M p l e R s m args below meth c A Q cb sb S') : Sf T2 FPX D cy I0 ks0 wp0 wr M p l e R s m args below meth c A Q cb sb S := by
  obtain ⟨pc, lo, st, F, rw0, nc, ns⟩ := S
  unfold ox_pc at h
  simp only at h hd
  split at h
  · rename_i i v a st0
    split at h
    · rename_i S' hS'
      split at h
      · rename_i kd ci kf z k0 κ y h1 h2 h3
        split at h
        · rename_i q1
          simp only [Bool.and_eq_true] at q1
          have e1 := beq3 q1.1
          have e2 := beq3 q1.2
          subst e1
          subst e2
          cases h
          exact s_pcX X hS' hd h1 h2 h3 (k _ List.mem_cons_self)
        · cases h
          exact s_hst fpok2 suok2 pok2 X hS' hd (k _ List.mem_cons_self)
      · cases h
        exact s_hst fpok2 suok2 pok2 X hS' hd (k _ List.mem_cons_self)
    · cases h
  · cases h
end PC1
/-! a long is read and put down at once: names of an image, place by place -/
def l28 (id : Nat) : Int := if Nat.beq id 104 = true then 0 else 28
def h_lcp (E : EB) (κa κb : Nat) (i j : BV) (f : SFt) : Option SFt := match f.2 with
  | [q] => if ((Nat.beq f.1 104 || Nat.beq f.1 105) && (h_in E (some q) 0 27 && ((Nat.beq κa 30 && (Nat.beq κb 42 && (bv_eq i q && bv_eq j (f_off q (l28 f.1))))) || (Nat.beq κa 42 && (Nat.beq κb 30 && (bv_eq j q && bv_eq i (f_off q (l28 f.1)))))))) = true then some (f.1, [f_off q 1]) else none
  | _ => none
def ox_lcp (M : MT) (wr : WR) (S : SB) (ins : Instr) (len : Nat) : Option (List SB) := match ins, S.2.2.1 with
  | .laload, i :: a :: j :: b :: _ => (match f_hst T2 RB2 M wr S .laload len with
    | some S1 => (match f_hst T2 RB2 M wr S1 .lastore 1, x_at (mT M) (S.1 + 1), f_kd T2 S.2.2.2.1.2.1 a, f_kd T2 S1.2.2.2.1.2.1 b with
      | some S2, some (.lastore, 1), some (κa, _), some (κb, _) => some [(S2.1, S2.2.1, S2.2.2.1, (S2.2.2.2.1.1, S2.2.2.2.1.2.1, S2.2.2.2.1.2.2.1, S.2.2.2.1.2.2.2.filterMap (h_lcp S.2.2.2.1.2.1 κa κb i j) ++ S2.2.2.2.1.2.2.2), S2.2.2.2.2)]
      | _, _, _, _ => none)
    | none => none)
  | _, _ => none
theorem hst_ld {M : MT} {wr : WR} {pc len : Nat} {lo : List (Nat × BV)} {i a : BV} {st : List BV} {F : FS} {rw0 : Option (Nat × Nat)} {nc ns : Nat} {S' : SB} (h : f_hst T2 RB2 M wr (pc, lo, i :: a :: st, F, rw0, nc, ns) .laload len = some S') :
    ∃ (κ : Nat) (nn : Bool) (nm : Option Nat) (t n : Nat) (x : List (Nat × BT)) (l1 h1 : Nat) (ty : BT), f_kd T2 F.2.1 a = some (κ, nn, nm, .inl (t, n, x)) ∧ f_pl F.2.1 i n = some (l1, h1) ∧ k_hull x l1 h1 = some ty ∧ t ≤ 5 ∧ n < 65536 ∧ len = 1 ∧ e_ald .laload t = true ∧ S' = (pc + 1, lo, (f_load T2 κ nn nm i ty F).1 :: st, (f_load T2 κ nn nm i ty F).2, rw0, nc, ns) := by
  unfold f_hst at h
  simp only at h
  rw [if_pos (show f_lds .laload = true from rfl)] at h
  split at h
  · rename_i κ nn nm t n x hkd
    split at h
    · rename_i l1 h1 hpl
      split at h
      · rename_i ty hty
        split at h
        · rename_i q
          simp only [Bool.and_eq_true, decide_eq_true_eq] at q
          obtain ⟨q1, q2, q3, q4⟩ := q
          cases h
          exact ⟨κ, nn, nm, t, n, x, l1, h1, ty, hkd, hpl, hty, Nat.le_of_ble_eq_true q1, q2, Nat.eq_of_beq_eq_true q3, q4, rfl⟩
        · cases h
      · cases h
    · cases h
  · cases h
theorem hst_st {M : MT} {wr : WR} {pc len : Nat} {lo : List (Nat × BV)} {v i a : BV} {st : List BV} {F : FS} {rw0 : Option (Nat × Nat)} {nc ns : Nat} {S' : SB} (h : f_hst T2 RB2 M wr (pc, lo, v :: i :: a :: st, F, rw0, nc, ns) .lastore len = some S') :
    ∃ (κ : Nat) (nn : Bool) (nm : Option Nat) (t n : Nat) (x : List (Nat × BT)) (l1 h1 : Nat), f_kd T2 F.2.1 a = some (κ, nn, nm, .inl (t, n, x)) ∧ f_pl F.2.1 i n = some (l1, h1) ∧ t ≤ 5 ∧ n < 65536 ∧ e_aop .lastore t = true ∧ f_afit T2 F.2.1 t v = true ∧ k_all (f_fit F.2.1 v) x l1 h1 = true ∧ f_wr wr κ l1 h1 = true ∧ S' = (pc + 1, lo, st, f_store T2 κ nn nm i v F, rw0, nc, ns) := by
  unfold f_hst at h
  simp only at h
  rw [if_neg (show ¬ f_lds .lastore = true by decide), if_pos (show f_sts .lastore = true from rfl)] at h
  split at h
  · rename_i κ nn nm t n x hkd
    split at h
    · rename_i l1 h1 hpl
      split at h
      · rename_i q
        simp only [Bool.and_eq_true, decide_eq_true_eq] at q
        obtain ⟨q1, q2, q3, q4, q5, q6, q7⟩ := q
        cases h
        exact ⟨κ, nn, nm, t, n, x, l1, h1, hkd, hpl, Nat.le_of_ble_eq_true q1, q2, q4, q5, q6, q7, rfl⟩
      · cases h
    · cases h
  · cases h
section LC1
variable {xs : Nat → Int32} {D : va_G} {cy : Nat → ClassId} {I0 : IN} {ks0 : List Nat} {wp0 : va_W} {wr : WR} {M : MT} {own : String}
variable {p : Program} {l : Launch} {e : Env} {R : Room} {s : State} {m : MethodId} {args : Array Value} {below : List Frame} {meth : Method} {c : Code} {A : Nat → Prop} {Q : State → Prop} {rm : RMt} {cb sb : Nat}
theorem lcp_fact {I J : IN} {ks : List Nat} {wp : va_W} {F : FS} {κa κb ia ib qa qb z z2 : Nat} {e0 e2 e1 : va_E} {w : Value} {i j : BV} (hF : HS T2 FPX cy I ks wp F) (hIJ : hxt I J) (ha : ks[ia]? = some κa) (ha2 : wp[ia]? = some (qa, e0)) (hb : ks[ib]? = some κb) (hb2 : wp[ib]? = some (qb, e2)) (hz : f_ev I.1 i = some (z : Int)) (hz2 : f_ev J.1 j = some (z2 : Int)) (hw : cval e0 z = some w) (hw2 : cval e1 z2 = some w) (hne : ∀ q, q ≠ z2 → cval e1 q = cval e2 q)
    (hp1 : hpool T2 cy I.2.1 ks (wp.set ib (qb, e1))) : ∀ f ∈ F.2.2.2.filterMap (h_lcp F.2.1 κa κb i j), hsf FPX J (c_cu ks (wp.set ib (qb, e1))) f := by
  intro f hf
  obtain ⟨g, g1, g2⟩ := List.mem_filterMap.mp hf
  obtain ⟨id, as⟩ := g
  unfold h_lcp at g2
  simp only at g2
  split at g2
  · rename_i q
    split at g2
    · rename_i c1
      cases g2
      simp only [Bool.and_eq_true, Bool.or_eq_true] at c1
      obtain ⟨c1, c2, c3⟩ := c1
      obtain ⟨zs, y1, y2⟩ := hF.2.2.2 _ g1
      obtain ⟨x, x1, rfl⟩ := evs1_inv y1
      have hx := in_iv hF.2.1 c2 x1
      have hset : (wp.set ib (qb, e1))[ib]? = some (qb, e1) := by
        rw [List.getElem?_set, if_pos rfl, if_pos (List.getElem?_eq_some_iff.mp hb2).1]
      have key : ∀ (jj d : Nat), jj < 2 → d = 28 * jj → id = 104 + jj → l28 id = (d : Int) → hsf FPX J (c_cu ks (wp.set ib (qb, e1))) (id, [f_off q 1]) := by
        intro jj d hj hd hid hdd
        rw [hdd] at c3
        rw [hid] at y2
        obtain ⟨i0, e9, h9, h2⟩ := (f104 hj).mp y2
        simp only [List.cons.injEq, and_true] at e9
        subst e9
        refine ⟨[((i0 : Int)) + 1], ?_, ?_⟩
        · have h5 := ev_off (d := 1) (ev_xt hIJ x1)
          simp only [f_evs, h5]
        · rw [hid]
          refine (f104 hj).mpr ⟨i0 + 1, by simp, by omega, fun k hk => ?_⟩
          rcases c3 with ⟨k1, k2, k3, k4⟩ | ⟨k1, k2, k3, k4⟩
          · have k1 := beq3 k1
            have k2 := beq3 k2
            have k3 := bv_eq_ok k3
            have k4 := bv_eq_ok k4
            subst k1
            subst k2
            subst k3
            subst k4
            rw [x1] at hz
            have ez : (i0 : Int) = (z : Int) := Option.some.inj hz
            have ez2 : (i0 : Int) + (d : Int) = (z2 : Int) := by
              have h5 := ev_off (d := (d : Int)) (ev_xt hIJ x1)
              rw [h5] at hz2
              exact Option.some.inj hz2
            have s30 : c_cu ks (wp.set ib (qb, e1)) 30 k = c_cu ks wp 30 k := c_cu_set (T := T2) hF.1 hb hb2 hne (by decide) (Or.inl (by decide))
            by_cases q9 : k = i0
            · subst q9
              rw [s30, cu_at hF.1 (by decide) ha ha2, show k = z by omega, hw, show 28 * jj + z = z2 by omega, cu_at hp1 (by decide) hb hset, hw2]
            · rw [s30, h2 k (by omega)]
              exact (c_cu_set (T := T2) hF.1 hb hb2 hne (by decide) (Or.inr (by omega))).symm
          · have k1 := beq3 k1
            have k2 := beq3 k2
            have k3 := bv_eq_ok k3
            have k4 := bv_eq_ok k4
            subst k1
            subst k2
            subst k3
            subst k4
            have ez2 : (i0 : Int) = (z2 : Int) := by
              rw [ev_xt hIJ x1] at hz2
              exact Option.some.inj hz2
            have ez : (i0 : Int) + (d : Int) = (z : Int) := by
              have h5 := ev_off (d := (d : Int)) x1
              rw [h5] at hz
              exact Option.some.inj hz
            have s42 : ∀ y : Nat, c_cu ks (wp.set ib (qb, e1)) 42 y = c_cu ks wp 42 y := fun y => c_cu_set (T := T2) hF.1 hb hb2 hne (by decide) (Or.inl (by decide))
            by_cases q9 : k = i0
            · subst q9
              rw [s42, show 28 * jj + k = z by omega, cu_at hF.1 (by decide) ha ha2, hw, show k = z2 by omega, cu_at hp1 (by decide) hb hset, hw2]
            · rw [s42, ← h2 k (by omega)]
              exact c_cu_set (T := T2) hF.1 hb hb2 hne (by decide) (Or.inr (by omega))
      rcases c1 with c1 | c1
      · have c1 := beq3 c1
        subst c1
        exact key 0 0 (by decide) rfl rfl rfl
      · have c1 := beq3 c1
        subst c1
        exact key 1 28 (by decide) rfl rfl rfl
    · cases g2
  · cases g2
set_option maxHeartbeats 4000000 in
theorem s_lcp {S : SB} {x9 : List SB} {ins : Instr} {len : Nat} (X : Cx OW2 (EWX xs) D cy I0.2.2 M own p R s m args meth c A rm cb sb) (h : ox_lcp M wr S ins len = some x9) (hd : decode (mC M) S.1 = .ok (ins, len))
    (k : ∀ S' ∈ x9, Sf T2 FPX D cy I0 ks0 wp0 wr M p l e R s m args below meth c A Q cb sb S') : Sf T2 FPX D cy I0 ks0 wp0 wr M p l e R s m args below meth c A Q cb sb S := by
  obtain ⟨pc, lo, st, F, rw0, nc, ns⟩ := S
  unfold ox_lcp at h
  simp only at h hd
  split at h
  · rename_i i a j b st0
    split at h
    · rename_i S1 hS1
      split at h
      · rename_i S2 κa ya κb yb hS2 hat hka hkb
        cases h
        have hd2 : decode (mC M) (pc + 1) = .ok (.lastore, 1) := x_dec X hat
        obtain ⟨x1, x2, x3, x4, x5, x6, x7, x8, x9, x10, x11⟩ := X
        obtain ⟨κ, nn, nm, t, n, x, l1, h1, ty, hkd, hpl, hty, q1, q2, q3, q4, rfl⟩ := hst_ld hS1
        subst q3
        obtain ⟨κ2, nn2, nm2, t2, n2, x2', l2, h2, hkd2, hpl2, r1, r2, r4, r5, r6, r7, rfl⟩ := hst_st hS2
        simp only at hka hkb
        rw [hkd] at hka
        cases hka
        rw [hkd2] at hkb
        cases hkb
        intro I H locs ls lv vs ks wp raw a1 a2 a3 a4 a5 a6 a7 a8 a9 a10
        simp only at a2 a3 a4 a5 ⊢
        obtain ⟨v1, vs1, rfl, g1, g2⟩ := hvs_cons a3
        obtain ⟨v2, vs2, rfl, g3, g4⟩ := hvs_cons g2
        obtain ⟨qa, i0, e0, rfl, hki, hwi, hty0, hT, rfl⟩ := kd_ok a4 g3 hkd
        obtain ⟨jj, z, rfl, jz, zn, zl, zh, jev⟩ := f_pl_ok a4.2.1 g1 hpl
        obtain ⟨t', t1, t2'⟩ := k_hull_ok (AK := I.2.1) (v := (cval e0 z).getD .null) hty zl zh
        obtain ⟨w, hw1, hw2⟩ := hty0.2 z t' zn t1
        rw [hw1] at t2'
        cases hld : f_load T2 κa nn nm i ty F with
        | mk v0 F' =>
        rw [hld] at hkd2 hpl2 r5 r6 k
        simp only at hkd2 hpl2 r5 r6 k
        obtain ⟨J, j1, j2, j3, j4⟩ := load_ok a4 (hap_of a7) hki hwi g3 jev hw1 (t2' hw2) hld
        refine b_ald x1 x2 x7 a6 (wr_at hwi) hty0.1 (by omega) jz zn (by omega) hw1 q4 hd ?_
        have g5 := g4.xt j1
        obtain ⟨v3, vs3, rfl, g6, g7⟩ := hvs_cons g5
        obtain ⟨v4, vs4, rfl, g8, g9⟩ := hvs_cons g7
        obtain ⟨qb, i2, e2, rfl, hki2, hwi2, hty2, hT2, rfl⟩ := kd_ok j4 g8 hkd2
        obtain ⟨jj2, z2, rfl, jz2, zn2, zl2, zh2, jev2⟩ := f_pl_ok j4.2.1 g6 hpl2
        refine b_ast (x := x2') x1 x2 x7 a6 a7 a8 (wr_at hwi2) hty2.1 (by omega) jz2 zn2 (by omega) (f_afit_ok (by omega) j4 j3 r5) r4 hd2 (fun e1 s1 s2 s3 H1 locs1 w1 w2 w3 => ?_)
        rw [wr_set hwi2] at w1 w2
        have hty3 := ktyped_ast hty2 s1 s2 s3 (fun t' h9 => f_fit_ok j4.2.1 j3 (k_all_ok r6 zl2 zh2 t' h9))
        have hst := store_ok fpok2 suok2 j4 hki2 hwi2 g8 jev2 s2 j3 s3 hT2 hty3
        have hp1 : hpool T2 cy I.2.1 ks (wp.set i2 (qb, e1)) := by rw [← j2]; exact hst.1
        have hmore := hs_more hst (lcp_fact (e1 := e1) a4 j1 hki hwi hki2 hwi2 jev jev2 hw1 s2 s3 hp1)
        exact k _ List.mem_cons_self J H1 locs1 ls lv _ ks _ raw a1 (a2.xt j1) g9 hmore (by
          revert a5
          cases rw0 with
          | none => exact id
          | some y => intro ⟨q, n, w1, w2, w3⟩; exact ⟨q, n, j1.at w1, w2, w3⟩) w1 w2 w3 (a9.tr j1) (a10.set hki2 hwi2 s3 (f_wr_ok r7 zl2 zh2))
      · cases h
    · cases h
  · cases h
end LC1
/-- all steps outside, of the specs -/
def OXR (M : MT) (wr : WR) (rm : RMt) (S : SB) (ins : Instr) (len : Nat) : Option (List SB) := match ins with
  | .invokevirtual _ => (match ox_slot M rm S ins len with
    | some x => some x
    | none => OXF M wr rm S ins len)
  | .putfield _ => ox_pc M wr S ins len
  | .laload => ox_lcp M wr S ins len
  | _ => OXF M wr rm S ins len
theorem oxrok {IX : IN → Prop} {xs : Nat → Int32} {D : va_G} {cy : Nat → ClassId} {l : Launch} : OXOK IX T2 FPX OW2 (EWX xs) D cy l OXR := by
  intro M wr rm S ins len x h I0 ks0 wp0 own p e R s m args below meth c A Q cb sb hI X hd k
  unfold OXR at h
  split at h
  · split at h
    · rename_i x9 h9
      cases h
      exact s_slot X h9 hd k
    · exact oxok (IX := IX) M wr rm S _ len x h I0 ks0 wp0 own p e R s m args below meth c A Q cb sb hI X hd k
  · exact s_pc X h hd k
  · exact s_lcp X h hd k
  · exact oxok (IX := IX) M wr rm S _ len x h I0 ks0 wp0 own p e R s m args below meth c A Q cb sb hI X hd k
