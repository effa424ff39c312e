/-! a scene's city is set: a scene of the history that gets the city k keeps what is said of k -/
def h_keepC (k : Nat) (f : SFt) : Bool := match f.2 with
  | a :: _ => (Nat.beq f.1 93 || Nat.beq f.1 98) && bv_eq a (bV k 0)
  | [] => false
def ox_pc (M : MT) (wr : WR) (S : SB) (ins : Instr) (len : Nat) : Option (List SB) := match ins, S.2.2.1 with
  | .putfield i, v :: a :: _ => (match f_hst T2 RB2 M wr S ins len with
    | some S' => (match e_res RB2 (mO M) i, h_pn 51 (some v), f_kd T2 S.2.2.2.1.2.1 a with
      | some (_, _, kf, _), some k, some (κ, _) => if (Nat.beq kf 0 && Nat.beq κ 64) = true then some [(S'.1, S'.2.1, S'.2.2.1, (S'.2.2.2.1.1, S'.2.2.2.1.2.1, S'.2.2.2.1.2.2.1, S.2.2.2.1.2.2.2.filter (h_keepC k) ++ S'.2.2.2.1.2.2.2), S'.2.2.2.2)] else some [S']
      | _, _, _ => some [S'])
    | none => none)
  | _, _ => none
section PC1
variable {xs : Nat → Int32} {D : va_G} {cy : Nat → ClassId} {I0 : IN} {ks0 : List Nat} {wp0 : va_W} {wr : WR} {M : MT} {own : String}
variable {p : Program} {l : Launch} {e : Env} {R : Room} {s : State} {m : MethodId} {args : Array Value} {below : List Frame} {meth : Method} {c : Code} {A : Nat → Prop} {Q : State → Prop} {rm : RMt} {cb sb : Nat}
theorem hs_more {I : IN} {ks : List Nat} {wp : va_W} {F : FS} {X : List SFt} (h : HS T2 FPX cy I ks wp F) (hX : ∀ f ∈ X, hsf FPX I (c_cu ks wp) f) : HS T2 FPX cy I ks wp (F.1, F.2.1, F.2.2.1, X ++ F.2.2.2) := by
  obtain ⟨h1, h2, h3, h4⟩ := h
  refine ⟨h1, h2, h3, fun g hg => ?_⟩
  rcases List.mem_append.mp hg with hg | hg
  · exact hX g hg
  · exact h4 g hg
theorem hGo_put {ks : List Nat} {wp : va_W} {i q qc : Nat} {e e' : va_E} {f s9 t : Int} (h100 : ∀ κ' ∈ ks, κ' < 100) (hi : ks[i]? = some 64) (hw : wp[i]? = some (q, e)) (hnew : cval e' 0 = some (.ref qc)) (h8 : ∀ j, c_cu ks (wp.set i (q, e')) 8 j = c_cu ks wp 8 j) (h : hGo (c_cu ks wp) qc f s9 t) : hGo (c_cu ks (wp.set i (q, e'))) qc f s9 t := by
  intro j hj ht
  obtain ⟨qh, h1, h2⟩ := h j hj ht
  refine ⟨qh, by rw [h8]; exact h1, ?_⟩
  rw [c_cu_ky h100 (by decide)] at h2 ⊢
  rcases c_fa_set (q' := qh) (κ' := 64) (e' := e') hi hw with h3 | ⟨-, h3, h4⟩
  · rw [h3]; exact h2
  · rw [h4]; exact hnew
theorem keepK_ok {I : IN} {ks : List Nat} {wp : va_W} {F : FS} {i q qc k : Nat} {e e' : va_E} (hF : HS T2 FPX cy I ks wp F) (hi : ks[i]? = some 64) (hw : wp[i]? = some (q, e)) (hk : I.1[k]? = some (qc : Int)) (hnew : cval e' 0 = some (.ref qc)) (he : ∀ j, j ≠ 0 → cval e' j = cval e j) : ∀ f ∈ F.2.2.2.filter (h_keepC k), hsf FPX I (c_cu ks (wp.set i (q, e'))) f := by
  intro f hf
  obtain ⟨h1, h2⟩ := List.mem_filter.mp hf
  obtain ⟨zs, z1, z2⟩ := hF.2.2.2 f h1
  have h100 := hp_100 (T := T2) suok2.1 hF.1
  have h8 : ∀ j, c_cu ks (wp.set i (q, e')) 8 j = c_cu ks wp 8 j := fun j => c_cu_set (T := T2) hF.1 hi hw he (by decide) (Or.inl (by decide))
  refine ⟨zs, z1, ?_⟩
  obtain ⟨id, as⟩ := f
  unfold h_keepC at h2
  simp only at h2 z1 z2 ⊢
  cases as with
  | nil => cases h2
  | cons a r =>
    simp only [Bool.and_eq_true, Bool.or_eq_true] at h2
    obtain ⟨h2, h3⟩ := h2
    have h3 := bv_eq_ok h3
    subst h3
    have hz0 : ∀ (y : Int) (ys : List Int), zs = y :: ys → y = (qc : Int) := by
      intro y ys e9
      subst e9
      simp only [f_evs, ev_nm hk] at z1
      split at z1
      · rename_i z9 zs9 w1 w2
        cases w1
        simp only [Option.some.injEq, List.cons.injEq] at z1
        exact z1.1.symm
      · cases z1
    rcases h2 with h2 | h2
    · have h2 := beq3 h2
      subst h2
      obtain ⟨qc9, f0, s0, rfl, g⟩ := z2
      have := hz0 _ _ rfl
      have e7 : qc9 = qc := by omega
      subst e7
      exact ⟨qc9, f0, s0, rfl, hGo_put h100 hi hw hnew h8 g⟩
    · have h2 := beq3 h2
      subst h2
      obtain ⟨qc9, f0, s0, t0, rfl, g⟩ := z2
      have := hz0 _ _ rfl
      have e7 : qc9 = qc := by omega
      subst e7
      exact ⟨qc9, f0, s0, t0, rfl, hGo_put h100 hi hw hnew h8 g⟩
set_option maxHeartbeats 2000000 in
theorem s_pcX {pc : Nat} {lo : List (Nat × BV)} {v a : BV} {st : List BV} {F : FS} {rw0 : Option (Nat × Nat)} {nc ns i kd ci k : Nat} {z : Int} {y : Bool × Option Nat × KD} {S' : SB} {len : Nat} (X : Cx OW2 (EWX xs) D cy I0.2.2 M own p R s m args meth c A rm cb sb) (h : f_hst T2 RB2 M wr (pc, lo, v :: a :: st, F, rw0, nc, ns) (.putfield i) len = some S') (hd : decode (mC M) pc = .ok (.putfield i, len))
    (hr0 : e_res RB2 (mO M) i = some (kd, ci, 0, z)) (hv0 : h_pn 51 (some v) = some k) (hk0 : f_kd T2 F.2.1 a = some (64, y))
    (kk : Sf T2 FPX D cy I0 ks0 wp0 wr M p l e R s m args below meth c A Q cb sb (S'.1, S'.2.1, S'.2.2.1, (S'.2.2.2.1.1, S'.2.2.2.1.2.1, S'.2.2.2.1.2.2.1, F.2.2.2.filter (h_keepC k) ++ S'.2.2.2.1.2.2.2), S'.2.2.2.2)) : Sf T2 FPX D cy I0 ks0 wp0 wr M p l e R s m args below meth c A Q cb sb (pc, lo, v :: a :: st, F, rw0, nc, ns) := by
  obtain ⟨x1, x2, x3, x4, x5, x6, x7, x8, x9, x10, x11⟩ := X
  intro I H locs ls lv vs ks wp raw a1 a2 a3 a4 a5 a6 a7 a8 a9 a10
  simp only at a2 a3 a4 a5 hd ⊢
  have hlk : ∀ {kd ci kf : Nat} {z : Int} {i : Nat} {r : vw_C}, kd ≤ 1 → e_res RB2 (mO M) i = some (kd, ci, kf, z) → vwCl[ci]? = some r → kf < r.2.2 ∧ ((Cond.fieldLink own i (r.2.1 kf).1 (r.2.1 kf).2.1 (r.2.1 kf).2.2.1).before args s = true ∨ ∃ host, (Cond.fieldLinkNest own i (r.2.1 kf).1 (r.2.1 kf).2.1 (r.2.1 kf).2.2.1 host).before args s = true) := by
    intro kd ci kf z i r hkd hr hc
    have hro := (res_ok pok2 x4 hr).1
    rcases (show kd = 0 ∨ kd = 1 by omega) with rfl | rfl
    · obtain ⟨r', r1, r2, r3⟩ := hro
      rw [hc] at r1
      cases r1
      exact ⟨r2, Or.inl (x6 _ r3)⟩
    · obtain ⟨r', host, r1, r2, r3⟩ := hro
      rw [hc] at r1
      cases r1
      exact ⟨r2, Or.inr ⟨host, va_Nw.use rfl (x7.2.1 _ r3)⟩⟩
  have hcls : ∀ {kd ci kf : Nat} {z : Int} {i : Nat}, kd ≤ 1 → e_res RB2 (mO M) i = some (kd, ci, kf, z) → ∃ r : vw_C, vwCl[ci]? = some r := by
    intro kd ci kf z i hkd hr
    have hro := (res_ok pok2 x4 hr).1
    rcases (show kd = 0 ∨ kd = 1 by omega) with rfl | rfl
    · obtain ⟨r', r1, -⟩ := hro; exact ⟨r', r1⟩
    · obtain ⟨r', host, r1, -⟩ := hro; exact ⟨r', r1⟩
  unfold f_hst at h
  simp only at h
  obtain ⟨nn, nm, d⟩ := y
  rw [hr0] at h
  simp only at h
  rw [hk0] at h
  split at h
  · rename_i κ9 nn9 nm9 ci' tys hkd
    cases hkd
    split at h
    · rename_i t hty
      split at h
      · rename_i q
        simp only [Bool.and_eq_true] at q
        obtain ⟨q1, q2, q3, q4, q5, q6, q7⟩ := q
        have q1 := Nat.le_of_ble_eq_true q1
        have q2 := Nat.eq_of_beq_eq_true q2
        have q3 := Nat.eq_of_beq_eq_true q3
        subst q2
        subst q3
        cases h
        obtain ⟨v0, vs1, rfl, g1, g2⟩ := hvs_cons a3
        obtain ⟨v1, vs2, rfl, g3, g4⟩ := hvs_cons g2
        obtain ⟨qa, i0, e0, rfl, hki, hwi, hty0, hT, rfl⟩ := kd_ok a4 g3 hk0
        obtain ⟨vs0, rfl, hlen⟩ := hty0.1
        obtain ⟨r, hr1⟩ := hcls q1 hr0
        obtain ⟨hk2, hlink⟩ := hlk q1 hr0 hr1
        have hft := f_fit_ok a4.2.1 g1 q4
        obtain ⟨f1, f2⟩ := f_fits_ok a4.2.1 g1 q5
        obtain ⟨hkl, hty1⟩ := ktyped_put hty0 hty hft
        have hne : ∀ j, j ≠ 0 → cval (.inr (ci, vs0.set 0 v0)) j = cval (.inr (ci, vs0)) j := by
          intro j hj
          simp only [cval]
          rw [List.getElem?_set, if_neg (fun h => hj h.symm)]
        have hvz : cval (.inr (ci, vs0.set 0 v0)) 0 = some v0 := by
          simp only [cval]
          rw [List.getElem?_set, if_pos rfl, if_pos hkl]
        have hpn := Option.some.inj (h_pn_ok hv0)
        subst hpn
        obtain ⟨qc, rfl, n1, n2⟩ := hv_rn g1
        refine b_put x1 x2 x6 x5 x7 a6 a7 a8 (wr_at hwi) hr1 hk2 hkl f1 f2 (f_plainF_ok q6 hr1).2 hlink hd (fun H1 locs1 w1 w2 w3 => ?_)
        rw [wr_set hwi] at w1 w2
        exact kk I H1 locs1 ls lv _ ks _ raw a1 a2 g4 (hs_more (store_ok (p := bI ((0 : Nat) : Int)) fpok2 suok2 a4 hki hwi g3 rfl hvz g1 hne hT hty1) (keepK_ok a4 hki hwi n1 hvz hne)) a5 w1 w2 w3 a9 (a10.set hki hwi hne (f_wr_ok q7 (Nat.le_refl _) (Nat.le_refl _)))
      · cases h
    · cases h
  · cases h
theorem s_pc {S : SB} {x : List SB} {ins : Instr} {len : Nat} (X : Cx OW2 (EWX xs) D cy I0.2.2 M own p R s m args meth c A rm cb sb) (h : ox_pc M wr S ins len = some x) (hd : decode (mC M) S.1 = .ok (ins, len))
    (k : ∀ S' ∈ x, Sf T2 FPX D cy I0 ks0 wp0 wr M p l e R s m args below meth c A Q cb sb S') : Sf T2 FPX D cy I0 ks0 wp0 wr M p l e R s m args below meth c A Q cb sb S := by
  obtain ⟨pc, lo, st, F, rw0, nc, ns⟩ := S
  unfold ox_pc at h
  simp only at h hd
  split at h
  · rename_i i v a st0
    split at h
    · rename_i S' hS'
      split at h
      · rename_i kd ci kf z k0 κ y h1 h2 h3
        split at h
        · rename_i q1
          simp only [Bool.and_eq_true] at q1
          have e1 := beq3 q1.1
          have e2 := beq3 q1.2
          subst e1
          subst e2
          cases h
          exact s_pcX X hS' hd h1 h2 h3 (k _ List.mem_cons_self)
        · cases h
          exact s_hst fpok2 suok2 pok2 X hS' hd (k _ List.mem_cons_self)
      · cases h
        exact s_hst fpok2 suok2 pok2 X hS' hd (k _ List.mem_cons_self)
    · cases h
  · cases h
end PC1
/-- all steps outside, of the specs -/
def OXR (M : MT) (wr : WR) (rm : RMt) (S : SB) (ins : Instr) (len : Nat) : Option (List SB) := match ins with
  | .invokevirtual _ => (match ox_slot M rm S ins len with
    | some x => some x
    | none => OXF M wr rm S ins len)
  | .putfield _ => ox_pc M wr S ins len
  | _ => OXF M wr rm S ins len
theorem oxrok {IX : IN → Prop} {xs : Nat → Int32} {D : va_G} {cy : Nat → ClassId} {l : Launch} : OXOK IX T2 FPX OW2 (EWX xs) D cy l OXR := by
  intro M wr rm S ins len x h I0 ks0 wp0 own p e R s m args below meth c A Q cb sb hI X hd k
  unfold OXR at h
  split at h
  · split at h
    · rename_i x9 h9
      cases h
      exact s_slot X h9 hd k
    · exact oxok (IX := IX) M wr rm S _ len x h I0 ks0 wp0 own p e R s m args below meth c A Q cb sb hI X hd k
  · exact s_pc X h hd k
  · exact oxok (IX := IX) M wr rm S _ len x h I0 ks0 wp0 own p e R s m args below meth c A Q cb sb hI X hd k
