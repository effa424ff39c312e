/-! calls, and the soundness of the run -/
def HKOK (T : TBt) (FP : Nat → CUt → List Int → Prop) (cy : Nat → ClassId) (hk : Nat → SB → Option (List FS)) : Prop := ∀ (h : Nat) (S : SB) (L : List FS), hk h S = some L → ∀ (I : IN) (ks : List Nat) (wp : va_W) (lv : List (Nat × Value)) (vs : List Value), hap wp → hlv I S.2.1 lv → hvs I S.2.2.1 vs → HS T FP cy I ks wp S.2.2.2.1 → ∃ F ∈ L, ∃ J : IN, hxt I J ∧ J.2 = I.2 ∧ HS T FP cy J ks wp F
def OXOK (IX : IN → Prop) (T : TBt) (FP : Nat → CUt → List Int → Prop) (OW : List String) (EW : EWt) (D : va_G) (cy : Nat → ClassId) (l : Launch) (ox : MT → WR → RMt → SB → Instr → Nat → Option (List SB)) : Prop := ∀ (M : MT) (wr : WR) (rm : RMt) (S : SB) (ins : Instr) (len : Nat) (x : List SB), ox M wr rm S ins len = some x →
  ∀ (I0 : IN) (ks0 : List Nat) (wp0 : va_W) (own : String) (p : Program) (e : Env) (R : Room) (s : State) (m : MethodId) (args : Array Value) (below : List Frame) (meth : Method) (c : Code) (A : Nat → Prop) (Q : State → Prop) (cb sb : Nat), IX I0 → Cx OW EW D cy I0.2.2 M own p R s m args meth c A rm cb sb → decode (mC M) S.1 = .ok (ins, len) →
  (∀ S' ∈ x, Sf T FP D cy I0 ks0 wp0 wr M p l e R s m args below meth c A Q cb sb S') → Sf T FP D cy I0 ks0 wp0 wr M p l e R s m args below meth c A Q cb sb S
/-- a spec is a contract -/
def SPOK (T : TBt) (FP : Nat → CUt → List Int → Prop) (EW : EWt) (D : va_G) (cy : Nat → ClassId) (l : Launch) (P : List MT) (sp : SPt) : Prop := ∀ M' : MT, P[pM sp]? = some M' → ∀ (I : IN) (ks : List Nat) (wp : va_W) (vs : List Value) (sz : Nat), HS T FP cy I ks wp (pF sp) → hvs I (pA sp) vs →
  Met l (mY M') (mW M') (rmR (pR sp)) (PJ2 D cy EW I.2.2 wp vs sz) (QJ2 T FP D cy I ks wp (pW sp) (pO sp) (va_A wp sz) (mR M')) (pR sp).2.1 (pR sp).2.2.1 (va_A wp sz)
def CutOK (T : TBt) (FP : Nat → CUt → List Int → Prop) (D : va_G) (cy : Nat → ClassId) (np : Nat) (m0 : Option MEt) (I0 : IN) (ks0 : List Nat) (wp0 : va_W) (wr : WR) (M : MT) (p : Program) (l : Launch) (e : Env) (R : Room) (s : State) (m : MethodId) (args : Array Value) (below : List Frame) (meth : Method) (c : Code) (A : Nat → Prop) (Q : State → Prop) (cb sb : Nat) (cuts : List CUt') : Prop :=
  ∀ ct ∈ cuts, ∀ (I : IN) (H : Heap) (locs : List Loc) (ls : Array Slot) (lv : List (Nat × Value)) (vs : List Value) (ks : List Nat) (wp : va_W), (∀ k, k < np → I.1[k]? = I0.1[k]?) → I.2.2 = I0.2.2 → (∃ m2, I.2.1 = I0.2.1 ++ m2) → lv_has ls (mL M) lv → hlv I ct.2.1 lv → hvs I ct.2.2.1 vs → HS T FP cy I ks wp ct.2.2.2.1 → va_P D vwCl wp H → va_D A wp → va_S A s.heap H locs → Unch wr ks0 wp0 ks wp →
    (∀ mm, m0 = some mm → m_et I.1 ct.2.2.2.2.2.1 ct.2.2.2.2.2.2 < m_et I0.1 mm.1 mm.2) → W p l e R s m args below meth c H locs (cb + ct.2.2.2.2.1.1) (sb + ct.2.2.2.2.1.2) Q (F0 m ct.1 ls vs)
section BSOUND
variable {T : TBt} {FP : Nat → CUt → List Int → Prop} {OW : List String} {EW : EWt} {D : va_G} {cy : Nat → ClassId} {P : List MT} {RT : List (List (Nat × RES))} {l : Launch}
set_option maxHeartbeats 1000000 in
/-- a call: its words, and its run out of its contract -/
theorem s_runs {I0 I : IN} {M M' : MT} {own : String} {p : Program} {e : Env} {R : Room} {s : State} {m : MethodId} {args : Array Value} {below : List Frame} {meth : Method} {c : Code} {A : Nat → Prop} {rm : RMt} {cb sb : Nat} {S : SB} {ins : Instr} {len j : Nat} {as rest : List BV} {H : Heap} {locs : List Loc} {ls : Array Slot} {lv : List (Nat × Value)} {vs : List Value} {ks : List Nat} {wp : va_W}
    (hP : POK2 P RT OW) (hEW : EWOK EW) (X : Cx OW EW D cy I0.2.2 M own p R s m args meth c A rm cb sb) (h : f_call T P RT M S ins len = some (j, M', as, rest)) (hd : decode (mC M) S.1 = .ok (ins, len))
    (a1 : lv_has ls (mL M) lv) (a3 : hvs I S.2.2.1 vs) (a4 : HS T FP cy I ks wp S.2.2.2.1) (a6 : va_P D vwCl wp H) (a7 : va_D A wp) (a8 : va_S A s.heap H locs) :
    ∃ vas vr, hvs I as vas ∧ hvs I rest vr ∧ P[j]? = some M' ∧ MOK M' ∧ TOK OW M' ∧ OW[mO M']? = some (mY M').cls ∧ f_ctg as ≤ mL M' ∧ S.2.2.2.2.1.isNone = true ∧
      ∀ (rm' : RMt) (Qc : Array Value → State → Outcome → State → Prop) (cells slots : Nat), Met l (mY M') (mW M') (rmR rm') (PJ2 D cy EW I0.2.2 wp vas H.size) Qc rm'.2.1 rm'.2.2.1 (va_A wp H.size) →
        rm'.1 + 1 ≤ R.frames → 8 + (mL M' + 11) + rm'.2.2.2 ≤ R.locals → cells + rm'.2.1 ≤ R.cells → slots + rm'.2.2.1 ≤ R.slots →
        va_Run p l e R s m args below meth c H locs cells slots rm'.2.1 rm'.2.2.1 (F0 m S.1 ls vs) vr (Qc vas.toArray) (va_A wp H.size) := by
  obtain ⟨pc, lo, st, F, rw0, nc, ns⟩ := S
  unfold f_call at h
  simp only at h a3 a4 hd ⊢
  split at h
  · rename_i kd i hki
    split at h
    · rename_i rk j0 z1 z2 hr
      split at h
      · rename_i M0 hj
        split at h
        · rename_i as0 rest0 htk
          split at h
          · rename_i as1 rest1 hrec
            split at h
            · rename_i q
              simp only [Bool.and_eq_true, Bool.or_eq_true] at q
              obtain ⟨q1, q2, q3, q4, q5, q6⟩ := q
              have q2 := beq3 q2
              have q3 := beq3 q3
              have q5 := Nat.le_of_ble_eq_true q5
              have q6 := Nat.le_of_ble_eq_true q6
              cases h
              subst q3
              obtain ⟨mok, tok, ow⟩ := hP.1 _ _ hj
              have hro := (res_ok hP X.2.2.2.1 hr).1
              obtain ⟨vas, vr0, rfl, hlen, g1, g2⟩ := f_take_ok _ htk a3 (show hvs I [] [] from trivial)
              rw [List.append_nil] at g1
              have cb9 : ∀ w, w ∈ BIG → w.before args s = true := X.2.2.2.2.2.1
              have fix : CallFix p m c (mC M) (mL M) s args BIG own := ⟨X.1, X.2.1, X.2.2.1, X.2.2.2.2.1, cb9⟩
              have hlk : (Cond.methodLink own i (mY M') ∈ BIG) ∨ ∃ host, Cond.methodLinkNest own i (mY M') host ∈ NST := by
                rcases q1 with q1 | q1
                · have q1 := beq3 q1
                  subst q1
                  obtain ⟨M1, h1, h2⟩ := hro
                  rw [hj] at h1
                  cases h1
                  exact Or.inl h2
                · have q1 := beq3 q1
                  subst q1
                  obtain ⟨M1, host, h1, h2⟩ := hro
                  rw [hj] at h1
                  cases h1
                  exact Or.inr ⟨host, h2⟩
              have hKK : KK D cy s := X.2.2.2.2.2.2.1
              have hA : ∀ q, s.heap.size ≤ q → A q := X.2.2.2.2.2.2.2.1
              have hF : ∀ q, va_A wp H.size q → A q := by
                intro q hq
                rcases hq with ⟨kq, eq, h1⟩ | h1
                · exact a7.2 _ _ h1
                · exact hA q (Nat.le_trans a8.1 h1)
              have pre : ∀ (vals : List Value) (U : State), U.heap = H → s.WarmedH U.vm → PJ2 D cy EW I0.2.2 wp vals H.size vals.toArray U := fun vals U hU hW => ⟨rfl, by rw [hU], by rw [hU]; exact a6, KK.warm hW hKK, a7.weaken (fun _ _ _ _ => trivial), hEW.1 _ A _ s U locs H X.2.2.2.2.2.2.2.2.2.1 hW hU a8 hF⟩
              split at hki
              · -- static
                cases hki
                rw [if_pos (show Nat.beq 0 0 = true from rfl)] at hrec
                cases hrec
                refine ⟨vas.reverse, vr0, g1, g2, hj, mok, tok, ow, q6, q4, fun rm' Qc cells slots met r1 r2 r3 r4 => ?_⟩
                have hstk : (F0 m pc ls (vas ++ vr0)).stack = (vas.reverse).reverse ++ vr0 := by rw [List.reverse_reverse]
                have hW9 := lv_room (m := m) (pc := pc) (ls := ls) (rest := vas ++ vr0) (st := vr0) (by rw [f_ctg_ok g2]; exact q5)
                have hst := mok.2.2.2.2.2.1 q2
                rcases hlk with hl | ⟨host, hl⟩
                · exact va_runS fix met ⟨callB_of (mA M') cb9 (mW_good mok) rfl rfl rfl (cb9 _ mok.2.2.1) (cb9 _ hl) ⟨mok.2.2.2.1.1, mok.2.2.2.1.2, mok.2.2.2.2.1⟩ ⟨r1, r2⟩, cb9 _ hst⟩ ⟨pj2_blind hEW, fun U hU hW => pre _ U hU hW⟩ rfl (by rw [List.length_reverse]; exact hlen) a1.1 hstk hW9 hd ⟨r3, r4⟩
                · exact va_runSN fix met ⟨va_cnB (mA M') cb9 (mW_good mok) rfl rfl rfl (hKK.2.1 _ hl) (cb9 _ mok.2.2.1) ⟨mok.2.2.2.1.1, mok.2.2.2.1.2, mok.2.2.2.2.1⟩ ⟨r1, r2⟩, cb9 _ hst, trivial⟩ ⟨pj2_blind hEW, fun U hU hW => pre _ U hU hW⟩ rfl (by rw [List.length_reverse]; exact hlen) a1.1 hstk hW9 hd ⟨r3, r4⟩
              · -- of an object
                cases hki
                rw [if_neg (by decide)] at hrec
                split at hrec
                · rename_i r0 rest2
                  split at hrec
                  · rename_i κ nn nm ci tys hci
                    split at hrec
                    · rename_i hci2
                      have hci2 := beq3 hci2
                      cases hrec
                      obtain ⟨v, vr, rfl, g3, g4⟩ := hvs_cons g2
                      obtain ⟨qa, ix, e9, rfl, k1, k2, k3, k4, k5⟩ := kd_ok a4 g3 hci
                      refine ⟨.ref qa :: vas.reverse, vr, ⟨g3, g1⟩, g4, hj, mok, tok, ow, q6, q4, fun rm' Qc cells slots met r1 r2 r3 r4 => ?_⟩
                      have hstk : (F0 m pc ls (vas ++ .ref qa :: vr)).stack = (vas.reverse).reverse ++ .ref qa :: vr := by rw [List.reverse_reverse]
                      have hW9 := lv_room (m := m) (pc := pc) (ls := ls) (rest := vas ++ .ref qa :: vr) (st := vr) (by rw [f_ctg_ok g4]; exact q5)
                      obtain ⟨i1, i2, r, y1, y2⟩ := mok.2.2.2.2.2.2.1 q2
                      obtain ⟨fvs, rfl, -⟩ := k3.1
                      rw [← hci2] at y1
                      have hrecv := va_recv hKK.1 a6 y1 k2
                      rw [y2] at hrecv
                      rcases hlk with hl | ⟨host, hl⟩
                      · exact va_runV (C := (mY M').cls) fix met ⟨callB_of (mA M') cb9 (mW_good mok) rfl rfl rfl (cb9 _ mok.2.2.1) (cb9 _ hl) ⟨mok.2.2.2.1.1, mok.2.2.2.1.2, mok.2.2.2.2.1⟩ ⟨r1, r2⟩, cb9 _ i1, cb9 _ i2⟩ ⟨pj2_blind hEW, hrecv, fun U hU hW => pre _ U hU hW⟩ rfl (by rw [List.length_reverse]; exact hlen) a1.1 hstk hW9 hd ⟨r3, r4⟩
                      · exact va_runVN (C := (mY M').cls) fix met ⟨va_cnB (mA M') cb9 (mW_good mok) rfl rfl rfl (hKK.2.1 _ hl) (cb9 _ mok.2.2.1) ⟨mok.2.2.2.1.1, mok.2.2.2.1.2, mok.2.2.2.2.1⟩ ⟨r1, r2⟩, cb9 _ i1, cb9 _ i2⟩ ⟨pj2_blind hEW, hrecv, fun U hU hW => pre _ U hU hW⟩ rfl (by rw [List.length_reverse]; exact hlen) a1.1 hstk hW9 hd ⟨r3, r4⟩
                    · cases hrec
                  · cases hrec
                · cases hrec
              · cases hki
            · cases h
          · cases h
        · cases h
      · cases h
    · cases h
  · cases h
theorem g_try_ok {G : GT} {lim : Nat} {wr : WR} {rm : RMt} {S : SB} {M' : MT} {j : Nat} {as : List BV} {sp : SPt} {σ : List BV} : ∀ {cs : List Nat}, g_try G lim wr rm S M' j as cs = some (sp, σ) → ∃ i, i < lim ∧ G.2.2.2.2.1[i]? = some sp ∧ pM sp = j ∧ (pR sp).1 + 1 ≤ rm.1 ∧ 19 + mL M' + (pR sp).2.2.2 ≤ rm.2.2.2 ∧ S.2.2.2.2.2.1 + (pR sp).2.1 ≤ rm.2.1 ∧ S.2.2.2.2.2.2 + (pR sp).2.2.1 ≤ rm.2.2.1 ∧ ((pW sp).all (fun w => f_wr wr w.1 w.2.1 w.2.2)) = true ∧ g_all 0 S.2.2.2.1 [] as (pF sp) [] (pA sp) σ = true := by
  intro cs
  induction cs with
  | nil => intro h; simp only [g_try] at h; cases h
  | cons i r ih =>
    intro h
    simp only [g_try] at h
    split at h
    · rename_i sp0 hsp
      split at h
      · rename_i q
        simp only [Bool.and_eq_true] at q
        obtain ⟨q1, q2, q3, q4, q5, q6, q7, q8⟩ := q
        cases h
        exact ⟨i, Nat.le_of_ble_eq_true q1, hsp, beq3 q2, Nat.le_of_ble_eq_true q3, Nat.le_of_ble_eq_true q4, Nat.le_of_ble_eq_true q5, Nat.le_of_ble_eq_true q6, q7, q8⟩
      · exact ih h
    · exact ih h
theorem g_cat_ok {α : Type} {f : α → Option (List OUB)} : ∀ {x : List α} {outs : List OUB}, g_cat f x = some outs → ∀ S ∈ x, ∃ o1, f S = some o1 ∧ ∀ o ∈ o1, o ∈ outs := by
  intro x
  induction x with
  | nil => intro outs _ S h; cases h
  | cons S0 r ih =>
    intro outs h S hS
    simp only [g_cat] at h
    split at h
    · rename_i a ha
      split at h
      · rename_i q hq
        cases h
        rcases List.mem_cons.mp hS with rfl | hS
        · exact ⟨a, ha, fun o ho => List.mem_append_left _ ho⟩
        · obtain ⟨o1, h1, h2⟩ := ih hq S hS
          exact ⟨o1, h1, fun o ho => List.mem_append_right _ (h2 o ho)⟩
      · cases h
    · cases h
theorem g_cats_ok {f : OUB → Option (List (Option BV × FS))} : ∀ {x : List OUB} {outs : List (Option BV × FS)}, g_cats f x = some outs → ∀ S ∈ x, ∃ o1, f S = some o1 ∧ ∀ o ∈ o1, o ∈ outs := by
  intro x
  induction x with
  | nil => intro outs _ S h; cases h
  | cons S0 r ih =>
    intro outs h S hS
    simp only [g_cats] at h
    split at h
    · rename_i a ha
      split at h
      · rename_i q hq
        cases h
        rcases List.mem_cons.mp hS with rfl | hS
        · exact ⟨a, ha, fun o ho => List.mem_append_left _ ho⟩
        · obtain ⟨o1, h1, h2⟩ := ih hq S hS
          exact ⟨o1, h1, fun o ho => List.mem_append_right _ (h2 o ho)⟩
      · cases h
    · cases h
/-- a state at a cut -/
theorem s_cut {I0 : IN} {ks0 : List Nat} {wp0 : va_W} {wr : WR} {M : MT} {p : Program} {e : Env} {R : Room} {s : State} {m : MethodId} {args : Array Value} {below : List Frame} {meth : Method} {c : Code} {A : Nat → Prop} {Q : State → Prop} {cb sb np : Nat} {m0 : Option MEt} {cuts : List CUt'} {S : SB}
    (h0 : FP0 FP) (hnp : np ≤ I0.1.length) (hm0 : ∀ mm, m0 = some mm → ∀ J : IN, hxt I0 J → m_et J.1 mm.1 mm.2 = m_et I0.1 mm.1 mm.2) (h : cuts.any (g_cut np m0 S) = true)
    (hc : CutOK T FP D cy np m0 I0 ks0 wp0 wr M p l e R s m args below meth c A Q cb sb cuts) : Sf T FP D cy I0 ks0 wp0 wr M p l e R s m args below meth c A Q cb sb S := by
  obtain ⟨ct, hct, hg⟩ := List.any_eq_true.mp h
  obtain ⟨pc, lo, st, F, rw0, nc, ns⟩ := S
  obtain ⟨pc', lo', st', F', ⟨nc', ns'⟩, mm⟩ := ct
  intro I H locs ls lv vs ks wp raw a1 a2 a3 a4 a5 a6 a7 a8 a9 a10
  unfold g_cut at hg
  simp only at hg a2 a3 a4 a5 ⊢
  split at hg
  · rename_i hpc
    have hpc := beq3 hpc
    subst hpc
    simp only [Bool.and_eq_true] at hg
    obtain ⟨g1, g2, g3, g4, g5⟩ := hg
    have g2 := Nat.le_of_ble_eq_true g2
    have g3 := Nat.le_of_ble_eq_true g3
    have e9 := hraw_none g4 a5
    subst e9
    rw [List.append_nil] at a6 a7
    obtain ⟨zs, z1, z2, z3, ⟨lv', z4, z5⟩, z6⟩ := g_all_ok h0 a4 a1 a2 a3 g1
    refine W.widen (k := cb + nc') (n := sb + ns') (by omega) (by omega) ?_
    refine hc _ hct (zs, I.2) H locs ls lv' vs ks wp (fun k hk => ?_) a9.2.2 a9.2.1 z4 z5 z6 z3 a6 a7 a8 a10 (fun mx hmx => ?_)
    · obtain ⟨y, y1, y2⟩ := z2 k hk
      show zs[k]? = I0.1[k]?
      rw [y1]
      have hl : k < I0.1.length := by omega
      have h3 := a9.at (List.getElem?_eq_getElem hl)
      rw [y2] at h3
      rw [h3]
      exact (List.getElem?_eq_getElem hl).symm
    · have h3 := g_meas_ok h0 a4.2.1 a4.2.2.2 z1 g5 mx hmx
      rw [hm0 mx hmx I a9] at h3
      exact h3
  · cases hg
set_option maxHeartbeats 2000000 in
theorem f_sound {IX : IN → Prop} {G : GT} {lim np : Nat} {m0 : Option MEt} {cuts : List CUt'} {marks : List (Nat × Nat × Nat)} {cls : List (Nat × List Nat)} {wr : WR} (hP : POK2 G.2.1 G.2.2.1 OW) (hEW : EWOK EW) (h0 : FP0 FP) (hFP : FPOK G.1 FP) (hSU : SUOK G.1) (hHK : HKOK G.1 FP cy G.2.2.2.2.2.1) (hIX : ∀ I J : IN, hxt I J → IX I → IX J) (hOX : OXOK IX G.1 FP OW EW D cy l G.2.2.2.2.2.2)
    (hSP : ∀ (i : Nat) (sp : SPt), i < lim → G.2.2.2.2.1[i]? = some sp → SPOK G.1 FP EW D cy l G.2.1 sp) : ∀ (fuel : Nat) (tp : Bool) (sk : Nat) (rm : RMt) (M : MT) (suf : List INS) (S : SB) (outs : List OUB), f_run G lim wr np m0 cuts marks cls fuel tp sk rm M suf S = some outs → (∀ q ∈ suf, decode (mC M) q.1 = .ok (q.2.2.1, q.2.2.2)) →
    ∀ (I0 : IN) (ks0 : List Nat) (wp0 : va_W) (own : String) (p : Program) (e : Env) (R : Room) (s : State) (m : MethodId) (args : Array Value) (below : List Frame) (meth : Method) (c : Code) (A : Nat → Prop) (Q : State → Prop) (cb sb : Nat), IX I0 → Cx OW EW D cy I0.2.2 M own p R s m args meth c A rm cb sb →
      RetOK2 G.1 FP D cy I0 ks0 wp0 wr M p l e R s m args below meth c A Q rm cb sb outs →
      (tp = true → np ≤ I0.1.length ∧ (∀ mm, m0 = some mm → ∀ J : IN, hxt I0 J → m_et J.1 mm.1 mm.2 = m_et I0.1 mm.1 mm.2) ∧ CutOK G.1 FP D cy np m0 I0 ks0 wp0 wr M p l e R s m args below meth c A Q cb sb cuts) →
      Sf G.1 FP D cy I0 ks0 wp0 wr M p l e R s m args below meth c A Q cb sb S := by
  intro fuel
  induction fuel with
  | zero => intro tp sk rm M suf S outs h; cases h
  | succ fuel ih =>
    intro tp sk rm M suf S outs h hsuf I0 ks0 wp0 own p e R s m args below meth c A Q cb sb hI0 X hR hcut
    cases suf with
    | nil => simp only [f_run] at h; cases h
    | cons q tl =>
      obtain ⟨pc, tag, ins, len⟩ := q
      simp only [f_run] at h
      split at h
      · rename_i hpc
        have hpc := beq3 hpc
        have hd0 : decode (mC M) pc = .ok (ins, len) := hsuf (pc, tag, ins, len) List.mem_cons_self
        have hd : decode (mC M) S.1 = .ok (ins, len) := by rw [hpc] at hd0; exact hd0
        have hM : ∀ q ∈ mT M, decode (mC M) q.1 = .ok (q.2.2.1, q.2.2.2) := X.2.2.2.2.2.2.2.2.1.1
        have htl : ∀ q ∈ tl, decode (mC M) q.1 = .ok (q.2.2.1, q.2.2.2) := fun q hq => hsuf q (List.mem_cons_of_mem _ hq)
        have go : ∀ S' pc' outs', f_run G lim wr np m0 cuts marks cls fuel tp 0 rm M (e_next M tl pc') S' = some outs' → (∀ o ∈ outs', o ∈ outs) → Sf G.1 FP D cy I0 ks0 wp0 wr M p l e R s m args below meth c A Q cb sb S' := by
          intro S' pc' outs' h1 h2
          exact ih tp 0 rm M _ S' outs' h1 (e_next_in hM htl) I0 ks0 wp0 own p e R s m args below meth c A Q cb sb hI0 X (fun o ho => hR o (h2 o ho)) hcut
        split at h
        · -- a cut
          rename_i z9 hmk
          split at h
          · rename_i hany
            have htp : tp = true := by
              cases tp with
              | true => rfl
              | false => cases hmk
            obtain ⟨c1, c2, c3⟩ := hcut htp
            exact s_cut h0 c1 c2 hany c3
          · cases h
        · -- a hook
          rename_i k9 hk _ hmk
          split at h
          · rename_i L hL
            intro I H locs ls lv vs ks wp raw a1 a2 a3 a4 a5 a6 a7 a8 a9 a10
            obtain ⟨F', hF', J, j1, j2, j3⟩ := hHK hk S L hL I ks wp lv vs (hap_of a7) a2 a3 a4
            obtain ⟨o1, h2, h3⟩ := g_cat_ok h F' hF'
            refine ih tp (sk + 1) rm M _ _ o1 h2 hsuf I0 ks0 wp0 own p e R s m args below meth c A Q cb sb hI0 X (fun o ho => hR o (h3 o ho)) hcut J H locs ls lv vs ks wp raw a1 (a2.xt j1) (a3.xt j1) j3 (a5.xt j1) a6 a7 a8 (a9.tr j1) a10
          · cases h
        · split at h
          · split at h
            · rename_i S' h1
              exact s_mov X h1 hd (go S' S'.1 outs h (fun _ h => h))
            · cases h
          · split at h
            · rename_i x h1
              refine s_bst h0 X h1 hd (fun S' hS' => ?_)
              obtain ⟨o1, h2, h3⟩ := g_cat_ok h S' hS'
              exact go S' S'.1 o1 h2 h3
            · cases h
          · split at h
            · rename_i S' h1
              exact s_hst hFP hSU hP X h1 hd (go S' S'.1 outs h (fun _ h => h))
            · cases h
          · split at h
            · rename_i x h1
              refine s_ari X h1 hd (fun S' hS' => ?_)
              obtain ⟨o1, h2, h3⟩ := g_cat_ok h S' hS'
              exact go S' S'.1 o1 h2 h3
            · cases h
          · -- a call
            split at h
            · rename_i j M' as rest h1
              intro I H locs ls lv vs ks wp raw a1 a2 a3 a4 a5 a6 a7 a8 a9 a10
              have hrw : S.2.2.2.2.1.isNone = true := by
                obtain ⟨pc, lo, st, F, rw0, nc, ns⟩ := S
                unfold f_call at h1
                simp only at h1 ⊢
                split at h1
                · split at h1
                  · split at h1
                    · split at h1
                      · split at h1
                        · split at h1
                          · rename_i q
                            simp only [Bool.and_eq_true] at q
                            exact q.2.2.2.1
                          · cases h1
                        · cases h1
                      · cases h1
                    · cases h1
                  · cases h1
                · cases h1
              have e9 := hraw_none hrw a5
              subst e9
              rw [List.append_nil] at a6 a7
              obtain ⟨vas, vr, b1, b2, b3, mok, tok, ow, b4, -, run⟩ := s_runs hP hEW X h1 hd a1 a3 a4 a6 a7 a8
              have hx10 := X.2.2.2.2.2.2.2.2.2.2
              obtain ⟨x11, x12, x13, x14⟩ := hx10
              have hA : ∀ q, s.heap.size ≤ q → A q := X.2.2.2.2.2.2.2.1
              split at h
              · -- by a contract
                rename_i cs hcs
                split at h
                · rename_i sp σ htry
                  obtain ⟨i, q1, hsp, q2, q3, q4, q5, q6, q7, hall⟩ := g_try_ok htry
                  split at h
                  · rename_i L hL
                    obtain ⟨zs, z1, z2, z3, -, z6⟩ := g_all_ok (lo := []) (lo' := []) (ls := ls) (nL := mL M) (lv := []) h0 a4 ⟨a1.1, a1.2.1, fun _ h => by cases h⟩ trivial b1 hall
                    have hmet := hSP i sp q1 hsp M' (by rw [q2]; exact b3) (zs, I.2) ks wp vas H.size z3 z6
                    have e10 : I.2.2 = I0.2.2 := a9.2.2
                    simp only [e10] at hmet
                    refine s_aft2 hA mok.2.2.2.2.2.2.2.2 (run (pR sp) _ _ _ hmet (by omega) (by omega) (by omega) (by omega)) a7 a8 (fun u r H1 locs1 hpo hrv hP1 hD1 hS1 => ?_)
                    obtain ⟨u1, u2, u3, u4⟩ := hpo
                    obtain ⟨L1, hL1, hL2⟩ := g_cats_ok hL _ u1
                    obtain ⟨qq, hq1, J, hq2, hq3, hq4⟩ := g_aft_ok (u := u) (o := u.2.2.2) hFP hSU a4 z1 z3.2.1.1 u2 u3 u4 hrv hL1
                    obtain ⟨o1, h2, h3⟩ := g_cat_ok h qq (hL2 qq hq1)
                    have hgo := go _ _ o1 h2 h3
                    have hun : Unch wr ks0 wp0 u.2.1 u.2.2.1 := a10.tr u4 (fun κ j hin => by
                      obtain ⟨w, w1, w2, w3, w4⟩ := hin
                      have := List.all_eq_true.mp q7 w w1
                      rw [← w2]
                      exact f_wr_ok this w3 w4)
                    obtain ⟨pc, lo, st, F, rw0, nc, ns⟩ := S
                    obtain ⟨r', F'⟩ := qq
                    have e11 : pc = pc := rfl
                    simp only at hpc
                    subst hpc
                    have := hgo J H1 locs1 ls lv (r.toList ++ vr) u.2.1 u.2.2.1 [] a1 (a2.xt hq2) ?_ hq3 ?_ (by rw [List.append_nil]; exact hP1) (by rw [List.append_nil]; exact hD1) hS1 (a9.tr hq2) hun
                    · simp only [f_aftS, Nat.add_assoc] at this ⊢
                      exact this
                    · simp only [f_aftS]
                      simp only at hq4
                      cases r' with
                      | none => cases r with
                        | none => exact b2.xt hq2
                        | some x => exact absurd hq4 id
                      | some a => cases r with
                        | none => exact absurd hq4 id
                        | some x => exact ⟨hq4, b2.xt hq2⟩
                    · simp only at hrw
                      simp only [f_aftS]
                      cases rw0 with
                      | none => rfl
                      | some x => cases hrw
                  · cases h
                · cases h
              · -- its own walk
                split at h
                · rename_i q
                  simp only [Bool.and_eq_true] at q
                  have q1 := Nat.le_of_ble_eq_true q.1
                  have q2 := Nat.le_of_ble_eq_true q.2.1
                  have q3 := Nat.le_of_ble_eq_true q.2.2.1
                  have q4 := Nat.le_of_ble_eq_true q.2.2.2
                  split at h
                  · rename_i outs2 hrun
                    have hmet := met_of2 (T := G.1) (FP := FP) (D := D) (l := l) (wr := wr) (outs := outs2) (rm' := (rm.1 - 1, 0, 0, rm.2.2.2 - (19 + mL M'))) H.size hEW mok tok ow b1 a4 b4 (fun p' e' s' m' args' below' meth' c' A' Q' X' hR' => ih false 0 _ M' (mT M') _ outs2 hrun X'.2.2.2.2.2.2.2.2.1.1 I ks wp _ p' e' _ s' m' args' below' meth' c' A' Q' 0 0 (hIX _ _ a9 hI0) X' hR' (fun h => by cases h))
                    have e10 : I.2.2 = I0.2.2 := a9.2.2
                    rw [e10] at hmet
                    refine s_aft2 hA mok.2.2.2.2.2.2.2.2 (run _ _ _ _ hmet (by show rm.1 - 1 + 1 ≤ _; omega) (by show 8 + (mL M' + 11) + (rm.2.2.2 - (19 + mL M')) ≤ _; omega) (by show cb + S.2.2.2.2.2.1 + 0 ≤ _; omega) (by show sb + S.2.2.2.2.2.2 + 0 ≤ _; omega)) a7 a8 (fun u r H1 locs1 hpo hrv hP1 hD1 hS1 => ?_)
                    obtain ⟨u1, u2, u3, u4⟩ := hpo
                    obtain ⟨o1, h2, h3⟩ := g_cat_ok h u.2.2.2 u1
                    have hgo := go _ _ o1 h2 h3
                    have hun : Unch wr ks0 wp0 u.2.1 u.2.2.1 := a10.tr u4 (fun _ _ h => h)
                    obtain ⟨Iu, ku, wu, ru, Fu⟩ := u
                    obtain ⟨pc, lo, st, F, rw0, nc, ns⟩ := S
                    simp only at hpc hrv u2 u3 hrw
                    subst hpc
                    have := hgo Iu H1 locs1 ls lv (r.toList ++ vr) ku wu [] a1 (a2.xt u2) ?_ u3 ?_ (by rw [List.append_nil]; exact hP1) (by rw [List.append_nil]; exact hD1) hS1 (a9.tr u2) hun
                    · simp only [f_aftS, Nat.add_assoc] at this ⊢
                      exact this
                    · simp only [f_aftS]
                      cases ru with
                      | none => cases r with
                        | none => exact b2.xt u2
                        | some x => exact absurd hrv id
                      | some a => cases r with
                        | none => exact absurd hrv id
                        | some x => exact ⟨hrv, b2.xt u2⟩
                    · simp only [f_aftS]
                      cases rw0 with
                      | none => rfl
                      | some x => cases hrw
                  · cases h
                · cases h
            · cases h
          · split at h
            · rename_i r h1
              cases h
              exact s_ret2 h1 hd List.mem_cons_self hR
            · cases h
          · split at h
            · rename_i x h1
              refine hOX M wr rm S ins len x h1 I0 ks0 wp0 own p e R s m args below meth c A Q cb sb hI0 X hd (fun S' hS' => ?_)
              obtain ⟨o1, h2, h3⟩ := g_cat_ok h S' hS'
              exact go S' S'.1 o1 h2 h3
            · cases h
      · cases h
end BSOUND
