/-! a call by both contracts: of a method that answers a boolean, of one that answers nothing -/
theorem met_xb {xs : Nat → Int32} {D : va_G} {cy : Nat → ClassId} {l : Launch} {ex : Nat → Nat} {M' : MT} {I : IN} {ks κs : List Nat} {wp : va_W} {wr : WR} {outs : List OUB} {rm : RMt} {Y : ZW} {zs : List ZV} {PO : Option ZV → ZW → Prop} {sz : Nat} (hr : mR M' = some .boolean)
    (h1 : Met l (mY M') (mW M') (rmR rm) (PJ2 D cy (EWX xs) ex wp (zs.map zv) sz) (QJ2 T2 FPX D cy I ks wp wr outs (va_A wp sz) (mR M')) rm.2.1 rm.2.2.1 (va_A wp sz)) (h2 : ZMet (EWX xs) D cy l ex M' rm Y zs PO) (ha : allz cy ks wp κs Y) (hn : κs.Nodup) :
    Met l (mY M') (mW M') (rmR rm) (PJ2 D cy (EWX xs) ex wp (zs.map zv) sz) (va_Qi (XZP cy I ks wp wr outs PO) (XZB D cy (restz κs ks wp) (va_A wp sz)) (va_A wp sz)) rm.2.1 rm.2.2.1 (va_A wp sz) := by
  have h3 := h2 (restz κs ks wp) sz
  rw [hr] at h1 h3
  refine met_post (met_pre (met_and h1 h3) (fun a s hp => ⟨hp, allz_PJr ha hn hp⟩)) (fun a s o t hq => ?_)
  obtain ⟨⟨⟨r, u, e1, p1, b1⟩, f1⟩, ⟨⟨r2, u2, e2, p2, b2⟩, f2⟩⟩ := hq
  rw [e1] at e2
  cases e2
  obtain ⟨z, Y1, g1, rfl, g2⟩ := p2
  exact ⟨⟨r, (u, Y1), e1, ⟨p1, z, g1, g2⟩, ⟨b1, b2.1⟩⟩, f1⟩
def XVP (cy : Nat → ClassId) (I : IN) (ks : List Nat) (wp : va_W) (wr : WR) (outs : List OUB) (PO : Option ZV → ZW → Prop) (u : UQ × ZW) : Prop := (PO2 T2 FPX cy I ks wp wr outs u.1 ∧ u.1.2.2.2.1 = none) ∧ PO none u.2
theorem met_xv {xs : Nat → Int32} {D : va_G} {cy : Nat → ClassId} {l : Launch} {ex : Nat → Nat} {M' : MT} {I : IN} {ks κs : List Nat} {wp : va_W} {wr : WR} {outs : List OUB} {rm : RMt} {Y : ZW} {zs : List ZV} {PO : Option ZV → ZW → Prop} {sz : Nat} (hr : mR M' = none)
    (h1 : Met l (mY M') (mW M') (rmR rm) (PJ2 D cy (EWX xs) ex wp (zs.map zv) sz) (QJ2 T2 FPX D cy I ks wp wr outs (va_A wp sz) (mR M')) rm.2.1 rm.2.2.1 (va_A wp sz)) (h2 : ZMet (EWX xs) D cy l ex M' rm Y zs PO) (ha : allz cy ks wp κs Y) (hn : κs.Nodup) :
    Met l (mY M') (mW M') (rmR rm) (PJ2 D cy (EWX xs) ex wp (zs.map zv) sz) (va_Qv (XVP cy I ks wp wr outs PO) (XZB D cy (restz κs ks wp) (va_A wp sz)) (va_A wp sz)) rm.2.1 rm.2.2.1 (va_A wp sz) := by
  have h3 := h2 (restz κs ks wp) sz
  rw [hr] at h1 h3
  refine met_post (met_pre (met_and h1 h3) (fun a s hp => ⟨hp, allz_PJr ha hn hp⟩)) (fun a s o t hq => ?_)
  obtain ⟨⟨⟨u, e1, p1, b1⟩, f1⟩, ⟨⟨u2, e2, p2, b2⟩, f2⟩⟩ := hq
  obtain ⟨z, Y1, g1, rfl, g2⟩ := p2
  cases z with
  | none => exact ⟨⟨(u, Y1), e1, ⟨p1, g2⟩, ⟨b1, b2.1⟩⟩, f1⟩
  | some z => cases g1
section GC1
variable {xs : Nat → Int32} {D : va_G} {cy : Nat → ClassId} {I0 : IN} {ks0 : List Nat} {wp0 : va_W} {wr : WR} {M M' : MT} {own : String}
variable {p : Program} {l : Launch} {e : Env} {R : Room} {s : State} {m : MethodId} {args : Array Value} {below : List Frame} {meth : Method} {c : Code} {A : Nat → Prop} {Q : State → Prop} {rm : RMt} {cb sb : Nat}
set_option maxHeartbeats 2000000 in
theorem s_xcallB {SP : List SPt} {DM : List (Nat × List Nat)} {lim j : Nat} {S : SB} {ins : Instr} {len : Nat} {as rest : List BV} {cs : List Nat} {sp : SPt} {σ : List BV} {L : List (Option BV × FS)} {I : IN} {H : Heap} {locs : List Loc} {ls : Array Slot} {lv : List (Nat × Value)} {vs : List Value} {ks : List Nat} {wp : va_W}
    {hkx : Nat → SB → Option (List FS)} {oxx : MT → WR → RMt → SB → Instr → Nat → Option (List SB)}
    (hSP : ∀ (i : Nat) (sp : SPt), i < lim → SP[i]? = some sp → SPOK T2 FPX (EWX xs) D cy l PR2 sp) (X : Cx OW2 (EWX xs) D cy I0.2.2 M own p R s m args meth c A rm cb sb)
    (h1 : f_call T2 PR2 RB2 M S ins len = some (j, M', as, rest)) (hd : decode (mC M) S.1 = .ok (ins, len)) (htry : g_try (T2, PR2, RB2, DM, SP, hkx, oxx) lim wr rm S M' j as cs = some (sp, σ)) (hL : g_cats (g_aft T2 sp σ S.2.2.2.1) (pO sp) = some L)
    (a1 : lv_has ls (mL M) lv) (a3 : hvs I S.2.2.1 vs) (a4 : HS T2 FPX cy I ks wp S.2.2.2.1) (a6 : va_P D vwCl wp H) (a7 : va_D A wp) (a8 : va_S A s.heap H locs) (a9 : hxt I0 I) (a10 : Unch wr ks0 wp0 ks wp)
    (zmet : ∀ vas, hvs I as vas → PR2[j]? = some M' → mR M' = some .boolean ∧ ∃ (zs : List ZV) (κs : List Nat) (Y : ZW) (PO : Option ZV → ZW → Prop), vas = zs.map zv ∧ allz cy ks wp κs Y ∧ κs.Nodup ∧ ZMet (EWX xs) D cy l I0.2.2 M' (pR sp) Y zs PO ∧
      XK4 D cy I0 ks0 wp0 wr p l e R s m args below meth c A Q cb sb I ks κs wp (pW sp) rest L (S.2.2.2.2.2.1 + (pR sp).2.1) (S.2.2.2.2.2.2 + (pR sp).2.2.1) S.1 ls PO) :
    W p l e R s m args below meth c H locs (cb + S.2.2.2.2.2.1) (sb + S.2.2.2.2.2.2) Q (F0 m S.1 ls vs) := by
  obtain ⟨vas, vr, b1, b2, b3, mok, tok, ow, b4, -, run⟩ := s_runs pok2 EWX_ok X h1 hd a1 a3 a4 a6 a7 a8
  have hx10 := X.2.2.2.2.2.2.2.2.2.2
  obtain ⟨x11, x12, x13, x14⟩ := hx10
  have hA : ∀ q, s.heap.size ≤ q → A q := X.2.2.2.2.2.2.2.1
  have hF : ∀ q, va_A wp H.size q → A q := by
    intro q hq
    rcases hq with ⟨kq, eq, h1⟩ | h1
    · exact a7.2 _ _ h1
    · exact hA q (Nat.le_trans a8.1 h1)
  obtain ⟨i, q1, hsp, q2, q3, q4, q5, q6, q7, hall⟩ := g_try_ok htry
  obtain ⟨zs, z1, z2, z3, -, z6⟩ := g_all_ok (lo := []) (lo' := []) (ls := ls) (nL := mL M) (lv := []) FPX0 a4 ⟨a1.1, a1.2.1, fun _ h => by cases h⟩ trivial b1 hall
  have hmet := hSP i sp q1 hsp M' (by rw [q2]; exact b3) (zs, I.2) ks wp vas H.size z3 z6
  have e10 : I.2.2 = I0.2.2 := a9.2.2
  simp only [e10] at hmet
  obtain ⟨hr9, zv9, κs, Y, PO, rfl, ha, hn, hz, kk⟩ := zmet vas b1 b3
  have rr := run (pR sp) _ (cb + S.2.2.2.2.2.1) (sb + S.2.2.2.2.2.2) (met_xb hr9 hmet hz ha hn) (by omega) (by omega) (by omega) (by omega)
  refine va_calli (a := (zv9.map zv).toArray) rr a8 (fun q _ hq => hF q hq) hF (fun r u t H1 locs1 ht hvm hw hB hz9 hk hS1 => ?_)
  obtain ⟨⟨⟨u1, u2, u3, u4⟩, a, ea, ga⟩, z, g1, g2⟩ := hw
  obtain ⟨⟨w1, w2⟩, w3⟩ := hB
  have hrv : rvl u.1.1 u.1.2.2.2.1 (some (.int r)) := by rw [ea]; exact ga
  obtain ⟨L1, hL1, hL2⟩ := g_cats_ok hL _ u1
  obtain ⟨qq, hq1, J, hq2, hq3, hq4⟩ := g_aft_ok (u := u.1) (o := u.1.2.2.2) fpok2 suok2 a4 z1 z3.2.1.1 u2 u3 u4 hrv hL1
  have hun : Unch wr ks0 wp0 u.1.2.1 u.1.2.2.1 := a10.tr u4 (fun κ j hin => by
    obtain ⟨w, w1, w2, w3, w4⟩ := hin
    have := List.all_eq_true.mp q7 w w1
    rw [← w2]
    exact f_wr_ok this w3 w4)
  have := kk vr qq r J H1 locs1 u.1.2.1 u.1.2.2.1 z u.2 (b2.xt hq2) (hL2 qq hq1) g1 g2 (by rw [← ht]; exact w3) hq2 hq3 hq4 (by rw [← ht]; exact w1) (w2.weaken (fun _ _ _ hq => hF _ hq)) hS1 (a9.tr hq2) u4 hun
  simp only [Nat.add_assoc] at this ⊢
  exact this
/-- what goes on behind such a call -/
def XV4 (D : va_G) (cy : Nat → ClassId) (I0 : IN) (ks0 : List Nat) (wp0 : va_W) (wr : WR) (p : Program) (l : Launch) (e : Env) (R : Room) (s : State) (m : MethodId) (args : Array Value) (below : List Frame) (meth : Method) (c : Code) (A : Nat → Prop) (Q : State → Prop) (cb sb : Nat) (I : IN) (ks κs : List Nat) (wp : va_W) (wrc : WR) (rest : List BV) (L : List (Option BV × FS)) (nc ns pc : Nat) (ls : Array Slot) (PO : Option ZV → ZW → Prop) : Prop :=
  ∀ (vr : List Value) (q : Option BV × FS) (J : IN) (H1 : Heap) (locs1 : List Loc) (ks1 : List Nat) (wp1 : va_W) (Y1 : ZW), hvs J rest vr → q ∈ L → PO none Y1 → va_P D vwCl (zw cy Y1 ++ restz κs ks wp) H1 → hxt I J → HS T2 FPX cy J ks1 wp1 q.2 → rvl J q.1 none → va_P D vwCl wp1 H1 → va_D A wp1 → va_S A s.heap H1 locs1 → hxt I0 J → Unch wrc ks wp ks1 wp1 → Unch wr ks0 wp0 ks1 wp1 → W p l e R s m args below meth c H1 locs1 (cb + nc) (sb + ns) Q (F0 m (pc + 3) ls vr)
set_option maxHeartbeats 2000000 in
theorem s_xcallV {SP : List SPt} {DM : List (Nat × List Nat)} {lim j : Nat} {S : SB} {ins : Instr} {len : Nat} {as rest : List BV} {cs : List Nat} {sp : SPt} {σ : List BV} {L : List (Option BV × FS)} {I : IN} {H : Heap} {locs : List Loc} {ls : Array Slot} {lv : List (Nat × Value)} {vs : List Value} {ks : List Nat} {wp : va_W}
    {hkx : Nat → SB → Option (List FS)} {oxx : MT → WR → RMt → SB → Instr → Nat → Option (List SB)}
    (hSP : ∀ (i : Nat) (sp : SPt), i < lim → SP[i]? = some sp → SPOK T2 FPX (EWX xs) D cy l PR2 sp) (X : Cx OW2 (EWX xs) D cy I0.2.2 M own p R s m args meth c A rm cb sb)
    (h1 : f_call T2 PR2 RB2 M S ins len = some (j, M', as, rest)) (hd : decode (mC M) S.1 = .ok (ins, len)) (htry : g_try (T2, PR2, RB2, DM, SP, hkx, oxx) lim wr rm S M' j as cs = some (sp, σ)) (hL : g_cats (g_aft T2 sp σ S.2.2.2.1) (pO sp) = some L)
    (a1 : lv_has ls (mL M) lv) (a3 : hvs I S.2.2.1 vs) (a4 : HS T2 FPX cy I ks wp S.2.2.2.1) (a6 : va_P D vwCl wp H) (a7 : va_D A wp) (a8 : va_S A s.heap H locs) (a9 : hxt I0 I) (a10 : Unch wr ks0 wp0 ks wp)
    (zmet : ∀ vas, hvs I as vas → PR2[j]? = some M' → mR M' = none ∧ ∃ (zs : List ZV) (κs : List Nat) (Y : ZW) (PO : Option ZV → ZW → Prop), vas = zs.map zv ∧ allz cy ks wp κs Y ∧ κs.Nodup ∧ ZMet (EWX xs) D cy l I0.2.2 M' (pR sp) Y zs PO ∧
      XV4 D cy I0 ks0 wp0 wr p l e R s m args below meth c A Q cb sb I ks κs wp (pW sp) rest L (S.2.2.2.2.2.1 + (pR sp).2.1) (S.2.2.2.2.2.2 + (pR sp).2.2.1) S.1 ls PO) :
    W p l e R s m args below meth c H locs (cb + S.2.2.2.2.2.1) (sb + S.2.2.2.2.2.2) Q (F0 m S.1 ls vs) := by
  obtain ⟨vas, vr, b1, b2, b3, mok, tok, ow, b4, -, run⟩ := s_runs pok2 EWX_ok X h1 hd a1 a3 a4 a6 a7 a8
  have hx10 := X.2.2.2.2.2.2.2.2.2.2
  obtain ⟨x11, x12, x13, x14⟩ := hx10
  have hA : ∀ q, s.heap.size ≤ q → A q := X.2.2.2.2.2.2.2.1
  have hF : ∀ q, va_A wp H.size q → A q := by
    intro q hq
    rcases hq with ⟨kq, eq, h1⟩ | h1
    · exact a7.2 _ _ h1
    · exact hA q (Nat.le_trans a8.1 h1)
  obtain ⟨i, q1, hsp, q2, q3, q4, q5, q6, q7, hall⟩ := g_try_ok htry
  obtain ⟨zs, z1, z2, z3, -, z6⟩ := g_all_ok (lo := []) (lo' := []) (ls := ls) (nL := mL M) (lv := []) FPX0 a4 ⟨a1.1, a1.2.1, fun _ h => by cases h⟩ trivial b1 hall
  have hmet := hSP i sp q1 hsp M' (by rw [q2]; exact b3) (zs, I.2) ks wp vas H.size z3 z6
  have e10 : I.2.2 = I0.2.2 := a9.2.2
  simp only [e10] at hmet
  obtain ⟨hr9, zv9, κs, Y, PO, rfl, ha, hn, hz, kk⟩ := zmet vas b1 b3
  have rr := run (pR sp) _ (cb + S.2.2.2.2.2.1) (sb + S.2.2.2.2.2.2) (met_xv hr9 hmet hz ha hn) (by omega) (by omega) (by omega) (by omega)
  refine va_callv (a := (zv9.map zv).toArray) rr a8 (fun q _ hq => hF q hq) hF (fun u t H1 locs1 ht hvm hw hB hz9 hk hS1 => ?_)
  obtain ⟨⟨⟨u1, u2, u3, u4⟩, ea⟩, g2⟩ := hw
  obtain ⟨⟨w1, w2⟩, w3⟩ := hB
  have hrv : rvl u.1.1 u.1.2.2.2.1 none := by rw [ea]; trivial
  obtain ⟨L1, hL1, hL2⟩ := g_cats_ok hL _ u1
  obtain ⟨qq, hq1, J, hq2, hq3, hq4⟩ := g_aft_ok (u := u.1) (o := u.1.2.2.2) fpok2 suok2 a4 z1 z3.2.1.1 u2 u3 u4 hrv hL1
  have hun : Unch wr ks0 wp0 u.1.2.1 u.1.2.2.1 := a10.tr u4 (fun κ j hin => by
    obtain ⟨w, w1, w2, w3, w4⟩ := hin
    have := List.all_eq_true.mp q7 w w1
    rw [← w2]
    exact f_wr_ok this w3 w4)
  have := kk vr qq J H1 locs1 u.1.2.1 u.1.2.2.1 u.2 (b2.xt hq2) (hL2 qq hq1) g2 (by rw [← ht]; exact w3) hq2 hq3 hq4 (by rw [← ht]; exact w1) (w2.weaken (fun _ _ _ hq => hF _ hq)) hS1 (a9.tr hq2) u4 hun
  simp only [Nat.add_assoc] at this ⊢
  exact this
end GC1
