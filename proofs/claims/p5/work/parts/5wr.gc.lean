/-! glue: a call by a contract of kinds and an exact one together -/
theorem met_pre {l : Launch} {y : MethodName} {ws : List Cond} {rm : Room} {P P' : Array Value → State → Prop} {Q : Array Value → State → Outcome → State → Prop} {mc ms : Nat} {f : Addr → Prop} (h : Met l y ws rm P Q mc ms f) (hp : ∀ a s, P' a s → P a s) : Met l y ws rm P' Q mc ms f := by
  intro p e ha hc hk s m args below hf hS hP hK
  exact h p e ha hc hk s m args below hf hS (hp _ _ hP) hK
theorem met_post {l : Launch} {y : MethodName} {ws : List Cond} {rm : Room} {P : Array Value → State → Prop} {Q Q' : Array Value → State → Outcome → State → Prop} {mc ms : Nat} {f : Addr → Prop} (h : Met l y ws rm P Q mc ms f) (hq : ∀ a s o t, Q a s o t → Q' a s o t) : Met l y ws rm P Q' mc ms f := by
  intro p e ha hc hk s m args below hf hS hP hK
  obtain ⟨n, o, w1, w2, w3, w4, w5⟩ := h p e ha hc hk s m args below hf hS hP hK
  exact ⟨n, o, w1, w2, w3, hq _ _ _ _ w4, w5⟩
/-- the cells of other kinds -/
def restz (κs : List Nat) (ks : List Nat) (wp : va_W) : va_W := ((ks.zip wp).filter (fun p => !(κs.contains p.1))).map (fun p => p.2)
section GR
variable {cy : Nat → ClassId} {ks : List Nat} {wp : va_W} {κs : List Nat} {Y : ZW}
theorem rest_mem {q : Nat × va_E} (h : q ∈ restz κs ks wp) : ∃ (i κ : Nat), ks[i]? = some κ ∧ wp[i]? = some q ∧ κ ∉ κs := by
  obtain ⟨p, hp, rfl⟩ := List.mem_map.mp h
  obtain ⟨h1, h2⟩ := List.mem_filter.mp hp
  obtain ⟨i, hi⟩ := List.mem_iff_getElem?.mp h1
  obtain ⟨g1, g2⟩ := List.getElem?_zip_eq_some.mp hi
  exact ⟨i, p.1, g1, g2, by simpa using h2⟩
theorem rest_of {q : Nat × va_E} {i κ : Nat} (h1 : ks[i]? = some κ) (h2 : wp[i]? = some q) (h3 : κ ∉ κs) : q ∈ restz κs ks wp :=
  List.mem_map.mpr ⟨(κ, q), List.mem_filter.mpr ⟨List.mem_of_getElem? (i := i) (List.getElem?_zip_eq_some.mpr ⟨h1, h2⟩), by simpa using h3⟩, rfl⟩
theorem zip_snd : ∀ (ks : List Nat) (wp : va_W), ((ks.zip wp).map (fun p => p.2)).Sublist wp := by
  intro ks
  induction ks with
  | nil => intro wp; exact List.nil_sublist _
  | cons k r ih =>
    intro wp
    cases wp with
    | nil => exact List.nil_sublist _
    | cons w wp => exact (ih wp).cons_cons w
theorem rest_sub : (restz κs ks wp).Sublist wp := by
  have h1 : ((ks.zip wp).filter (fun p => !(κs.contains p.1))).Sublist (ks.zip wp) := List.filter_sublist
  exact (h1.map (fun p => p.2)).trans (zip_snd ks wp)
theorem allz_Pr {D : va_G} {H : Heap} (h : allz cy ks wp κs Y) (hP : va_P D vwCl wp H) : va_P D vwCl (zw cy Y ++ restz κs ks wp) H := by
  refine va_P_mem.mpr (fun q hq => ?_)
  rcases List.mem_append.mp hq with hq | hq
  · exact va_P_mem.mp (allz_P h hP) q hq
  · exact va_P_mem.mp hP q (rest_sub.subset hq)
theorem allz_Dr {A : Nat → Prop} (h : allz cy ks wp κs Y) (hn : κs.Nodup) (hD : va_D A wp) : va_D A (zw cy Y ++ restz κs ks wp) := by
  obtain ⟨k1, k2⟩ := allz_nd hD h hn
  obtain ⟨d1, d2⟩ := va_D_mem.mp (allz_D h hn hD)
  obtain ⟨e1, e2⟩ := va_D_mem.mp hD
  refine va_D_mem.mpr ⟨?_, fun q hq => ?_⟩
  · rw [List.map_append]
    refine List.nodup_append.mpr ⟨d1, (rest_sub.map (fun q => q.1)).nodup e1, fun a ha b hb hab => ?_⟩
    subst hab
    obtain ⟨q, hq, rfl⟩ := List.mem_map.mp ha
    obtain ⟨y, hy, rfl⟩ := List.mem_map.mp hq
    obtain ⟨p, hp, e9⟩ := List.mem_map.mp hb
    obtain ⟨κ, hκ, i, e, w1, w2⟩ := k2 y hy
    obtain ⟨i', κ', w3, w4, w5⟩ := rest_mem hp
    have e9 : p.1 = y.1 := e9
    have e8 := hD.1 i i' _ _ w2 w4 e9.symm
    subst e8
    rw [w1] at w3
    cases w3
    exact w5 hκ
  · rcases List.mem_append.mp hq with hq | hq
    · exact d2 q hq
    · exact e2 q (rest_sub.subset hq)
theorem allz_Ar {sz q : Nat} (h : allz cy ks wp κs Y) (hq : va_A (zw cy Y ++ restz κs ks wp) sz q) : va_A wp sz q := by
  rcases hq with ⟨k, e, h1⟩ | h1
  · rcases List.mem_append.mp (List.mem_of_getElem? h1) with h2 | h2
    · obtain ⟨k', h3⟩ := List.mem_iff_getElem?.mp h2
      exact allz_A h (Or.inl ⟨k', e, h3⟩)
    · obtain ⟨k', h3⟩ := List.mem_iff_getElem?.mp (rest_sub.subset h2)
      exact Or.inl ⟨k', e, h3⟩
  · exact Or.inr h1
theorem allz_PJr {D : va_G} {xs : Nat → Int32} {ex : Nat → Nat} {vs : List Value} {sz : Nat} {a : Array Value} {U : State} (h : allz cy ks wp κs Y) (hn : κs.Nodup) (hp : PJ2 D cy (EWX xs) ex wp vs sz a U) : PJ2 D cy (EWX xs) ex (zw cy Y ++ restz κs ks wp) vs sz a U := by
  obtain ⟨h1, h2, h3, h4, h5, h6⟩ := hp
  exact ⟨h1, h2, allz_Pr h h3, h4, allz_Dr h hn h5, EWX_ok.1 ex (va_A wp sz) (va_A (zw cy Y ++ restz κs ks wp) sz) U U [] U.heap h6 (State.WarmedH.refl U) rfl va_S.rf (fun q hq => allz_Ar h hq)⟩
end GR
def XZP (cy : Nat → ClassId) (I : IN) (ks : List Nat) (wp : va_W) (wr : WR) (outs : List OUB) (PO : Option ZV → ZW → Prop) (r : Int32) (u : UQ × ZW) : Prop := (PO2 T2 FPX cy I ks wp wr outs u.1 ∧ ∃ a, u.1.2.2.2.1 = some a ∧ hv u.1.1 a (.int r)) ∧ ∃ z : Option ZV, some (Value.int r) = z.map zv ∧ PO z u.2
def XZB (D : va_G) (cy : Nat → ClassId) (rz : va_W) (A : Nat → Prop) (u : UQ × ZW) (t : State) : Prop := BO2 D A u.1 t ∧ va_P D vwCl (zw cy u.2 ++ rz) t.heap
theorem met_xz {xs : Nat → Int32} {D : va_G} {cy : Nat → ClassId} {l : Launch} {ex : Nat → Nat} {M' : MT} {I : IN} {ks κs : List Nat} {wp : va_W} {wr : WR} {outs : List OUB} {rm : RMt} {Y : ZW} {zs : List ZV} {PO : Option ZV → ZW → Prop} {sz : Nat} (hr : mR M' = some .int)
    (h1 : Met l (mY M') (mW M') (rmR rm) (PJ2 D cy (EWX xs) ex wp (zs.map zv) sz) (QJ2 T2 FPX D cy I ks wp wr outs (va_A wp sz) (mR M')) rm.2.1 rm.2.2.1 (va_A wp sz)) (h2 : ZMet (EWX xs) D cy l ex M' rm Y zs PO) (ha : allz cy ks wp κs Y) (hn : κs.Nodup) :
    Met l (mY M') (mW M') (rmR rm) (PJ2 D cy (EWX xs) ex wp (zs.map zv) sz) (va_Qi (XZP cy I ks wp wr outs PO) (XZB D cy (restz κs ks wp) (va_A wp sz)) (va_A wp sz)) rm.2.1 rm.2.2.1 (va_A wp sz) := by
  have h3 := h2 (restz κs ks wp) sz
  rw [hr] at h1 h3
  refine met_post (met_pre (met_and h1 h3) (fun a s hp => ⟨hp, allz_PJr ha hn hp⟩)) (fun a s o t hq => ?_)
  obtain ⟨⟨⟨r, u, e1, p1, b1⟩, f1⟩, ⟨⟨r2, u2, e2, p2, b2⟩, f2⟩⟩ := hq
  rw [e1] at e2
  cases e2
  obtain ⟨z, Y1, g1, rfl, g2⟩ := p2
  exact ⟨⟨r, (u, Y1), e1, ⟨p1, z, g1, g2⟩, ⟨b1, b2.1⟩⟩, f1⟩
section GC1
variable {xs : Nat → Int32} {D : va_G} {cy : Nat → ClassId} {I0 : IN} {ks0 : List Nat} {wp0 : va_W} {wr : WR} {M M' : MT} {own : String}
variable {p : Program} {l : Launch} {e : Env} {R : Room} {s : State} {m : MethodId} {args : Array Value} {below : List Frame} {meth : Method} {c : Code} {A : Nat → Prop} {Q : State → Prop} {rm : RMt} {cb sb : Nat}
/-- what goes on behind such a call -/
def XK4 (D : va_G) (cy : Nat → ClassId) (I0 : IN) (ks0 : List Nat) (wp0 : va_W) (wr : WR) (p : Program) (l : Launch) (e : Env) (R : Room) (s : State) (m : MethodId) (args : Array Value) (below : List Frame) (meth : Method) (c : Code) (A : Nat → Prop) (Q : State → Prop) (cb sb : Nat) (I : IN) (ks κs : List Nat) (wp : va_W) (wrc : WR) (rest : List BV) (L : List (Option BV × FS)) (nc ns pc : Nat) (ls : Array Slot) (PO : Option ZV → ZW → Prop) : Prop :=
  ∀ (vr : List Value) (q : Option BV × FS) (r : Int32) (J : IN) (H1 : Heap) (locs1 : List Loc) (ks1 : List Nat) (wp1 : va_W) (z : Option ZV) (Y1 : ZW), hvs J rest vr → q ∈ L → some (Value.int r) = z.map zv → PO z Y1 → va_P D vwCl (zw cy Y1 ++ restz κs ks wp) H1 → hxt I J → HS T2 FPX cy J ks1 wp1 q.2 → rvl J q.1 (some (.int r)) → va_P D vwCl wp1 H1 → va_D A wp1 → va_S A s.heap H1 locs1 → hxt I0 J → Unch wrc ks wp ks1 wp1 → Unch wr ks0 wp0 ks1 wp1 → W p l e R s m args below meth c H1 locs1 (cb + nc) (sb + ns) Q (F0 m (pc + 3) ls (.int r :: vr))
set_option maxHeartbeats 2000000 in
theorem s_xcall {SP : List SPt} {DM : List (Nat × List Nat)} {lim j : Nat} {S : SB} {ins : Instr} {len : Nat} {as rest : List BV} {cs : List Nat} {sp : SPt} {σ : List BV} {L : List (Option BV × FS)} {I : IN} {H : Heap} {locs : List Loc} {ls : Array Slot} {lv : List (Nat × Value)} {vs : List Value} {ks : List Nat} {wp : va_W}
    {hkx : Nat → SB → Option (List FS)} {oxx : MT → WR → RMt → SB → Instr → Nat → Option (List SB)}
    (hSP : ∀ (i : Nat) (sp : SPt), i < lim → SP[i]? = some sp → SPOK T2 FPX (EWX xs) D cy l PR2 sp) (X : Cx OW2 (EWX xs) D cy I0.2.2 M own p R s m args meth c A rm cb sb)
    (h1 : f_call T2 PR2 RB2 M S ins len = some (j, M', as, rest)) (hd : decode (mC M) S.1 = .ok (ins, len)) (htry : g_try (T2, PR2, RB2, DM, SP, hkx, oxx) lim wr rm S M' j as cs = some (sp, σ)) (hL : g_cats (g_aft T2 sp σ S.2.2.2.1) (pO sp) = some L)
    (a1 : lv_has ls (mL M) lv) (a3 : hvs I S.2.2.1 vs) (a4 : HS T2 FPX cy I ks wp S.2.2.2.1) (a6 : va_P D vwCl wp H) (a7 : va_D A wp) (a8 : va_S A s.heap H locs) (a9 : hxt I0 I) (a10 : Unch wr ks0 wp0 ks wp)
    (zmet : ∀ vas, hvs I as vas → PR2[j]? = some M' → mR M' = some .int ∧ ∃ (zs : List ZV) (κs : List Nat) (Y : ZW) (PO : Option ZV → ZW → Prop), vas = zs.map zv ∧ allz cy ks wp κs Y ∧ κs.Nodup ∧ ZMet (EWX xs) D cy l I0.2.2 M' (pR sp) Y zs PO ∧
      XK4 D cy I0 ks0 wp0 wr p l e R s m args below meth c A Q cb sb I ks κs wp (pW sp) rest L (S.2.2.2.2.2.1 + (pR sp).2.1) (S.2.2.2.2.2.2 + (pR sp).2.2.1) S.1 ls PO) :
    W p l e R s m args below meth c H locs (cb + S.2.2.2.2.2.1) (sb + S.2.2.2.2.2.2) Q (F0 m S.1 ls vs) := by
  obtain ⟨vas, vr, b1, b2, b3, mok, tok, ow, b4, -, run⟩ := s_runs pok2 EWX_ok X h1 hd a1 a3 a4 a6 a7 a8
  have hx10 := X.2.2.2.2.2.2.2.2.2.2
  obtain ⟨x11, x12, x13, x14⟩ := hx10
  have hA : ∀ q, s.heap.size ≤ q → A q := X.2.2.2.2.2.2.2.1
  have hF : ∀ q, va_A wp H.size q → A q := by
    intro q hq
    rcases hq with ⟨kq, eq, h1⟩ | h1
    · exact a7.2 _ _ h1
    · exact hA q (Nat.le_trans a8.1 h1)
  obtain ⟨i, q1, hsp, q2, q3, q4, q5, q6, q7, hall⟩ := g_try_ok htry
  obtain ⟨zs, z1, z2, z3, -, z6⟩ := g_all_ok (lo := []) (lo' := []) (ls := ls) (nL := mL M) (lv := []) FPX0 a4 ⟨a1.1, a1.2.1, fun _ h => by cases h⟩ trivial b1 hall
  have hmet := hSP i sp q1 hsp M' (by rw [q2]; exact b3) (zs, I.2) ks wp vas H.size z3 z6
  have e10 : I.2.2 = I0.2.2 := a9.2.2
  simp only [e10] at hmet
  obtain ⟨hr9, zv9, κs, Y, PO, rfl, ha, hn, hz, kk⟩ := zmet vas b1 b3
  have rr := run (pR sp) _ (cb + S.2.2.2.2.2.1) (sb + S.2.2.2.2.2.2) (met_xz hr9 hmet hz ha hn) (by omega) (by omega) (by omega) (by omega)
  refine va_calli (a := (zv9.map zv).toArray) rr a8 (fun q _ hq => hF q hq) hF (fun r u t H1 locs1 ht hvm hw hB hz9 hk hS1 => ?_)
  obtain ⟨⟨⟨u1, u2, u3, u4⟩, a, ea, ga⟩, z, g1, g2⟩ := hw
  obtain ⟨⟨w1, w2⟩, w3⟩ := hB
  have hrv : rvl u.1.1 u.1.2.2.2.1 (some (.int r)) := by rw [ea]; exact ga
  obtain ⟨L1, hL1, hL2⟩ := g_cats_ok hL _ u1
  obtain ⟨qq, hq1, J, hq2, hq3, hq4⟩ := g_aft_ok (u := u.1) (o := u.1.2.2.2) fpok2 suok2 a4 z1 z3.2.1.1 u2 u3 u4 hrv hL1
  have hun : Unch wr ks0 wp0 u.1.2.1 u.1.2.2.1 := a10.tr u4 (fun κ j hin => by
    obtain ⟨w, w1, w2, w3, w4⟩ := hin
    have := List.all_eq_true.mp q7 w w1
    rw [← w2]
    exact f_wr_ok this w3 w4)
  have := kk vr qq r J H1 locs1 u.1.2.1 u.1.2.2.1 z u.2 (b2.xt hq2) (hL2 qq hq1) g1 g2 (by rw [← ht]; exact w3) hq2 hq3 hq4 (by rw [← ht]; exact w1) (w2.weaken (fun _ _ _ hq => hF _ hq)) hS1 (a9.tr hq2) u4 hun
  simp only [Nat.add_assoc] at this ⊢
  exact this
end GC1
