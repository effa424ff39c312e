/-! steps outside: a new City, Scene, Sentence: the cell, and its maker by the first engine -/
def ox_new (T : TBt) (RT : List (List (Nat × RES))) (M : MT) (rm : RMt) (S : SB) (ins : Instr) (len : Nat) : Option (List SB) := match S with
  | (pc, lo, st, (n, E, CF, SF), rw, nc, ns) => (match ins, rw with
    | .new i, none => (match e_res RT (mO M) i with
      | some (kd, ci, n9, _) => if (Nat.beq kd 2 && (Nat.beq len 3 && (Nat.ble (nc + 1) rm.2.1 && (Nat.ble (ns + n9) rm.2.2.1 && (T.1[1000]?).isNone)))) = true then some [(pc + 3, lo, bP 1000 true (some n) :: st, (n + 1, E, CF, SF.filter (g_keepS T E [])), some (n, ci), nc + 1, ns + n9)] else none
      | none => none)
    | _, _ => none)
/-- of which place in image() is made: by the place's number -/
def mk_img (lo : List (Nat × BV)) : Option Nat := match f_find lo 1 with
  | some (.inl n) => if decide (n = 0) = true then some 4 else if decide (n = 1) = true then some 5 else none
  | _ => none
def mk_tab (o i : Nat) (lo : List (Nat × BV)) : Option Nat := match o, i with
  | 0, 29 => some 0
  | 0, 30 => mk_img lo
  | 5, 38 => some 3
  | 0, 352 => some 2
  | _, _ => none
def mk_M (k : Nat) : MT := match k with
  | 0 => mt_X1_init
  | 2 => mt_X8_init
  | _ => mt_X7_init
def mk_ci (k : Nat) : Nat := match k with
  | 0 => 1
  | 2 => 7
  | _ => 6
def mk_ks (k : Nat) : List Nat := match k with
  | 0 => [51, 52, 53, 54, 55, 56, 57, 58]
  | 2 => [59, 60, 61, 62, 63]
  | 3 => [64, 65, 66, 67, 68, 69, 70]
  | 4 => [71, 72, 73, 74, 75, 76, 77]
  | 5 => [78, 79, 80, 81, 82, 83, 84]
  | _ => [44, 45, 46, 47, 48, 49, 50]
def mk_kb (k : Nat) : Nat := match k with
  | 0 => 1000
  | 2 => 1000
  | _ => 51
def mk_as (k : Nat) : List AV := match k with
  | 0 => []
  | 2 => []
  | _ => [aS]
def mk_fs (k : Nat) : List AV := match vwCl[mk_ci k]? with
  | some r => (match e_dflts (clTy (mk_ci k)) 0 r.2.2 with | some fs => fs | none => [])
  | none => []
def mk_out (k : Nat) : List OUT := match e_run PRG1 RTB1 [] 400 true false (mk_M k) (mT (mk_M k)) (0, e_args 0 (aR 0 :: mk_as k), [], [], [.inr (mk_ci k, mk_fs k)], 0, 0) with
  | some o => o
  | none => []
def mk_ok (k : Nat) : Bool := (match e_run PRG1 RTB1 [] 400 true false (mk_M k) (mT (mk_M k)) (0, e_args 0 (aR 0 :: mk_as k), [], [], [.inr (mk_ci k, mk_fs k)], 0, 0) with
  | some o => o.all (fun x => w_fit T2 (mk_ks k) (mk_kb k) x.2.2)
  | none => false) && ((match vwCl[mk_ci k]? with | some r => (e_dflts (clTy (mk_ci k)) 0 r.2.2).isSome | none => false) && ((mk_ks k).all (fun κ => decide (51 ≤ κ)) && (Nat.ble (e_cats (aR 0 :: mk_as k)) (mL (mk_M k)) && (Nat.beq (mK (mk_M k)) 2 && Nat.beq (mA (mk_M k)) (mk_as k).length))))
set_option maxRecDepth 100000 in
theorem mk_ok0 : mk_ok 0 = true := by decide +kernel
set_option maxRecDepth 100000 in
theorem mk_ok2 : mk_ok 2 = true := by decide +kernel
set_option maxRecDepth 100000 in
theorem mk_ok3 : mk_ok 3 = true := by decide +kernel
set_option maxRecDepth 100000 in
theorem mk_ok4 : mk_ok 4 = true := by decide +kernel
set_option maxRecDepth 100000 in
theorem mk_ok5 : mk_ok 5 = true := by decide +kernel
theorem mk_mz (k : Nat) : MOK (mk_M k) ∧ TOK OW2 (mk_M k) ∧ OW2[mO (mk_M k)]? = some (mY (mk_M k)).cls := by
  unfold mk_M
  split
  · exact tz1_X1_init
  · exact tz1_X8_init
  · exact tz1_X7_init
/-- what is being made is made -/
def mk_rp (κ k0 : Nat) (a : BV) : BV := if bv_eq a (bP 1000 true (some k0)) = true then bP κ true (some k0) else a
def mk_arg (k : Nat) (E : EB) (st : List BV) : Option (BV × List BV) := match k with
  | 0 => (match st with
    | r :: st' => some (r, st')
    | _ => none)
  | 2 => (match st with
    | r :: st' => some (r, st')
    | _ => none)
  | _ => (match st with
    | a :: r :: st' => (match f_kd T2 E a with
      | some (κ, _) => if Nat.beq κ 51 = true then some (r, st') else none
      | none => none)
    | _ => none)
def ox_mk (M : MT) (rm : RMt) (S : SB) (ins : Instr) (len : Nat) : Option (List SB) := match S with
  | (pc, lo, st, (n, E, CF, SF), rw, nc, ns) => (match ins, rw with
    | .invokespecial i, some (k0, ci) => (match mk_tab (mO M) i lo with
      | some k => (match mk_arg k E st with
        | some (r, st') => if (bv_eq r (bP 1000 true (some k0)) && (Nat.beq ci (mk_ci k) && (Nat.beq len 3 && (Nat.ble 4 rm.1 && (Nat.ble 120 rm.2.2.2 && (Nat.ble (f_ctg st') 8 && (Nat.ble (nc + mNc (mk_M k)) rm.2.1 && Nat.ble (ns + mNs (mk_M k)) rm.2.2.1))))))) = true then
            some [(pc + 3, lo.map (fun q => (q.1, mk_rp ((mk_ks k).headD 0) k0 q.2)), st'.map (mk_rp ((mk_ks k).headD 0) k0), (n, E, CF, SF.filter (g_keepS T2 E [])), none, nc + mNc (mk_M k), ns + mNs (mk_M k))] else none
        | none => none)
      | none => none)
    | _, _ => none)
section MK
variable {T : TBt} {FP : Nat → CUt → List Int → Prop} {RT : List (List (Nat × RES))} {P : List MT} {OW : List String} {EW : EWt} {D : va_G} {cy : Nat → ClassId} {I0 : IN} {ks0 : List Nat} {wp0 : va_W} {wr : WR} {M : MT} {own : String}
variable {p : Program} {l : Launch} {e : Env} {R : Room} {s : State} {m : MethodId} {args : Array Value} {below : List Frame} {meth : Method} {c : Code} {A : Nat → Prop} {Q : State → Prop} {rm : RMt} {cb sb : Nat}
theorem s_new {S : SB} {x : List SB} {ins : Instr} {len : Nat} (hFP : FPOK T FP) (hSU : SUOK T) (hP : POK2 P RT OW) (X : Cx OW EW D cy I0.2.2 M own p R s m args meth c A rm cb sb) (h : ox_new T RT M rm S ins len = some x) (hd : decode (mC M) S.1 = .ok (ins, len))
    (k : ∀ S' ∈ x, Sf T FP D cy I0 ks0 wp0 wr M p l e R s m args below meth c A Q cb sb S') : Sf T FP D cy I0 ks0 wp0 wr M p l e R s m args below meth c A Q cb sb S := by
  obtain ⟨pc, lo, st, ⟨n, E, CF, SF⟩, rw0, nc, ns⟩ := S
  obtain ⟨x1, x2, x3, x4, x5, x6, x7, x8, x9, x10, x11, x12, x13, x14⟩ := X
  intro I H locs ls lv vs ks wp raw a1 a2 a3 a4 a5 a6 a7 a8 a9 a10
  have hE : henv I.1 n E := a4.2.1
  unfold ox_new at h
  simp only at h a2 a3 a4 a5 hd ⊢
  split at h
  · rename_i i
    have a5 : raw = [] := a5
    subst a5
    rw [List.append_nil] at a6 a7
    split at h
    · rename_i kd ci n9 z9 hr
      split at h
      · rename_i q
        simp only [Bool.and_eq_true] at q
        obtain ⟨q1, q2, q3, q4, q5⟩ := q
        have q1 := beq3 q1
        have q2 := beq3 q2
        have q3 := Nat.le_of_ble_eq_true q3
        have q4 := Nat.le_of_ble_eq_true q4
        have q5 := Option.isNone_iff_eq_none.mp q5
        subst q1
        subst q2
        cases h
        obtain ⟨r, hc, hn, w1, w2, w3⟩ := (res_ok hP x4 hr).1
        obtain ⟨r1, r2, r3⟩ := cl_ok ci r hc
        subst hn
        refine va_new (ci := ci) (fs := v_dflts (clTy ci) 0 r.2.2) (C := r.1) (T := r.2.1) (N := r.2.2) x1 x2 x6 r3 (clTy ci) r1 x5 (x6 _ w1) (x6 _ w2) (x6 _ w3) x7.1 a6 a7 a8 x8 hc (fun j hj => ?_) (by omega) (by omega) hd (fun q H1 g1 g2 g3 => ?_)
        · rw [v_dflts_at _ _ _ hj, Nat.zero_add]
        · have hx : hxt I (I.1 ++ [(q : Int)], I.2.1 ++ [(q, 1000)], I.2.2) := ⟨⟨_, rfl⟩, ⟨_, rfl⟩, rfl⟩
          have hn9 : (I.1 ++ [(q : Int)])[n]? = some (q : Int) := by
            rw [List.getElem?_append_right (by rw [hE.1]; exact Nat.le_refl _), hE.1]
            simp
          have hE2 : henv (I.1 ++ [(q : Int)]) (n + 1) E := ⟨by simp [hE.1], fun k9 q9 hk9 => by
            obtain ⟨y, y1, y2⟩ := hE.2 k9 q9 hk9
            exact ⟨y, hx.at y1, y2⟩⟩
          have hp := hpool_grow (more := [(q, 1000)]) (κs := []) (ws := []) a4.1 rfl (fun i9 κ9 h9 => by simp at h9) (fun q9 κ9 d9 h9 hd9 => by
            have h9 := List.mem_singleton.mp h9
            cases h9
            rw [q5] at hd9
            cases hd9)
          have hS9 := HS_grow (J := (I.1 ++ [(q : Int)], I.2.1 ++ [(q, 1000)], I.2.2)) (κs := []) (ws := []) hFP hSU a4 hx hE2 hp
          rw [List.append_nil, List.append_nil] at hS9
          have := k _ List.mem_cons_self (I.1 ++ [(q : Int)], I.2.1 ++ [(q, 1000)], I.2.2) H1 locs ls lv (.ref q :: vs) ks wp [(q, .inr (ci, v_dflts (clTy ci) 0 r.2.2))] a1 (a2.xt hx) ⟨⟨Or.inr ⟨q, List.mem_append_right _ List.mem_cons_self, rfl⟩, fun k9 h9 => by
            cases h9
            exact ⟨_, hn9, Or.inl ⟨rfl, q, rfl, rfl⟩⟩⟩, a3.xt hx⟩ hS9 ⟨q, r.2.2, hn9, rfl, r, hc, rfl⟩ g1 g2 g3 (a9.tr hx) a10
          simp only [← Nat.add_assoc] at this
          exact this
      · cases h
    · cases h
  · cases h
/-- a maker runs -/
theorem mk_go {M' : MT} {as : List AV} {vas vr : List Value} {ci n i b q fuel pc cells slots : Nat} {fs : List AV} {outs : List OUT} {H : Heap} {locs : List Loc} {ls : Array Slot} {wp : va_W} (mok : MOK M') (tok : TOK OW2 M') (ow : OW2[mO M']? = some (mY M').cls) (hk2 : mK M' = 2)
    (hrun : e_run PRG1 RTB1 [] fuel true false M' (mT M') (0, e_args 0 (aR 0 :: as), [], [], [.inr (ci, fs)], 0, 0) = some outs) (hcats : e_cats (aR 0 :: as) ≤ mL M') (hdf : e_dflts (clTy ci) 0 n = some fs) (hg : gvs (fun _ => 0) [q] b as vas) (hlen : vas.length = mA M') (hlk : Cond.methodLink own i (mY M') ∈ BIG ∨ ∃ host, Cond.methodLinkNest own i (mY M') host ∈ NST)
    (hx1 : p.tables.exec = Jvm.exec) (hb1 : c.code = mC M) (hml : c.maxLocals = mL M) (hown : s.vm.findClass own = some m.cls) (hbig : ∀ w ∈ BIG, w.before args s = true) (hKK : KK D cy s) (hA : ∀ q, s.heap.size ≤ q → A q) (hls : ls.size = mL M) (hrest : (vr.map fun v => v.category).sum ≤ 8) (r1 : (mRm M').frames + 1 ≤ R.frames) (r2 : 8 + (mL M' + 11) + (mRm M').locals ≤ R.locals) (r3 : cells + mNc M' ≤ R.cells) (r4 : slots + mNs M' ≤ R.slots) (hd : decode (mC M) pc = .ok (.invokespecial i, 3))
    (hP : va_P D vwCl (wp ++ [(q, .inr (ci, v_dflts (clTy ci) 0 n))]) H) (hD : va_D A (wp ++ [(q, .inr (ci, v_dflts (clTy ci) 0 n))])) (hS : va_S A s.heap H locs)
    (kk : ∀ (ws' : va_W) (o : OUT) (H1 : Heap) (locs1 : List Loc), o ∈ outs → gW (fun _ => 0) b cy o.2.2 ws' → (∃ more, alw ws' = [q] ++ more) → va_P D vwCl (wp ++ ws') H1 → va_D A (wp ++ ws') → va_S A s.heap H1 locs1 → W p l e R s m args below meth c H1 locs1 (cells + mNc M') (slots + mNs M') Q (F0 m (pc + 3) ls vr)) : W p l e R s m args below meth c H locs cells slots Q (F0 m pc ls (vas.reverse ++ .ref q :: vr)) := by
  have hW : gW (fun _ => 0) b cy [.inr (ci, fs)] [(q, .inr (ci, v_dflts (clTy ci) 0 n))] := by
    refine ⟨rfl, fun j c9 hj => ?_⟩
    cases j with
    | zero =>
      simp at hj
      subst hj
      exact ⟨q, _, rfl, _, rfl, e_dflts_ok _ _ _ hdf⟩
    | succ j => simp at hj
  have hg2 : gvs (fun _ => 0) (alw [(q, (.inr (ci, v_dflts (clTy ci) 0 n) : va_E))]) b (aR 0 :: as) (.ref q :: vas) := ⟨⟨q, rfl, rfl⟩, hg⟩
  have met := met_of (OW := OW2) (D := D) (pool := wp) (l := l) H.size mok tok ow hg2 (E := []) (fun k9 q9 h9 => by simp at h9) hW hcats (fun p e s m args below meth c A Q X' hR' => e_sound pok1 fuel true false M' (mT M') _ outs hrun tok.1 _ _ p e _ s m args below meth c A Q X' hR' (fun _ S' h => by cases h))
  have fix : CallFix p m c (mC M) (mL M) s args BIG own := ⟨hx1, hb1, hml, hown, hbig⟩
  have hW9 := lv_room (m := m) (pc := pc) (ls := ls) (rest := vas.reverse ++ .ref q :: vr) (st := vr) hrest
  have pre : ∀ (vals : List Value) (U : State), U.heap = H → s.WarmedH U.vm → PJ D cy wp [(q, .inr (ci, v_dflts (clTy ci) 0 n))] vals H.size vals.toArray U := fun vals U hU hW => ⟨rfl, by rw [hU], by rw [hU]; exact hP, KK.warm hW hKK, hD.weaken (fun _ _ _ _ => trivial)⟩
  have hF : ∀ q', va_A (wp ++ [(q, .inr (ci, v_dflts (clTy ci) 0 n))]) H.size q' → A q' := by
    intro q' hq
    rcases hq with ⟨kq, eq, h1⟩ | h1
    · exact hD.2 _ _ h1
    · exact hA q' (Nat.le_trans hS.1 h1)
  obtain ⟨i1, i2, i3⟩ := mok.2.2.2.2.2.2.2.1 hk2
  have run : va_Run p l e R s m args below meth c H locs cells slots (mNc M') (mNs M') (F0 m pc ls (vas.reverse ++ .ref q :: vr)) vr (QJ D cy (fun _ => 0) b wp (alw [(q, (.inr (ci, v_dflts (clTy ci) 0 n) : va_E))]) outs (va_A (wp ++ [(q, .inr (ci, v_dflts (clTy ci) 0 n))]) H.size) (mR M') (Value.ref q :: vas).toArray) (va_A (wp ++ [(q, .inr (ci, v_dflts (clTy ci) 0 n))]) H.size) := by
    rcases hlk with hl | ⟨host, hl⟩
    · have cB' : CallB R s args own i (mY M') (mC M') (mL M') (mR M') (mW M') (mRm M') (mNc M') (mNs M') (mA M') := callB_of (mA M') hbig (mW_good mok) rfl rfl rfl (hbig _ mok.2.2.1) (hbig _ hl) ⟨mok.2.2.2.1.1, mok.2.2.2.1.2, mok.2.2.2.2.1⟩ ⟨r1, r2⟩
      rw [i3] at cB'
      exact va_runI fix met ⟨cB', i1, hbig _ i2⟩ ⟨pj_blind, fun U hU hW => pre _ U hU hW⟩ rfl hlen hls rfl hW9 hd ⟨r3, r4⟩
    · have cN' : va_CN R s args own i (mY M') host (mC M') (mL M') (mR M') (mW M') (mRm M') (mNc M') (mNs M') (mA M') := va_cnB (mA M') hbig (mW_good mok) rfl rfl rfl (hKK.2.1 _ hl) (hbig _ mok.2.2.1) ⟨mok.2.2.2.1.1, mok.2.2.2.1.2, mok.2.2.2.2.1⟩ ⟨r1, r2⟩
      rw [i3] at cN'
      exact va_runIN fix met ⟨cN', i1, hbig _ i2⟩ ⟨pj_blind, fun U hU hW => pre _ U hU hW⟩ rfl hlen hls rfl hW9 hd ⟨r3, r4⟩
  rw [i3] at run
  refine va_callv (a := (Value.ref q :: vas).toArray) run hS (fun q _ hq => hF q hq) hF (fun u t H1 locs1 ht hvm hw hB hz hk hS1 => ?_)
  obtain ⟨⟨p1, p2, p3, more, p4⟩, -⟩ := hw
  exact kk u.1 u.2 H1 locs1 p1 p3 ⟨more, p4⟩ (by rw [← ht]; exact hB.1) (hB.2.weaken (fun _ _ _ hq => hF _ hq)) hS1
theorem mk_rp_ok {I J : IN} {κ q k0 : Nat} {a : BV} {v : Value} (hx : hxt I J) (hq : (q, κ) ∈ J.2.1) (hk : I.1[k0]? = some (q : Int)) (h : hv I a v) : hv J (mk_rp κ k0 a) v := by
  unfold mk_rp
  split
  · rename_i e0
    have e0 := bv_eq_ok e0
    subst e0
    obtain ⟨g1, g2⟩ := h
    obtain ⟨y, y1, y2⟩ := g2 k0 rfl
    rw [hk] at y1
    cases y1
    rcases y2 with ⟨-, q', rfl, e9⟩ | ⟨h9, -⟩
    · have e9 : q = q' := by omega
      subst e9
      exact ⟨Or.inr ⟨q, hq, rfl⟩, fun k hk9 => by cases hk9; exact ⟨_, hx.at hk, Or.inl ⟨rfl, q, rfl, rfl⟩⟩⟩
    · cases h9
  · exact h.xt hx
theorem mk_rps {I J : IN} {κ q k0 : Nat} (hx : hxt I J) (hq : (q, κ) ∈ J.2.1) (hk : I.1[k0]? = some (q : Int)) : ∀ {as : List BV} {vs : List Value}, hvs I as vs → hvs J (as.map (mk_rp κ k0)) vs := by
  intro as
  induction as with
  | nil => intro vs h; rw [hvs_nil h]; trivial
  | cons a r ih =>
    intro vs h
    obtain ⟨v, vs', rfl, g1, g2⟩ := hvs_cons h
    exact ⟨mk_rp_ok hx hq hk g1, ih g2⟩
theorem mk_rpl {I J : IN} {κ q k0 : Nat} (hx : hxt I J) (hq : (q, κ) ∈ J.2.1) (hk : I.1[k0]? = some (q : Int)) : ∀ {as : List (Nat × BV)} {lv : List (Nat × Value)}, hlv I as lv → hlv J (as.map (fun x => (x.1, mk_rp κ k0 x.2))) lv := by
  intro as
  induction as with
  | nil =>
    intro lv h
    cases lv with
    | nil => trivial
    | cons => exact absurd h id
  | cons a r ih =>
    intro lv h
    cases lv with
    | nil => exact absurd h id
    | cons v lv' => exact ⟨⟨h.1.1, mk_rp_ok hx hq hk h.1.2⟩, ih h.2⟩
theorem mk_img_ok {lo : List (Nat × BV)} {k : Nat} (h : mk_img lo = some k) : k = 4 ∨ k = 5 := by
  unfold mk_img at h
  split at h
  · split at h
    · cases h; exact Or.inl rfl
    · split at h
      · cases h; exact Or.inr rfl
      · cases h
  · cases h
theorem mk_lk {o i k : Nat} {own : String} {lo : List (Nat × BV)} (h : mk_tab o i lo = some k) (ho : OW2[o]? = some own) : mk_ok k = true ∧ (Cond.methodLink own i (mY (mk_M k)) ∈ BIG ∨ ∃ host, Cond.methodLinkNest own i (mY (mk_M k)) host ∈ NST) := by
  unfold mk_tab at h
  split at h
  · cases h
    cases ho
    exact ⟨mk_ok0, Or.inr ⟨"NounFast", n_at_ok (pos := 218) (by decide +kernel)⟩⟩
  · cases ho
    rcases mk_img_ok h with rfl | rfl
    · exact ⟨mk_ok4, Or.inl (h_at_ok (pos := 265) (by decide +kernel))⟩
    · exact ⟨mk_ok5, Or.inl (h_at_ok (pos := 265) (by decide +kernel))⟩
  · cases h
    cases ho
    exact ⟨mk_ok3, Or.inl (h_at_ok (pos := 702) (by decide +kernel))⟩
  · cases h
    cases ho
    exact ⟨mk_ok2, Or.inr ⟨"NounFast", n_at_ok (pos := 1104) (by decide +kernel)⟩⟩
  · cases h
theorem mk_fr (k : Nat) : (mRm (mk_M k)).frames + 1 ≤ 4 ∧ 8 + (mL (mk_M k) + 11) + (mRm (mk_M k)).locals ≤ 120 := by
  unfold mk_M
  split <;> decide
/-- the new cells by their kinds -/
theorem mk_conv {I : IN} {ks : List Nat} {wp ws' : va_W} {n b κb : Nat} {κs : List Nat} {E : EB} {CF : List CFt} {SF : List SFt} {C : List AC} (hFP : FPOK T2 FP) (h : HS T2 FP cy I ks wp (n, E, CF, SF)) (hb : (b, κb) ∈ I.2.1) (hW : gW (fun _ => 0) b cy C ws') (hf : w_fit T2 κs κb C = true) (hκ : κs.all (fun κ => decide (51 ≤ κ)) = true) :
    HS T2 FP cy (I.1, I.2.1 ++ (alw ws').zip κs, I.2.2) (ks ++ κs) (wp ++ ws') (n, E, CF, SF.filter (g_keepS T2 E [])) ∧ κs.length = ws'.length := by
  have hx : hxt I (I.1, I.2.1 ++ (alw ws').zip κs, I.2.2) := ⟨⟨[], by simp⟩, ⟨_, rfl⟩, rfl⟩
  unfold w_fit at hf
  simp only [Bool.and_eq_true] at hf
  have hl := beq3 hf.1
  have hl2 : κs.length = ws'.length := by rw [hl, hW.1]
  have hz : ∀ (i κ q : Nat), κs[i]? = some κ → (alw ws')[i]? = some q → (q, κ) ∈ (alw ws').zip κs := fun i κ q h1 h2 => List.mem_of_getElem? (i := i) (List.getElem?_zip_eq_some.mpr ⟨h2, h1⟩)
  refine ⟨HS_grow hFP suok2 h hx h.2.1 (hpool_grow h.1 hl2 (fun i κ hi => ?_) (fun q κ d hq hd => ?_)), hl2⟩
  · have h1 := List.all_eq_true.mp hf.2 i (List.mem_range.mpr (List.getElem?_eq_some_iff.mp hi).1)
    rw [hi] at h1
    split at h1
    · rename_i κ' c' e1 e2
      cases e1
      obtain ⟨q, e, g1, g2⟩ := hW.2 i c' e2
      have g3 : (alw ws')[i]? = some q := by rw [List.getElem?_map, g1]; rfl
      obtain ⟨d, d1, d2⟩ := c_fit_ok (AK := I.2.1 ++ (alw ws').zip κs) (fun i κ q h1 h2 => List.mem_append_right _ (hz i κ q h1 h2)) (List.mem_append_left _ hb) g2 h1
      exact ⟨of_decide_eq_true (List.all_eq_true.mp hκ κ (List.mem_of_getElem? hi)), q, e, d, g1, d1, d2, List.mem_append_right _ (hz i κ q hi g3)⟩
    · cases h1
  · obtain ⟨i, hi⟩ := List.mem_iff_getElem?.mp hq
    obtain ⟨h1, h2⟩ := List.getElem?_zip_eq_some.mp hi
    rw [List.getElem?_map] at h1
    cases h3 : ws'[i]? with
    | none => rw [h3] at h1; cases h1
    | some x =>
      rw [h3] at h1
      have h1 := Option.some.inj h1
      have h1 : x.1 = q := h1
      refine ⟨i, x.2, h2, ?_⟩
      rw [h3, ← h1]
theorem s_mk {S : SB} {x : List SB} {ins : Instr} {len : Nat} (hFP : FPOK T2 FP) (X : Cx OW2 EW D cy I0.2.2 M own p R s m args meth c A rm cb sb) (h : ox_mk M rm S ins len = some x) (hd : decode (mC M) S.1 = .ok (ins, len))
    (k : ∀ S' ∈ x, Sf T2 FP D cy I0 ks0 wp0 wr M p l e R s m args below meth c A Q cb sb S') : Sf T2 FP D cy I0 ks0 wp0 wr M p l e R s m args below meth c A Q cb sb S := by
  obtain ⟨pc, lo, st, ⟨n, E, CF, SF⟩, rw0, nc, ns⟩ := S
  obtain ⟨x1, x2, x3, x4, x5, x6, x7, x8, x9, x10, x11, x12, x13, x14⟩ := X
  intro I H locs ls lv vs ks wp raw a1 a2 a3 a4 a5 a6 a7 a8 a9 a10
  unfold ox_mk at h
  simp only at h a2 a3 a4 a5 hd ⊢
  split at h
  · rename_i i k0 ci
    split at h
    · rename_i kk hkk
      split at h
      · rename_i r st' harg
        split at h
        · rename_i q
          simp only [Bool.and_eq_true] at q
          obtain ⟨q1, q2, q3, q4, q5, q6, q7, q8⟩ := q
          have q1 := bv_eq_ok q1
          have q2 := beq3 q2
          have q3 := beq3 q3
          have q4 := Nat.le_of_ble_eq_true q4
          have q5 := Nat.le_of_ble_eq_true q5
          have q6 := Nat.le_of_ble_eq_true q6
          have q7 := Nat.le_of_ble_eq_true q7
          have q8 := Nat.le_of_ble_eq_true q8
          subst q1
          subst q2
          subst q3
          cases h
          obtain ⟨hok, hlk⟩ := mk_lk hkk x4
          obtain ⟨mok, tok, ow⟩ := mk_mz kk
          obtain ⟨fr1, fr2⟩ := mk_fr kk
          unfold mk_ok at hok
          simp only [Bool.and_eq_true] at hok
          obtain ⟨o1, o2, o3, o4, o5, o6⟩ := hok
          have o4 := Nat.le_of_ble_eq_true o4
          have o5 := beq3 o5
          have o6 := beq3 o6
          obtain ⟨q0, n0, e1, e2, r0, hc0, hn0⟩ := a5
          subst e2
          have hdf : e_dflts (clTy (mk_ci kk)) 0 n0 = some (mk_fs kk) := by
            rw [hc0] at o2
            simp only at o2
            obtain ⟨fs, hfs⟩ := Option.isSome_iff_exists.mp o2
            unfold mk_fs
            rw [hc0]
            simp only
            rw [← hn0, hfs]
          -- the arguments
          have hargs : ∃ (b : Nat) (vas vr : List Value), vs = vas.reverse ++ .ref q0 :: vr ∧ hvs I st' vr ∧ gvs (fun _ => 0) [q0] b (mk_as kk) vas ∧ vas.length = (mk_as kk).length ∧ (b, mk_kb kk) ∈ I.2.1 := by
            have raw1 : ∀ v, hv I (bP 1000 true (some k0)) v → v = .ref q0 ∧ (q0, 1000) ∈ I.2.1 := by
              intro v hv9
              obtain ⟨g1, g2⟩ := hv9
              obtain ⟨y, y1, y2⟩ := g2 k0 rfl
              rw [e1] at y1
              cases y1
              rcases y2 with ⟨-, q', rfl, e9⟩ | ⟨h9, -⟩
              · have e9 : q0 = q' := by omega
                subst e9
                refine ⟨rfl, ?_⟩
                rcases g1 with ⟨g1, -⟩ | ⟨q'', g1, g3⟩
                · cases g1
                · cases g3; exact g1
              · cases h9
            unfold mk_arg at harg
            split at harg
            · split at harg
              · rename_i r9 st9
                cases harg
                obtain ⟨v1, vs2, rfl, g3, g4⟩ := hvs_cons a3
                obtain ⟨rfl, hm⟩ := raw1 v1 g3
                exact ⟨q0, [], vs2, rfl, g4, trivial, rfl, hm⟩
              · cases harg
            · split at harg
              · rename_i r9 st9
                cases harg
                obtain ⟨v1, vs2, rfl, g3, g4⟩ := hvs_cons a3
                obtain ⟨rfl, hm⟩ := raw1 v1 g3
                exact ⟨q0, [], vs2, rfl, g4, trivial, rfl, hm⟩
              · cases harg
            · rename_i hk0 hk2
              have e3 : mk_as kk = [aS] ∧ mk_kb kk = 51 := by
                rcases kk with _ | _ | _ | kk
                · exact absurd rfl hk0
                · exact ⟨rfl, rfl⟩
                · exact absurd rfl hk2
                · exact ⟨rfl, rfl⟩
              rw [e3.1, e3.2]
              split at harg
              · rename_i a r9 st9
                split at harg
                · rename_i κ z9 hkd
                  split at harg
                  · rename_i hκ
                    have hκ := beq3 hκ
                    subst hκ
                    cases harg
                    obtain ⟨v0, vs1, rfl, g1, g2⟩ := hvs_cons a3
                    obtain ⟨v1, vs2, rfl, g3, g4⟩ := hvs_cons g2
                    obtain ⟨z1, z2, z3⟩ := z9
                    obtain ⟨qa, i0, e0, rfl, hki, hwi, hty0, hT, rfl⟩ := kd_ok a4 g1 hkd
                    obtain ⟨rfl, -⟩ := raw1 v1 g3
                    refine ⟨qa, [.ref qa], vs2, rfl, g4, ⟨rfl, trivial⟩, rfl, ?_⟩
                    rcases g1.1 with ⟨-, h9⟩ | ⟨q', h8, h9⟩
                    · cases h9
                    · cases h9; exact h8
                  · cases harg
                · cases harg
              · cases harg
          obtain ⟨b, vas, vr, rfl, g4, hg, hlen, hbk⟩ := hargs
          split at o1
          · rename_i outs hrun
            refine mk_go (M := M) (cy := cy) (D := D) (A := A) mok tok ow o5 hrun o4 hdf hg (by rw [hlen, o6]) hlk x1 x2 x3 x5 x6 x7 x8 a1.1 (by rw [f_ctg_ok g4]; exact q6) (by omega) (by omega) (by omega) (by omega) hd a6 a7 a8 (fun ws' o H1 locs1 ho hW hal hP1 hD1 hS1 => ?_)
            have hf := List.all_eq_true.mp o1 o ho
            obtain ⟨hS9, hl9⟩ := mk_conv hFP a4 hbk hW hf o3
            obtain ⟨more, hal⟩ := hal
            have hx : hxt I (I.1, I.2.1 ++ (alw ws').zip (mk_ks kk), I.2.2) := ⟨⟨[], by simp⟩, ⟨_, rfl⟩, rfl⟩
            have hq9 : (q0, (mk_ks kk).headD 0) ∈ I.2.1 ++ (alw ws').zip (mk_ks kk) := by
              refine List.mem_append_right _ (List.mem_of_getElem? (i := 0) (List.getElem?_zip_eq_some.mpr ⟨by rw [hal]; rfl, ?_⟩))
              unfold mk_ks
              split <;> rfl
            have := k _ List.mem_cons_self (I.1, I.2.1 ++ (alw ws').zip (mk_ks kk), I.2.2) H1 locs1 ls lv vr (ks ++ mk_ks kk) (wp ++ ws') [] a1 (mk_rpl hx hq9 e1 a2) (mk_rps hx hq9 e1 g4) hS9 rfl (by rw [List.append_nil]; exact hP1) (by rw [List.append_nil]; exact hD1) hS1 (a9.tr hx) (a10.tr Unch_grow (fun κ j h => by obtain ⟨w, hw, -⟩ := h; cases hw))
            simp only [← Nat.add_assoc] at this
            exact this
          · cases o1
        · cases h
      · cases h
    · cases h
  · cases h
end MK
