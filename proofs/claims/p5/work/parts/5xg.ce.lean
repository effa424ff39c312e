/-! the class: a new sentence, a whole sentence (written by wip/p39/d1.py) -/
def SENC : List AC := [.inr (7, [aR 1, aR 2, aR 3, aR 4, aI 0, aI 0]), .inl (0, 40, aI 0, []), .inl (0, 40, aI 0, []), .inl (0, 40, aI 0, []), .inl (0, 40, aI 0, [])]
set_option maxRecDepth 100000 in
theorem sen_run : (match e_run PRG1 RTB1 [] 400 true false (mk_M 2) (mT (mk_M 2)) (0, e_args 0 (aR 0 :: mk_as 2), [], [], [.inr (mk_ci 2, mk_fs 2)], 0, 0) with
  | some o => o.all (fun x => @decide (x.2.2 = SENC) (dLC x.2.2 SENC))
  | none => false) = true := by decide +kernel
theorem len5 {α : Type} {x : List α} (h : 5 = x.length) : ∃ a b c d e : α, x = [a, b, c, d, e] := by
  match x, h with
  | [a, b, c, d, e], _ => exact ⟨a, b, c, d, e, rfl⟩
/-- a sentence's end -/
def sFin (K : Nat → Int) (R : SR) : SR := if R.1 = 0 then (if K R.2.1 = 0 then R else (1, R.2.1, 0)) else (R.1, R.2.1, 0)
section CE9
variable {D : va_G} {cy : Nat → ClassId} {r : va_W} {ex : Nat → Nat} {own : String} {xs : Nat → Int32}
variable {p : Program} {l : Launch} {e : Env} {R : Room} {s : State} {m : MethodId} {args : Array Value} {below : List Frame} {meth : Method} {c : Code} {A : Nat → Prop} {Q : State → Prop} {rm : RMt} {cb sb N K : Nat} {lv : List (Nat × ZV)} {Y : ZW}
set_option maxRecDepth 4000 in
theorem zg_newSent (X : Cx OW2 (EWX xs) D cy ex mt2_X11_sentence own p R s m args meth c A rm cb sb) (h4 : 4 ≤ R.frames) (h120 : 120 ≤ R.locals) (hN : N + 5 ≤ R.cells) (hK : K + 166 ≤ R.slots)
    (k : ∀ (ee : Nat → Nat) (E1 E2 E3 E4 : Nat → Int), ZG D cy r mt2_X11_sentence p l e R s m args below meth c A Q (N + 1 + mNc (mk_M 2)) (K + 6 + mNs (mk_M 2)) (7, lv, [.inr (.inr (some (ee 0)))], Y ++ eW ee z0 E1 E2 E3 E4)) : ZG D cy r mt2_X11_sentence p l e R s m args below meth c A Q N K (0, lv, [], Y) := by
  have d0 : decode (mC mt2_X11_sentence) 0 = .ok (.new 83, 3) := x_dec X rfl
  have d3 : decode (mC mt2_X11_sentence) 3 = .ok (.dup, 1) := x_dec X rfl
  have d4 : decode (mC mt2_X11_sentence) 4 = .ok (.invokespecial 352, 3) := x_dec X rfl
  obtain ⟨x1, x2, x3, x4, x5, x6, x7, x8, x9, x10, x11, x12, x13, x14⟩ := X
  have hr : e_res RB2 (mO mt2_X11_sentence) 83 = some (2, 7, 6, 0) := rfl
  intro H locs ls a1 a2 a3 a4
  obtain ⟨r0, hc, hn, w1, w2, w3⟩ := (res_ok pok2 x4 hr).1
  obtain ⟨r1, r2, r3⟩ := cl_ok 7 r0 hc
  refine va_new (ci := 7) (fs := v_dflts (clTy 7) 0 r0.2.2) (C := r0.1) (T := r0.2.1) (N := r0.2.2) x1 x2 x6 r3 (clTy 7) r1 x5 (x6 _ w1) (x6 _ (by first | (rw [hn]; exact w2) | (rw [← hn]; exact w2))) (x6 _ w3) x7.1 a2 a3 a4 x8 hc (fun j hj => ?_) (by omega) (by omega) d0 (fun q H1 g1 g2 g3 => ?_)
  · rw [v_dflts_at _ _ _ hj, Nat.zero_add]
  · refine lv_dup x1 x2 d3 rfl ?_
    obtain ⟨hok, hlk⟩ := mk_lk (lo := []) (o := 0) (i := 352) (k := 2) rfl x4
    obtain ⟨mok, tok, ow⟩ := mk_mz 2
    obtain ⟨fr1, fr2⟩ := mk_fr 2
    unfold mk_ok at hok
    simp only [Bool.and_eq_true] at hok
    obtain ⟨o1, o2, o3, o4, o5, o6⟩ := hok
    have o4 := Nat.le_of_ble_eq_true o4
    have o5 := beq3 o5
    have o6 := beq3 o6
    have hdf : e_dflts (clTy (mk_ci 2)) 0 r0.2.2 = some (mk_fs 2) := by
      have hc' : vwCl[mk_ci 2]? = some r0 := hc
      rw [hc'] at o2
      simp only at o2
      obtain ⟨fs, hfs⟩ := Option.isSome_iff_exists.mp o2
      unfold mk_fs
      rw [hc']
      simp only
      rw [hfs]
    have hcr := sen_run
    split at hcr
    · rename_i outs hrun
      have hk0 : mNc (mk_M 2) ≤ 4 ∧ mNs (mk_M 2) ≤ 160 := by decide
      refine mk_go (M := mt2_X11_sentence) (ci := 7) (b := q) (as := mk_as 2) (vas := []) (vr := [.ref q]) (wp := zw cy Y ++ r) mok tok ow o5 hrun o4 hdf trivial o6.symm hlk x1 x2 x3 x5 x6 x7 x8 a1.1 (Nat.le_of_ble_eq_true rfl) (by omega) (by omega) (by omega) (by omega) d4 g1 g2 g3 (fun ws' o H2 locs2 ho hW hal hP1 hD1 hS1 => ?_)
      have hoo := List.all_eq_true.mp hcr o ho
      have hoo : o.2.2 = SENC := @of_decide_eq_true _ (dLC o.2.2 SENC) hoo
      rw [hoo] at hW
      obtain ⟨hlen, hat⟩ := hW
      obtain ⟨w0, w1, w2, w3, w4, rfl⟩ := len5 hlen
      obtain ⟨q0, e0, f0, g0⟩ := hat 0 _ rfl
      obtain ⟨q1, e1, f1, g1⟩ := hat 1 _ rfl
      obtain ⟨q2, e2, f2, g2⟩ := hat 2 _ rfl
      obtain ⟨q3, e3, f3, g3⟩ := hat 3 _ rfl
      obtain ⟨q4, e4, f4, g4⟩ := hat 4 _ rfl
      cases f0
      cases f1
      cases f2
      cases f3
      cases f4
      obtain ⟨vs, rfl, hv⟩ := g0
      obtain ⟨-, y1, rfl, hy1⟩ : 0 ≤ 2 ∧ ∃ f : Nat → Int32, e1 = .inl (cy 0, 40, .inl f) ∧ ∀ j, j < 40 → gv (fun _ => 0) [q0, q1, q2, q3, q4] q (e_get (aI 0) [] j) (.int (f j)) := by
        rcases g1 with g | ⟨h, -⟩ | ⟨h, -⟩
        · exact g
        · exact absurd h (by decide)
        · exact absurd h (by decide)
      obtain ⟨-, y2, rfl, hy2⟩ : 0 ≤ 2 ∧ ∃ f : Nat → Int32, e2 = .inl (cy 0, 40, .inl f) ∧ ∀ j, j < 40 → gv (fun _ => 0) [q0, q1, q2, q3, q4] q (e_get (aI 0) [] j) (.int (f j)) := by
        rcases g2 with g | ⟨h, -⟩ | ⟨h, -⟩
        · exact g
        · exact absurd h (by decide)
        · exact absurd h (by decide)
      obtain ⟨-, y3, rfl, hy3⟩ : 0 ≤ 2 ∧ ∃ f : Nat → Int32, e3 = .inl (cy 0, 40, .inl f) ∧ ∀ j, j < 40 → gv (fun _ => 0) [q0, q1, q2, q3, q4] q (e_get (aI 0) [] j) (.int (f j)) := by
        rcases g3 with g | ⟨h, -⟩ | ⟨h, -⟩
        · exact g
        · exact absurd h (by decide)
        · exact absurd h (by decide)
      obtain ⟨-, y4, rfl, hy4⟩ : 0 ≤ 2 ∧ ∃ f : Nat → Int32, e4 = .inl (cy 0, 40, .inl f) ∧ ∀ j, j < 40 → gv (fun _ => 0) [q0, q1, q2, q3, q4] q (e_get (aI 0) [] j) (.int (f j)) := by
        rcases g4 with g | ⟨h, -⟩ | ⟨h, -⟩
        · exact g
        · exact absurd h (by decide)
        · exact absurd h (by decide)
      obtain ⟨more, hal⟩ := hal
      have eq0 : q0 = q := by
        have h9 : [q0, q1, q2, q3, q4] = [q] ++ more := hal
        simp only [List.cons_append, List.nil_append, List.cons.injEq] at h9
        exact h9.1
      have hvs : vs = [.ref q1, .ref q2, .ref q3, .ref q4, .int (Int32.ofInt 0), .int (Int32.ofInt 0)] := by
        match vs, hv with
        | [u1, u2, u3, u4, u5, u6], ⟨⟨p1, l1, h1⟩, ⟨p2, l2, h2⟩, ⟨p3, l3, h3⟩, ⟨p4, l4, h4⟩, ⟨p8, h8, b8, c8⟩, ⟨p9, h9, b9, c9⟩, _⟩ =>
          cases l1
          cases l2
          cases l3
          cases l4
          have e8 : p8 = Int32.ofInt 0 := (fa_eq _ _).mpr (by rw [z_o32 ⟨by decide, by decide⟩]; omega)
          have e9 : p9 = Int32.ofInt 0 := (fa_eq _ _).mpr (by rw [z_o32 ⟨by decide, by decide⟩]; omega)
          rw [h1, h2, h3, h4, h8, h9, e8, e9]
      subst eq0
      subst hvs
      have hP2 := va_P_mem.mp hP1
      have hD2 := va_D_mem.mp hD1
      rw [show r0.2.2 = 6 by first | exact hn | exact hn.symm]
      have hz : zw cy (eW (fun i => ([q0, q1, q2, q3, q4] : List Nat).getD i 0) z0 (fun j => (y1 j).toInt) (fun j => (y2 j).toInt) (fun j => (y3 j).toInt) (fun j => (y4 j).toInt)) = [(q0, (.inr (7, [.ref q1, .ref q2, .ref q3, .ref q4, .int (Int32.ofInt 0), .int (Int32.ofInt 0)]) : va_E)), (q1, .inl (cy 0, 40, .inl y1)), (q2, .inl (cy 0, 40, .inl y2)), (q3, .inl (cy 0, 40, .inl y3)), (q4, .inl (cy 0, 40, .inl y4))] := by
        show [_, _, _, _, _] = _
        unfold zc ze
        simp only [rI_of]
        rfl
      refine k (fun i => ([q0, q1, q2, q3, q4] : List Nat).getD i 0) (fun j => (y1 j).toInt) (fun j => (y2 j).toInt) (fun j => (y3 j).toInt) (fun j => (y4 j).toInt) H2 locs2 ls a1 ?_ ?_ hS1
      · refine va_P_mem.mpr (fun x hx => ?_)
        have hx : x ∈ zw cy (Y ++ eW (fun i => ([q0, q1, q2, q3, q4] : List Nat).getD i 0) z0 (fun j => (y1 j).toInt) (fun j => (y2 j).toInt) (fun j => (y3 j).toInt) (fun j => (y4 j).toInt)) ++ r := hx
        rw [zw_app, hz] at hx
        rcases List.mem_append.mp hx with h | h
        · exact hP2 x (List.mem_append_left _ (List.mem_append_left _ h))
        · rcases List.mem_append.mp h with h | h
          · exact hP2 x (List.mem_append_right _ h)
          · exact hP2 x (List.mem_append_left _ (List.mem_append_right _ h))
      · have e9 : (zw cy (Y ++ eW (fun i => ([q0, q1, q2, q3, q4] : List Nat).getD i 0) z0 (fun j => (y1 j).toInt) (fun j => (y2 j).toInt) (fun j => (y3 j).toInt) (fun j => (y4 j).toInt)) ++ r).map (fun q => q.1) = (zw cy Y).map (fun q => q.1) ++ ([q0, q1, q2, q3, q4] ++ r.map (fun q => q.1)) := by
          rw [zw_app, List.map_append, List.map_append]
          rfl
        have hpm : ((zw cy Y ++ r ++ [(q0, (.inr (7, [.ref q1, .ref q2, .ref q3, .ref q4, .int (Int32.ofInt 0), .int (Int32.ofInt 0)]) : va_E)), (q1, .inl (cy 0, 40, .inl y1)), (q2, .inl (cy 0, 40, .inl y2)), (q3, .inl (cy 0, 40, .inl y3)), (q4, .inl (cy 0, 40, .inl y4))]).map (fun q => q.1)).Perm ((zw cy Y).map (fun q => q.1) ++ ([q0, q1, q2, q3, q4] ++ r.map (fun q => q.1))) := by
          rw [List.map_append, List.map_append, List.append_assoc]
          exact List.Perm.append_left _ List.perm_append_comm
        refine va_D_mem.mpr ⟨?_, fun x hx => ?_⟩
        · show ((zw cy (Y ++ eW (fun i => ([q0, q1, q2, q3, q4] : List Nat).getD i 0) z0 (fun j => (y1 j).toInt) (fun j => (y2 j).toInt) (fun j => (y3 j).toInt) (fun j => (y4 j).toInt)) ++ r).map (fun q => q.1)).Nodup
          rw [e9]
          exact hpm.nodup_iff.mp hD2.1
        · have hm : x.1 ∈ (zw cy (Y ++ eW (fun i => ([q0, q1, q2, q3, q4] : List Nat).getD i 0) z0 (fun j => (y1 j).toInt) (fun j => (y2 j).toInt) (fun j => (y3 j).toInt) (fun j => (y4 j).toInt)) ++ r).map (fun q => q.1) := List.mem_map.mpr ⟨x, hx, rfl⟩
          rw [e9] at hm
          obtain ⟨y, h8, h9⟩ := List.mem_map.mp (hpm.mem_iff.mpr hm)
          rw [← h9]
          exact hD2.2 y h8
    · cases hcr
end CE9
section CF9
variable {xs : Nat → Int32} {D : va_G} {cy : Nat → ClassId} {l : Launch} {ex : Nat → Nat} {a b c e : Nat → Nat} {F B K S V G CN NM MK TP PP CO KN E E1 E2 E3 E4 U A1 A2 A3 A4 A5 A6 : Nat → Int} {jd sc : ZV} {x : Int}
set_option maxRecDepth 4000 in
theorem zm_closeText2  : ZMet (EWX xs) D cy l ex mt2_X11_closeText (0, 0, 0, 0) (tW a F B K S V ++ cW c G CN NM MK TP PP CO KN ++ eW e E E1 E2 E3 E4 ++ oW a b U jd sc A1 A2 A3 A4 A5 A6) [zR (b 0)] (fun z Y => z = none ∧ Y = (tW a (zup F 0 0) B K S V ++ cW c G CN NM MK TP PP CO KN ++ eW e E E1 E2 E3 E4 ++ oW a b (zup U 14 (F 6)) jd sc A1 A2 A3 A4 A5 A6)) := by
  obtain ⟨mok, tok, ow⟩ := pok2.1 _ _ zj_X11_closeText
  refine met_ofz EWX_ok mok tok ow (Nat.le_of_ble_eq_true rfl) (fun r p0 e0 s0 m0 ar0 be0 me0 c0 A0 Q0 X hR => ?_)
  refine zg_blk pok2 X 9 [19, 2, 19, 19, 0] (S' := (19, [(0, zR (b 0))], [], ((tW a (zup F 0 0) B K S V) ++ (cW c G CN NM MK TP PP CO KN) ++ (eW e E E1 E2 E3 E4) ++ (oW a b (zup U 14 (F 6)) jd sc A1 A2 A3 A4 A5 A6)))) rfl ⟨rfl, rfl, rfl, rfl, rfl, rfl, rfl, rfl, rfl, trivial⟩ ?_
  refine zg_retv X hR rfl rfl (by decide) (by decide) ?_
  exact ⟨rfl, rfl⟩
theorem zm_rc1 (hT : TT F K S V) (hI : INV CN NM x) : RXP xs D cy l ex a c e F B K S V G CN NM MK TP PP CO KN mt2_X8_readCondition 4 1 27 654 := by
  have ro9 : RXP xs D cy l ex a c e F B K S V G CN NM MK TP PP CO KN mt2_X8_readOne 0 9 1 21 := zm_readOne (f := 0) (lo := 0) (f2 := 0) (lo2 := 0) hT hI (by omega) (by omega) (fun h => absurd h (by decide)) (fun h => absurd h (by decide))
  have ra9 : RXP xs D cy l ex a c e F B K S V G CN NM MK TP PP CO KN mt2_X8_readAll 3 9 2 46 := zm_readAll hT hI ro9
  have rc9 : RXP xs D cy l ex a c e F B K S V G CN NM MK TP PP CO KN mt2_X8_readCondition 4 9 3 70 := zm_readCondition hT hI ra9
  have ro8 : RXP xs D cy l ex a c e F B K S V G CN NM MK TP PP CO KN mt2_X8_readOne 0 8 4 94 := zm_readOne hT hI (by omega) (by omega) (fun _ => rc9) (fun _ => ro9)
  have ra8 : RXP xs D cy l ex a c e F B K S V G CN NM MK TP PP CO KN mt2_X8_readAll 3 8 5 119 := zm_readAll hT hI ro8
  have rc8 : RXP xs D cy l ex a c e F B K S V G CN NM MK TP PP CO KN mt2_X8_readCondition 4 8 6 143 := zm_readCondition hT hI ra8
  have ro7 : RXP xs D cy l ex a c e F B K S V G CN NM MK TP PP CO KN mt2_X8_readOne 0 7 7 167 := zm_readOne hT hI (by omega) (by omega) (fun _ => rc8) (fun _ => ro8)
  have ra7 : RXP xs D cy l ex a c e F B K S V G CN NM MK TP PP CO KN mt2_X8_readAll 3 7 8 192 := zm_readAll hT hI ro7
  have rc7 : RXP xs D cy l ex a c e F B K S V G CN NM MK TP PP CO KN mt2_X8_readCondition 4 7 9 216 := zm_readCondition hT hI ra7
  have ro6 : RXP xs D cy l ex a c e F B K S V G CN NM MK TP PP CO KN mt2_X8_readOne 0 6 10 240 := zm_readOne hT hI (by omega) (by omega) (fun _ => rc7) (fun _ => ro7)
  have ra6 : RXP xs D cy l ex a c e F B K S V G CN NM MK TP PP CO KN mt2_X8_readAll 3 6 11 265 := zm_readAll hT hI ro6
  have rc6 : RXP xs D cy l ex a c e F B K S V G CN NM MK TP PP CO KN mt2_X8_readCondition 4 6 12 289 := zm_readCondition hT hI ra6
  have ro5 : RXP xs D cy l ex a c e F B K S V G CN NM MK TP PP CO KN mt2_X8_readOne 0 5 13 313 := zm_readOne hT hI (by omega) (by omega) (fun _ => rc6) (fun _ => ro6)
  have ra5 : RXP xs D cy l ex a c e F B K S V G CN NM MK TP PP CO KN mt2_X8_readAll 3 5 14 338 := zm_readAll hT hI ro5
  have rc5 : RXP xs D cy l ex a c e F B K S V G CN NM MK TP PP CO KN mt2_X8_readCondition 4 5 15 362 := zm_readCondition hT hI ra5
  have ro4 : RXP xs D cy l ex a c e F B K S V G CN NM MK TP PP CO KN mt2_X8_readOne 0 4 16 386 := zm_readOne hT hI (by omega) (by omega) (fun _ => rc5) (fun _ => ro5)
  have ra4 : RXP xs D cy l ex a c e F B K S V G CN NM MK TP PP CO KN mt2_X8_readAll 3 4 17 411 := zm_readAll hT hI ro4
  have rc4 : RXP xs D cy l ex a c e F B K S V G CN NM MK TP PP CO KN mt2_X8_readCondition 4 4 18 435 := zm_readCondition hT hI ra4
  have ro3 : RXP xs D cy l ex a c e F B K S V G CN NM MK TP PP CO KN mt2_X8_readOne 0 3 19 459 := zm_readOne hT hI (by omega) (by omega) (fun _ => rc4) (fun _ => ro4)
  have ra3 : RXP xs D cy l ex a c e F B K S V G CN NM MK TP PP CO KN mt2_X8_readAll 3 3 20 484 := zm_readAll hT hI ro3
  have rc3 : RXP xs D cy l ex a c e F B K S V G CN NM MK TP PP CO KN mt2_X8_readCondition 4 3 21 508 := zm_readCondition hT hI ra3
  have ro2 : RXP xs D cy l ex a c e F B K S V G CN NM MK TP PP CO KN mt2_X8_readOne 0 2 22 532 := zm_readOne hT hI (by omega) (by omega) (fun _ => rc3) (fun _ => ro3)
  have ra2 : RXP xs D cy l ex a c e F B K S V G CN NM MK TP PP CO KN mt2_X8_readAll 3 2 23 557 := zm_readAll hT hI ro2
  have rc2 : RXP xs D cy l ex a c e F B K S V G CN NM MK TP PP CO KN mt2_X8_readCondition 4 2 24 581 := zm_readCondition hT hI ra2
  have ro1 : RXP xs D cy l ex a c e F B K S V G CN NM MK TP PP CO KN mt2_X8_readOne 0 1 25 605 := zm_readOne hT hI (by omega) (by omega) (fun _ => rc2) (fun _ => ro2)
  have ra1 : RXP xs D cy l ex a c e F B K S V G CN NM MK TP PP CO KN mt2_X8_readAll 3 1 26 630 := zm_readAll hT hI ro1
  have rc1 : RXP xs D cy l ex a c e F B K S V G CN NM MK TP PP CO KN mt2_X8_readCondition 4 1 27 654 := zm_readCondition hT hI ra1
  exact rc1
set_option maxRecDepth 4000 in
theorem zj_X11_sentence : PR2[72]? = some mt2_X11_sentence := rfl
set_option maxHeartbeats 16000000 in
set_option maxRecDepth 4000 in
theorem zm_sentence (hB : ∀ k, -128 ≤ B k ∧ B k ≤ 127) (hn : 0 ≤ F 0 ∧ F 0 ≤ 940) (hI : INV CN NM x) : ZMet (EWX xs) D cy l ex mt2_X11_sentence (28, 5, 166, 678) (tW a F B K S V ++ cW c G CN NM MK TP PP CO KN ++ oW a b U jd (zR (c 0)) A1 A2 A3 A4 A5 A6) [zR (b 0)] (fun z Y => ∃ (k : Nat) (P K9 S9 V9 F9 U9 : Nat → Int) (jd9 : ZV) (e : Nat → Nat) (E9 E1 E2 E3 E4 : Nat → Int) (t9 : Nat) (R9 : SR), OpenT (tb B (F 0)) (F 0) 200 k P K9 S9 V9 ∧ sP K9 V9 CN NM t9 4 1 0 0 = R9 ∧ ¬ R9.1 = 99 ∧ z = some (zI (sAns S9 (sFin K9 R9))) ∧ U9 14 = (sFin K9 R9).1 ∧ Y = tW a F9 B K9 S9 V9 ++ cW c G CN NM MK TP PP CO KN ++ eW e E9 E1 E2 E3 E4 ++ oW a b U9 jd9 (zR (c 0)) A1 A2 A3 A4 A5 A6) := by
  obtain ⟨mok, tok, ow⟩ := pok2.1 _ _ zj_X11_sentence
  refine met_ofz EWX_ok mok tok ow (Nat.le_of_ble_eq_true rfl) (fun r p0 e0 s0 m0 ar0 be0 me0 c0 A0 Q0 X hR => ?_)
  have rest9 : ∀ (e : Nat → Nat) (E1 E2 E3 E4 : Nat → Int), ZG D cy r mt2_X11_sentence p0 l e0 (rmR (28, 5, 166, 678)) s0 m0 ar0 be0 me0 c0 A0 Q0 (0 + 1 + mNc (mk_M 2)) (0 + 6 + mNs (mk_M 2)) (7, [(0, zR (b 0))], [zR (e 0)], ((tW a F B K S V) ++ (cW c G CN NM MK TP PP CO KN) ++ (eW e z0 E1 E2 E3 E4) ++ (oW a b U jd (zR (c 0)) A1 A2 A3 A4 A5 A6))) := by
    intro e E1 E2 E3 E4
    refine zg_blk pok2 X 4 [19] (S' := (15, [(1, zR (e 0)), (0, zR (b 0))], [zI 200, zR (a 2)], ((tW a F B K S V) ++ (cW c G CN NM MK TP PP CO KN) ++ (eW e z0 E1 E2 E3 E4) ++ (oW a b U jd (zR (c 0)) A1 A2 A3 A4 A5 A6)))) rfl ⟨rfl, trivial⟩ ?_
    refine zg_callV pok2 EWX_ok X 2 (vas := [zI 200]) (vr := []) (Y1 := (tW a F B K S V)) (Y2 := ((cW c G CN NM MK TP PP CO KN) ++ (eW e z0 E1 E2 E3 E4) ++ (oW a b U jd (zR (c 0)) A1 A2 A3 A4 A5 A6))) rfl rfl (Or.inl rfl) zj_X10_open rfl rfl rfl rfl (Nat.le_of_ble_eq_true rfl) rfl (zm_open (lim := 200) (by omega) hB hn) ⟨by decide, by decide, by decide, by decide⟩ (fun z9 Y9 hz => ?_)
    obtain ⟨rfl, k, P, K9, S9, V9, hO, rfl⟩ := hz
    obtain ⟨FZ, hFZ⟩ : ∃ FZ, zup (zup (zup (zup F 1 ((k : Int) + 1)) 2 (-1)) 6 0) 7 0 = FZ := ⟨_, rfl⟩
    have e6 : FZ 6 = 0 := by rw [← hFZ]; rfl
    have e1 : FZ 1 = (k : Int) + 1 := by rw [← hFZ]; rfl
    have e2 : FZ 2 = -1 := by rw [← hFZ]; rfl
    rw [hFZ, FA_first e6 e2 (by omega)]
    have hTT : TT FZ K9 S9 V9 := TT_of hn (by omega) hO e6 e1
    have hrc1 := zm_rc1 (xs := xs) (D := D) (cy := cy) (l := l) (ex := ex) (a := a) (c := c) (e := e) (B := B) (G := G) (MK := MK) (TP := TP) (PP := PP) (CO := CO) (KN := KN) hTT hI
    refine zg_cv (S2 := (18, [(1, zR (e 0)), (0, zR (b 0))], [], ((tW a (FA K9 S9 V9 FZ 0) B K9 S9 V9) ++ (cW c G CN NM MK TP PP CO KN) ++ (eW e z0 E1 E2 E3 E4) ++ (oW a b U jd (zR (c 0)) A1 A2 A3 A4 A5 A6)))) (by simp only [List.append_assoc]; rfl) ?_
    refine zg_blk pok2 X 7 [19, 19, 20] (S' := (31, [(1, zR (e 0)), (0, zR (b 0))], [zI 1, zR (c 0), zR (a 2), zR (e 0)], ((tW a (FA K9 S9 V9 FZ 0) B K9 S9 V9) ++ (cW c G CN NM MK TP PP CO KN) ++ (eW e z0 E1 E2 E3 E4) ++ (oW a b U jd (zR (c 0)) A1 A2 A3 A4 A5 A6)))) rfl ⟨rfl, rfl, rfl, trivial⟩ ?_
    refine zg_callV pok2 EWX_ok X 14 (vas := [zR (a 2), zR (c 0), zI ((1 : Nat) : Int)]) (vr := []) (Y1 := ((tW a (FA K9 S9 V9 FZ 0) B K9 S9 V9) ++ (cW c G CN NM MK TP PP CO KN) ++ (eW e z0 E1 E2 E3 E4))) (Y2 := (oW a b U jd (zR (c 0)) A1 A2 A3 A4 A5 A6)) rfl rfl (Or.inl rfl) zj_X8_readCondition rfl rfl rfl rfl (Nat.le_of_ble_eq_true rfl) rfl (hrc1 0 0 z0 E1 E2 E3 E4 (show ((0 : Nat) : Int) < FZ 1 by omega) rfl (by omega) ⟨by decide, by decide⟩) ⟨by decide, by decide, by decide, by decide⟩ (fun z9 Y9 hz => ?_)
    obtain ⟨rfl, R9, t9, F9, E9, E19, E29, E39, E49, hs9, hn99, hz, hE5, hE4, rfl⟩ := hz
    have hs9 : sP K9 V9 CN NM t9 4 1 0 0 = R9 := by
      have h9 := hs9 0
      rw [Nat.zero_add] at h9
      exact h9
    rcases hz with ⟨r0, hfe, hbl, hc5, hlt, hl20⟩ | ⟨r0, hfd⟩
    · subst hfe
      refine zg_blk pok2 X 2 [19] (S' := (38, [(1, zR (e 0)), (0, zR (b 0))], [zR (a 2)], ((tW a (FA K9 S9 V9 FZ R9.2.1) B K9 S9 V9) ++ (cW c G CN NM MK TP PP CO KN) ++ (eW e E9 E19 E29 E39 E49) ++ (oW a b U jd (zR (c 0)) A1 A2 A3 A4 A5 A6)))) rfl ⟨rfl, trivial⟩ ?_
      refine zg_callV pok2 EWX_ok X 2 (vas := []) (vr := []) (Y1 := (tW a (FA K9 S9 V9 FZ R9.2.1) B K9 S9 V9)) (Y2 := ((cW c G CN NM MK TP PP CO KN) ++ (eW e E9 E19 E29 E39 E49) ++ (oW a b U jd (zR (c 0)) A1 A2 A3 A4 A5 A6))) rfl rfl (Or.inl rfl) zj_X10_takeEnd rfl rfl rfl rfl (Nat.le_of_ble_eq_true rfl) rfl (zm_takeEndA (idx := R9.2.1) hTT hbl) ⟨by decide, by decide, by decide, by decide⟩ (fun z9 Y9 hz => ?_)
      rcases hz with ⟨rfl, ⟨hk9, rfl⟩ | ⟨hk9, F8, hfd, rfl⟩⟩
      · refine zg_cv (S2 := (41, [(1, zR (e 0)), (0, zR (b 0))], [], ((tW a (FA K9 S9 V9 FZ R9.2.1) B K9 S9 V9) ++ (cW c G CN NM MK TP PP CO KN) ++ (eW e E9 E19 E29 E39 E49) ++ (oW a b U jd (zR (c 0)) A1 A2 A3 A4 A5 A6)))) (by simp only [List.append_assoc]; rfl) ?_
        refine zg_blk pok2 X 1 [] (S' := (42, [(1, zR (e 0)), (0, zR (b 0))], [zR (b 0)], ((tW a (FA K9 S9 V9 FZ R9.2.1) B K9 S9 V9) ++ (cW c G CN NM MK TP PP CO KN) ++ (eW e E9 E19 E29 E39 E49) ++ (oW a b U jd (zR (c 0)) A1 A2 A3 A4 A5 A6)))) rfl trivial ?_
        refine zg_callV pok2 EWX_ok X 19 (vas := []) (vr := []) (Y1 := ((tW a (FA K9 S9 V9 FZ R9.2.1) B K9 S9 V9) ++ (cW c G CN NM MK TP PP CO KN) ++ (eW e E9 E19 E29 E39 E49) ++ (oW a b U jd (zR (c 0)) A1 A2 A3 A4 A5 A6))) (Y2 := []) rfl rfl (Or.inl rfl) zj_X11_closeText rfl rfl rfl rfl (Nat.le_of_ble_eq_true rfl) rfl (zm_closeText2 (F := (FA K9 S9 V9 FZ R9.2.1))) ⟨by decide, by decide, by decide, by decide⟩ (fun z9 Y9 hz => ?_)
        obtain ⟨rfl, rfl⟩ := hz
        have z6 : zup (FA K9 S9 V9 FZ R9.2.1) 0 0 6 = FZ 6 := rfl
        have z7 : zup (FA K9 S9 V9 FZ R9.2.1) 0 0 7 = FZ 7 := rfl
        refine zg_cv (S2 := (45, [(1, zR (e 0)), (0, zR (b 0))], [], ((tW a (zup (FA K9 S9 V9 FZ R9.2.1) 0 0) B K9 S9 V9) ++ (cW c G CN NM MK TP PP CO KN) ++ (eW e E9 E19 E29 E39 E49) ++ (oW a b (zup U 14 ((FA K9 S9 V9 FZ R9.2.1) 6)) jd (zR (c 0)) A1 A2 A3 A4 A5 A6)))) rfl ?_
        refine zg_blk pok2 X 3 [19, 2] (S' := (52, [(1, zR (e 0)), (0, zR (b 0))], [zI ((zup (FA K9 S9 V9 FZ R9.2.1) 0 0) 6)], ((tW a (zup (FA K9 S9 V9 FZ R9.2.1) 0 0) B K9 S9 V9) ++ (cW c G CN NM MK TP PP CO KN) ++ (eW e E9 E19 E29 E39 E49) ++ (oW a b (zup U 14 ((FA K9 S9 V9 FZ R9.2.1) 6)) jd (zR (c 0)) A1 A2 A3 A4 A5 A6)))) rfl ⟨rfl, rfl, trivial⟩ ?_
        refine zg_if X 65 rfl rfl (by first | (unfold zin; omega) | (have h9 := hfd.1; have h8 := hfd.2.2.2.2; unfold zin; omega)) (fun g1 => ?_) (fun g1 => ?_)
        · simp only [x_cnd] at g1
          refine zg_blk pok2 X 5 [19, 14] (S' := (74, [(1, zR (e 0)), (0, zR (b 0))], [zI (E9 5)], ((tW a (zup (FA K9 S9 V9 FZ R9.2.1) 0 0) B K9 S9 V9) ++ (cW c G CN NM MK TP PP CO KN) ++ (eW e E9 E19 E29 E39 E49) ++ (oW a b (zup U 14 ((FA K9 S9 V9 FZ R9.2.1) 6)) (zR (e 0)) (zR (c 0)) A1 A2 A3 A4 A5 A6)))) rfl ⟨rfl, rfl, rfl, rfl, trivial⟩ ?_
          refine zg_reti X hR rfl rfl (by decide) (by decide) ?_
          have hsf : sFin K9 R9 = R9 := by unfold sFin; rw [if_pos r0, if_pos hk9]
          refine ⟨k, P, K9, S9, V9, _, _, _, e, _, _, _, _, _, t9, R9, hO, hs9, hn99, ?_, ?_, rfl⟩
          · rw [hsf]
            unfold sAns
            rw [if_pos r0]
            exact congrArg (fun v => some (zI v)) hc5
          · rw [hsf, r0]
            exact e6
        · simp only [x_ncd] at g1
          exfalso
          have h9 := e6
          have h8 := e6
          omega
      · refine zg_cv (S2 := (41, [(1, zR (e 0)), (0, zR (b 0))], [], ((tW a F8 B K9 S9 V9) ++ (cW c G CN NM MK TP PP CO KN) ++ (eW e E9 E19 E29 E39 E49) ++ (oW a b U jd (zR (c 0)) A1 A2 A3 A4 A5 A6)))) (by simp only [List.append_assoc]; rfl) ?_
        refine zg_blk pok2 X 1 [] (S' := (42, [(1, zR (e 0)), (0, zR (b 0))], [zR (b 0)], ((tW a F8 B K9 S9 V9) ++ (cW c G CN NM MK TP PP CO KN) ++ (eW e E9 E19 E29 E39 E49) ++ (oW a b U jd (zR (c 0)) A1 A2 A3 A4 A5 A6)))) rfl trivial ?_
        refine zg_callV pok2 EWX_ok X 19 (vas := []) (vr := []) (Y1 := ((tW a F8 B K9 S9 V9) ++ (cW c G CN NM MK TP PP CO KN) ++ (eW e E9 E19 E29 E39 E49) ++ (oW a b U jd (zR (c 0)) A1 A2 A3 A4 A5 A6))) (Y2 := []) rfl rfl (Or.inl rfl) zj_X11_closeText rfl rfl rfl rfl (Nat.le_of_ble_eq_true rfl) rfl (zm_closeText2 (F := F8)) ⟨by decide, by decide, by decide, by decide⟩ (fun z9 Y9 hz => ?_)
        obtain ⟨rfl, rfl⟩ := hz
        have z6 : zup F8 0 0 6 = F8 6 := rfl
        have z7 : zup F8 0 0 7 = F8 7 := rfl
        refine zg_cv (S2 := (45, [(1, zR (e 0)), (0, zR (b 0))], [], ((tW a (zup F8 0 0) B K9 S9 V9) ++ (cW c G CN NM MK TP PP CO KN) ++ (eW e E9 E19 E29 E39 E49) ++ (oW a b (zup U 14 (F8 6)) jd (zR (c 0)) A1 A2 A3 A4 A5 A6)))) rfl ?_
        refine zg_blk pok2 X 3 [19, 2] (S' := (52, [(1, zR (e 0)), (0, zR (b 0))], [zI ((zup F8 0 0) 6)], ((tW a (zup F8 0 0) B K9 S9 V9) ++ (cW c G CN NM MK TP PP CO KN) ++ (eW e E9 E19 E29 E39 E49) ++ (oW a b (zup U 14 (F8 6)) jd (zR (c 0)) A1 A2 A3 A4 A5 A6)))) rfl ⟨rfl, rfl, trivial⟩ ?_
        refine zg_if X 65 rfl rfl (by first | (unfold zin; omega) | (have h9 := hfd.1; have h8 := hfd.2.2.2.2; unfold zin; omega)) (fun g2 => ?_) (fun g2 => ?_)
        · simp only [x_cnd] at g2
          exfalso
          have h9 := hfd.1
          have h8 := hfd.2.1
          omega
        · simp only [x_ncd] at g2
          refine zg_blk pok2 X 5 [19, 2] (S' := (64, [(1, zR (e 0)), (0, zR (b 0))], [zI ((-1) - ((zup F8 0 0) 7))], ((tW a (zup F8 0 0) B K9 S9 V9) ++ (cW c G CN NM MK TP PP CO KN) ++ (eW e E9 E19 E29 E39 E49) ++ (oW a b (zup U 14 (F8 6)) jd (zR (c 0)) A1 A2 A3 A4 A5 A6)))) rfl ⟨rfl, rfl, trivial⟩ ?_
          refine zg_reti X hR rfl rfl (by decide) (by decide) ?_
          have hsf : sFin K9 R9 = (1, R9.2.1, 0) := by unfold sFin; rw [if_pos r0, if_neg hk9]
          refine ⟨k, P, K9, S9, V9, _, _, _, e, _, _, _, _, _, t9, R9, hO, hs9, hn99, ?_, ?_, rfl⟩
          · rw [hsf]
            unfold sAns
            rw [if_neg (show ¬ (1 : Int) = 0 from by decide)]
            exact congrArg (fun v => some (zI v)) (by show -1 - F8 7 = -1 - S9 R9.2.1; rw [hfd.2.2.1])
          · rw [hsf]
            exact hfd.1
    · refine zg_blk pok2 X 2 [19] (S' := (38, [(1, zR (e 0)), (0, zR (b 0))], [zR (a 2)], ((tW a F9 B K9 S9 V9) ++ (cW c G CN NM MK TP PP CO KN) ++ (eW e E9 E19 E29 E39 E49) ++ (oW a b U jd (zR (c 0)) A1 A2 A3 A4 A5 A6)))) rfl ⟨rfl, trivial⟩ ?_
      refine zg_callV pok2 EWX_ok X 2 (vas := []) (vr := []) (Y1 := (tW a F9 B K9 S9 V9)) (Y2 := ((cW c G CN NM MK TP PP CO KN) ++ (eW e E9 E19 E29 E39 E49) ++ (oW a b U jd (zR (c 0)) A1 A2 A3 A4 A5 A6))) rfl rfl (Or.inl rfl) zj_X10_takeEnd rfl rfl rfl rfl (Nat.le_of_ble_eq_true rfl) rfl (zm_takeEndX hfd) ⟨by decide, by decide, by decide, by decide⟩ (fun z9 Y9 hz => ?_)
      obtain ⟨rfl, rfl⟩ := hz
      refine zg_cv (S2 := (41, [(1, zR (e 0)), (0, zR (b 0))], [], ((tW a F9 B K9 S9 V9) ++ (cW c G CN NM MK TP PP CO KN) ++ (eW e E9 E19 E29 E39 E49) ++ (oW a b U jd (zR (c 0)) A1 A2 A3 A4 A5 A6)))) (by simp only [List.append_assoc]; rfl) ?_
      refine zg_blk pok2 X 1 [] (S' := (42, [(1, zR (e 0)), (0, zR (b 0))], [zR (b 0)], ((tW a F9 B K9 S9 V9) ++ (cW c G CN NM MK TP PP CO KN) ++ (eW e E9 E19 E29 E39 E49) ++ (oW a b U jd (zR (c 0)) A1 A2 A3 A4 A5 A6)))) rfl trivial ?_
      refine zg_callV pok2 EWX_ok X 19 (vas := []) (vr := []) (Y1 := ((tW a F9 B K9 S9 V9) ++ (cW c G CN NM MK TP PP CO KN) ++ (eW e E9 E19 E29 E39 E49) ++ (oW a b U jd (zR (c 0)) A1 A2 A3 A4 A5 A6))) (Y2 := []) rfl rfl (Or.inl rfl) zj_X11_closeText rfl rfl rfl rfl (Nat.le_of_ble_eq_true rfl) rfl (zm_closeText2 (F := F9)) ⟨by decide, by decide, by decide, by decide⟩ (fun z9 Y9 hz => ?_)
      obtain ⟨rfl, rfl⟩ := hz
      have z6 : zup F9 0 0 6 = F9 6 := rfl
      have z7 : zup F9 0 0 7 = F9 7 := rfl
      refine zg_cv (S2 := (45, [(1, zR (e 0)), (0, zR (b 0))], [], ((tW a (zup F9 0 0) B K9 S9 V9) ++ (cW c G CN NM MK TP PP CO KN) ++ (eW e E9 E19 E29 E39 E49) ++ (oW a b (zup U 14 (F9 6)) jd (zR (c 0)) A1 A2 A3 A4 A5 A6)))) rfl ?_
      refine zg_blk pok2 X 3 [19, 2] (S' := (52, [(1, zR (e 0)), (0, zR (b 0))], [zI ((zup F9 0 0) 6)], ((tW a (zup F9 0 0) B K9 S9 V9) ++ (cW c G CN NM MK TP PP CO KN) ++ (eW e E9 E19 E29 E39 E49) ++ (oW a b (zup U 14 (F9 6)) jd (zR (c 0)) A1 A2 A3 A4 A5 A6)))) rfl ⟨rfl, rfl, trivial⟩ ?_
      refine zg_if X 65 rfl rfl (by first | (unfold zin; omega) | (have h9 := hfd.1; have h8 := hfd.2.2.2.2; unfold zin; omega)) (fun g3 => ?_) (fun g3 => ?_)
      · simp only [x_cnd] at g3
        exfalso
        have h9 := hfd.1
        have h8 := hfd.2.1
        omega
      · simp only [x_ncd] at g3
        refine zg_blk pok2 X 5 [19, 2] (S' := (64, [(1, zR (e 0)), (0, zR (b 0))], [zI ((-1) - ((zup F9 0 0) 7))], ((tW a (zup F9 0 0) B K9 S9 V9) ++ (cW c G CN NM MK TP PP CO KN) ++ (eW e E9 E19 E29 E39 E49) ++ (oW a b (zup U 14 (F9 6)) jd (zR (c 0)) A1 A2 A3 A4 A5 A6)))) rfl ⟨rfl, rfl, trivial⟩ ?_
        refine zg_reti X hR rfl rfl (by decide) (by decide) ?_
        have hsf : sFin K9 R9 = (R9.1, R9.2.1, 0) := by unfold sFin; rw [if_neg r0]
        refine ⟨k, P, K9, S9, V9, _, _, _, e, _, _, _, _, _, t9, R9, hO, hs9, hn99, ?_, ?_, rfl⟩
        · rw [hsf]
          unfold sAns
          rw [if_neg (show ¬ R9.1 = 0 from r0)]
          exact congrArg (fun v => some (zI v)) (by show -1 - F9 7 = -1 - S9 R9.2.1; rw [hfd.2.2.1])
        · rw [hsf]
          exact hfd.1
  refine zg_newSent X (by decide) (by decide) (by decide) (by decide) (fun ee E1 E2 E3 E4 => ?_)
  refine zg_perm ?_ (rest9 ee E1 E2 E3 E4)
  rw [List.append_assoc (tW a F B K S V ++ cW c G CN NM MK TP PP CO KN), List.append_assoc (tW a F B K S V ++ cW c G CN NM MK TP PP CO KN)]
  exact List.Perm.append_left _ List.perm_append_comm
end CF9
