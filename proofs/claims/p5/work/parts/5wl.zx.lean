/-! the z engine: cells in another order, rows copied, a new city -/
theorem va_P_mem {D : va_G} {cl : List vw_C} {ws : va_W} {H : Heap} : va_P D cl ws H ↔ ∀ q ∈ ws, va_at D cl q H := by
  constructor
  · intro h q hq
    obtain ⟨i, hi⟩ := List.getElem?_of_mem hq
    exact h i q hi
  · intro h k q hk
    exact h q (List.mem_of_getElem? hk)
theorem va_D_mem {A : Nat → Prop} {ws : va_W} : va_D A ws ↔ (ws.map (fun q => q.1)).Nodup ∧ ∀ q ∈ ws, A q.1 := by
  constructor
  · intro h
    refine ⟨?_, fun q hq => ?_⟩
    · rw [List.Nodup, List.pairwise_iff_getElem]
      intro i j hi hj hij e
      rw [List.getElem_map, List.getElem_map] at e
      rw [List.length_map] at hi hj
      have := h.1 i j _ _ (List.getElem?_eq_getElem hi) (List.getElem?_eq_getElem hj) e
      omega
    · obtain ⟨i, hi⟩ := List.getElem?_of_mem hq
      exact h.2 i q hi
  · rintro ⟨h1, h2⟩
    refine ⟨fun i j p q hi hj e => ?_, fun k q hk => h2 q (List.mem_of_getElem? hk)⟩
    rw [List.Nodup, List.pairwise_iff_getElem] at h1
    obtain ⟨li, ei⟩ := List.getElem?_eq_some_iff.mp hi
    obtain ⟨lj, ej⟩ := List.getElem?_eq_some_iff.mp hj
    rcases (show i < j ∨ i = j ∨ j < i by omega) with q9 | q9 | q9
    · exact absurd (by rw [List.getElem_map, List.getElem_map, ei, ej]; exact e) (h1 i j (by rw [List.length_map]; exact li) (by rw [List.length_map]; exact lj) q9)
    · exact q9
    · exact absurd (by rw [List.getElem_map, List.getElem_map, ei, ej]; exact e.symm) (h1 j i (by rw [List.length_map]; exact lj) (by rw [List.length_map]; exact li) q9)
theorem arr_i {cA : ClassId} {n : Nat} {f g : Nat → Int32} (h : ∀ j, j < n → f j = g j) : vp_cell cA (n, .inl f) = vp_cell cA (n, .inl g) := by
  show arrV cA n (fun j => .int (f j)) = arrV cA n (fun j => .int (g j))
  unfold arrV
  have e : (fun j : Fin n => Value.int (f j.val)) = fun j : Fin n => Value.int (g j.val) := funext (fun j => by rw [h j.val j.isLt])
  rw [e]
theorem arr_l {cA : ClassId} {n : Nat} {f g : Nat → Int64} (h : ∀ j, j < n → f j = g j) : vp_cell cA (n, .inr (.inl f)) = vp_cell cA (n, .inr (.inl g)) := by
  show arrV cA n (fun j => .long (f j)) = arrV cA n (fun j => .long (g j))
  unfold arrV
  have e : (fun j : Fin n => Value.long (f j.val)) = fun j : Fin n => Value.long (g j.val) := funext (fun j => by rw [h j.val j.isLt])
  rw [e]
/-- the cells of a new city, as the first engine finds them -/
def CITC : List AC := [.inr (1, [aR 1, aR 2, aR 3, aR 4, aR 5, aR 6, aR 7, aI 0, aI 0]), .inl (0, 8, aI 0, [(7, aI 5), (6, aI 2), (5, aI 1), (4, aI 3)]), .inl (3, 40, .inr (.inr (.inl (0, 0))), []), .inl (0, 8, aI 0, []), .inl (0, 8, aI 0, []), .inl (0, 6, aI 0, []), .inl (0, 6, aI 0, []), .inl (0, 6, aI 0, [])]
def dAV : DecidableEq AV := by infer_instance
def dNV : DecidableEq (Nat × AV) := @instDecidableEqProd _ _ inferInstance dAV
def dLV : DecidableEq (List (Nat × AV)) := @instDecidableEqList _ dNV
def dAC : DecidableEq AC := @instDecidableEqSum _ _ (@instDecidableEqProd _ _ inferInstance (@instDecidableEqProd _ _ inferInstance (@instDecidableEqProd _ _ dAV dLV))) (@instDecidableEqProd _ _ inferInstance (@instDecidableEqList _ dAV))
def dLC : DecidableEq (List AC) := @instDecidableEqList _ dAC
set_option maxRecDepth 100000 in
theorem cit_run : (match e_run PRG1 RTB1 [] 400 true false (mk_M 0) (mT (mk_M 0)) (0, e_args 0 (aR 0 :: mk_as 0), [], [], [.inr (mk_ci 0, mk_fs 0)], 0, 0) with
  | some o => o.all (fun x => @decide (x.2.2 = CITC) (dLC x.2.2 CITC))
  | none => false) = true := by decide +kernel
theorem len8 {α : Type} {x : List α} (h : 8 = x.length) : ∃ a b c d e f g i : α, x = [a, b, c, d, e, f, g, i] := by
  match x, h with
  | [a, b, c, d, e, f, g, i], _ => exact ⟨a, b, c, d, e, f, g, i, rfl⟩
theorem gi_eq {ν : Nat → Int} {al : List Nat} {b : Nat} {z : Int} {x : Int32} (h : gv ν al b (aI z) (.int x)) (hz : zin z) : x = Int32.ofInt z := by
  obtain ⟨y, e, h1, h2⟩ := h
  cases e
  exact (fa_eq _ _).mpr (by rw [z_o32 hz]; omega)
theorem gl_eq {ν : Nat → Int} {al : List Nat} {b : Nat} {x : Int64} (h : gv ν al b (.inr (.inr (.inl (0, 0)))) (.long x)) : x = Int64.ofInt 0 := by
  obtain ⟨y, e, h1, h2⟩ := h
  cases e
  exact Int64.toInt_inj.mp (by rw [z_o64 ⟨by omega, by omega⟩]; omega)
section ZX
variable {P : List MT} {RT : List (List (Nat × RES))} {OW : List String} {EW : EWt} {D : va_G} {cy : Nat → ClassId} {r : va_W} {ex : Nat → Nat} {M M' : MT} {own : String}
variable {p : Program} {l : Launch} {e : Env} {R : Room} {s : State} {m : MethodId} {args : Array Value} {below : List Frame} {meth : Method} {c : Code} {A : Nat → Prop} {Q : State → Prop} {rm rm' : RMt} {cb sb N K : Nat} {pc : Nat} {lv : List (Nat × ZV)} {st : List ZV} {Y Y' : ZW}
theorem xg_perm {wp wp' : va_W} {lv : List (Nat × Value)} {st : List Value} (h : wp.Perm wp') (k : XG D M p l e R s m args below meth c A Q N K (pc, lv, st, wp')) : XG D M p l e R s m args below meth c A Q N K (pc, lv, st, wp) := by
  intro H locs ls a1 a2 a3 a4
  have a2 := va_P_mem.mp a2
  have a3 := va_D_mem.mp a3
  refine k H locs ls a1 (va_P_mem.mpr (fun q hq => a2 q (h.mem_iff.mpr hq))) (va_D_mem.mpr ⟨(h.map _).nodup_iff.mp a3.1, fun q hq => a3.2 q (h.mem_iff.mpr hq)⟩) a4
theorem zg_perm (h : Y.Perm Y') (k : ZG D cy r M p l e R s m args below meth c A Q N K (pc, lv, st, Y')) : ZG D cy r M p l e R s m args below meth c A Q N K (pc, lv, st, Y) :=
  xg_perm ((h.map (zc cy)).append_right r) k
theorem zg_copy (hP : POK2 P RT OW) (X : Cx OW EW D cy ex M own p R s m args meth c A rm cb sb) {ix z1 z2 qs qd n : Nat} {z3 : Int} {f g : Nat → Int} (is id9 : Nat) (hat : x_at (mT M) pc = some (.invokestatic ix, 3)) (hr : e_res RT (mO M) ix = some (7, z1, z2, z3)) (hs : Y[is]? = some (qs, .inr (.inl (0, n, f)))) (hd9 : Y[id9]? = some (qd, .inr (.inl (0, n, g)))) (hn : n < 65536) (h1 : 1 ≤ rm.1) (hc : z_cats st + (nativeFrameWords "java/lang/System" "arraycopy" 5 + 11) ≤ rm.2.2.2)
    (k : ∀ h : Nat → Int, ZG D cy r M p l e R s m args below meth c A Q N K (pc + 3, lv, st, Y.set id9 (qd, .inr (.inl (0, n, h))))) : ZG D cy r M p l e R s m args below meth c A Q N K (pc, lv, .inl (n : Int) :: .inl 0 :: .inr (.inr (some qd)) :: .inl 0 :: .inr (.inr (some qs)) :: st, Y) := by
  have hd := x_dec X hat
  obtain ⟨x1, x2, x3, x4, x5, x6, x7, x8, x9, x10, x11, x12, x13, x14⟩ := X
  have hro := (res_ok hP x4 hr).1
  intro H locs ls a1 a2 a3 a4
  have e0 : (Int32.ofInt 0).toInt = ((0 : Nat) : Int) := z_o32 ⟨by decide, by decide⟩
  have en : (Int32.ofInt (n : Int)).toInt = (n : Int) := z_o32 ⟨by omega, by omega⟩
  obtain ⟨v1, v2⟩ := en_len (k := 0) e0 (by omega)
  obtain ⟨v5, v6⟩ := en_len en (by omega)
  refine va_copyi x1 x2 (by rw [x3]; exact a1.1.symm) x5 (x6 _ hro) (x6 _ hP.2.2.1) (x6 _ hP.2.2.2.1) (x6 _ hP.2.2.2.2) x7.1 a2 a3 a4 is id9 0 0 (zw_at hs) (zw_at hd9) rfl rfl rfl v1 v1 v5 (by rw [v2, v6]; omega) (by rw [v2, v6]; omega) (fun i _ => rfl) (by omega) (by show x_cats (st.map zv) + _ ≤ _; rw [z_cats_ok]; omega) hd (fun H1 locs1 b1 b2 b3 => ?_)
  rw [v2, v6] at b1 b2
  have ec : va_cpy (rI f) (rI g) 0 0 n = rI (fun j => (va_cpy (rI f) (rI g) 0 0 n j).toInt) := by
    funext j
    exact (z_oT _).symm
  have hset := zw_set (cy := cy) (r := r) (q' := qd) (e' := (.inr (.inl (0, n, fun j => (va_cpy (rI f) (rI g) 0 0 n j).toInt)) : ZE)) hd9
  simp only [ze] at hset
  rw [← ec] at hset
  have b1 : va_P D vwCl ((zw cy Y ++ r).set id9 (qd, .inl (cy 0, n, .inl (va_cpy (rI f) (rI g) 0 0 n)))) H1 := b1
  have b2 : va_D A ((zw cy Y ++ r).set id9 (qd, .inl (cy 0, n, .inl (va_cpy (rI f) (rI g) 0 0 n)))) := b2
  rw [hset] at b1 b2
  exact k _ H1 locs1 ls a1 b1 b2 b3
end ZX
section ZY
variable {D : va_G} {cy : Nat → ClassId} {r : va_W} {ex : Nat → Nat} {own : String} {xs : Nat → Int32}
variable {p : Program} {l : Launch} {e : Env} {R : Room} {s : State} {m : MethodId} {args : Array Value} {below : List Frame} {meth : Method} {c : Code} {A : Nat → Prop} {Q : State → Prop} {rm : RMt} {cb sb N K : Nat} {lv : List (Nat × ZV)} {Y : ZW}
set_option maxRecDepth 4000 in
theorem zg_newCity (X : Cx OW2 (EWX xs) D cy ex mt2_X11_city own p R s m args meth c A rm cb sb) (h4 : 4 ≤ R.frames) (h120 : 120 ≤ R.locals) (hN : N + 8 ≤ R.cells) (hK : K + 91 ≤ R.slots)
    (k : ∀ cc : Nat → Nat, ZG D cy r mt2_X11_city p l e R s m args below meth c A Q (N + 1 + mNc (mk_M 0)) (K + 9 + mNs (mk_M 0)) (7, lv, [.inr (.inr (some (cc 0)))], Y ++ cW cc z0 cn0 z0 z0 z0 z0 z0 z0)) : ZG D cy r mt2_X11_city p l e R s m args below meth c A Q N K (0, lv, [], Y) := by
  have d0 : decode (mC mt2_X11_city) 0 = .ok (.new 27, 3) := x_dec X rfl
  have d3 : decode (mC mt2_X11_city) 3 = .ok (.dup, 1) := x_dec X rfl
  have d4 : decode (mC mt2_X11_city) 4 = .ok (.invokespecial 29, 3) := x_dec X rfl
  obtain ⟨x1, x2, x3, x4, x5, x6, x7, x8, x9, x10, x11, x12, x13, x14⟩ := X
  have hr : e_res RB2 (mO mt2_X11_city) 27 = some (2, 1, 9, 0) := rfl
  intro H locs ls a1 a2 a3 a4
  obtain ⟨r0, hc, hn, w1, w2, w3⟩ := (res_ok pok2 x4 hr).1
  obtain ⟨r1, r2, r3⟩ := cl_ok 1 r0 hc
  refine va_new (ci := 1) (fs := v_dflts (clTy 1) 0 r0.2.2) (C := r0.1) (T := r0.2.1) (N := r0.2.2) x1 x2 x6 r3 (clTy 1) r1 x5 (x6 _ w1) (x6 _ (by first | (rw [hn]; exact w2) | (rw [← hn]; exact w2))) (x6 _ w3) x7.1 a2 a3 a4 x8 hc (fun j hj => ?_) (by omega) (by omega) d0 (fun q H1 g1 g2 g3 => ?_)
  · rw [v_dflts_at _ _ _ hj, Nat.zero_add]
  · refine lv_dup x1 x2 d3 rfl ?_
    obtain ⟨hok, hlk⟩ := mk_lk (lo := []) (o := 0) (i := 29) (k := 0) rfl x4
    obtain ⟨mok, tok, ow⟩ := mk_mz 0
    obtain ⟨fr1, fr2⟩ := mk_fr 0
    unfold mk_ok at hok
    simp only [Bool.and_eq_true] at hok
    obtain ⟨o1, o2, o3, o4, o5, o6⟩ := hok
    have o4 := Nat.le_of_ble_eq_true o4
    have o5 := beq3 o5
    have o6 := beq3 o6
    have hdf : e_dflts (clTy (mk_ci 0)) 0 r0.2.2 = some (mk_fs 0) := by
      have hc' : vwCl[mk_ci 0]? = some r0 := hc
      rw [hc'] at o2
      simp only at o2
      obtain ⟨fs, hfs⟩ := Option.isSome_iff_exists.mp o2
      unfold mk_fs
      rw [hc']
      simp only
      rw [hfs]
    have hcr := cit_run
    split at hcr
    · rename_i outs hrun
      have hk0 : mNc (mk_M 0) ≤ 7 ∧ mNs (mk_M 0) ≤ 82 := by decide
      refine mk_go (M := mt2_X11_city) (ci := 1) (b := q) (as := mk_as 0) (vas := []) (vr := [.ref q]) (wp := zw cy Y ++ r) mok tok ow o5 hrun o4 hdf trivial o6.symm hlk x1 x2 x3 x5 x6 x7 x8 a1.1 (Nat.le_of_ble_eq_true rfl) (by omega) (by omega) (by omega) (by omega) d4 g1 g2 g3 (fun ws' o H2 locs2 ho hW hal hP1 hD1 hS1 => ?_)
      have hoo := List.all_eq_true.mp hcr o ho
      have hoo : o.2.2 = CITC := @of_decide_eq_true _ (dLC o.2.2 CITC) hoo
      rw [hoo] at hW
      obtain ⟨hlen, hat⟩ := hW
      obtain ⟨w0, w1, w2, w3, w4, w5, w6, w7, rfl⟩ := len8 hlen
      obtain ⟨q0, e0, f0, g0⟩ := hat 0 _ rfl
      obtain ⟨q1, e1, f1, g1⟩ := hat 1 _ rfl
      obtain ⟨q2, e2, f2, g2⟩ := hat 2 _ rfl
      obtain ⟨q3, e3, f3, g3⟩ := hat 3 _ rfl
      obtain ⟨q4, e4, f4, g4⟩ := hat 4 _ rfl
      obtain ⟨q5, e5, f5, g5⟩ := hat 5 _ rfl
      obtain ⟨q6, e6, f6, g6⟩ := hat 6 _ rfl
      obtain ⟨q7, e7, f7, g7⟩ := hat 7 _ rfl
      cases f0
      cases f1
      cases f2
      cases f3
      cases f4
      cases f5
      cases f6
      cases f7
      obtain ⟨vs, rfl, hv⟩ := g0
      obtain ⟨-, y1, rfl, hy1⟩ : 0 ≤ 2 ∧ ∃ f : Nat → Int32, e1 = .inl (cy 0, 8, .inl f) ∧ ∀ j, j < 8 → gv (fun _ => 0) [q0, q1, q2, q3, q4, q5, q6, q7] q (e_get (aI 0) [(7, aI 5), (6, aI 2), (5, aI 1), (4, aI 3)] j) (.int (f j)) := by
        rcases g1 with g | ⟨h, -⟩ | ⟨h, -⟩
        · exact g
        · exact absurd h (by decide)
        · exact absurd h (by decide)
      obtain ⟨-, y3, rfl, hy3⟩ : 0 ≤ 2 ∧ ∃ f : Nat → Int32, e3 = .inl (cy 0, 8, .inl f) ∧ ∀ j, j < 8 → gv (fun _ => 0) [q0, q1, q2, q3, q4, q5, q6, q7] q (e_get (aI 0) [] j) (.int (f j)) := by
        rcases g3 with g | ⟨h, -⟩ | ⟨h, -⟩
        · exact g
        · exact absurd h (by decide)
        · exact absurd h (by decide)
      obtain ⟨-, y4, rfl, hy4⟩ : 0 ≤ 2 ∧ ∃ f : Nat → Int32, e4 = .inl (cy 0, 8, .inl f) ∧ ∀ j, j < 8 → gv (fun _ => 0) [q0, q1, q2, q3, q4, q5, q6, q7] q (e_get (aI 0) [] j) (.int (f j)) := by
        rcases g4 with g | ⟨h, -⟩ | ⟨h, -⟩
        · exact g
        · exact absurd h (by decide)
        · exact absurd h (by decide)
      obtain ⟨-, y5, rfl, hy5⟩ : 0 ≤ 2 ∧ ∃ f : Nat → Int32, e5 = .inl (cy 0, 6, .inl f) ∧ ∀ j, j < 6 → gv (fun _ => 0) [q0, q1, q2, q3, q4, q5, q6, q7] q (e_get (aI 0) [] j) (.int (f j)) := by
        rcases g5 with g | ⟨h, -⟩ | ⟨h, -⟩
        · exact g
        · exact absurd h (by decide)
        · exact absurd h (by decide)
      obtain ⟨-, y6, rfl, hy6⟩ : 0 ≤ 2 ∧ ∃ f : Nat → Int32, e6 = .inl (cy 0, 6, .inl f) ∧ ∀ j, j < 6 → gv (fun _ => 0) [q0, q1, q2, q3, q4, q5, q6, q7] q (e_get (aI 0) [] j) (.int (f j)) := by
        rcases g6 with g | ⟨h, -⟩ | ⟨h, -⟩
        · exact g
        · exact absurd h (by decide)
        · exact absurd h (by decide)
      obtain ⟨-, y7, rfl, hy7⟩ : 0 ≤ 2 ∧ ∃ f : Nat → Int32, e7 = .inl (cy 0, 6, .inl f) ∧ ∀ j, j < 6 → gv (fun _ => 0) [q0, q1, q2, q3, q4, q5, q6, q7] q (e_get (aI 0) [] j) (.int (f j)) := by
        rcases g7 with g | ⟨h, -⟩ | ⟨h, -⟩
        · exact g
        · exact absurd h (by decide)
        · exact absurd h (by decide)
      obtain ⟨-, y2, rfl, hy2⟩ : 3 = 3 ∧ ∃ f : Nat → Int64, e2 = .inl (cy 3, 40, .inr (.inl f)) ∧ ∀ j, j < 40 → gv (fun _ => 0) [q0, q1, q2, q3, q4, q5, q6, q7] q (e_get (.inr (.inr (.inl (0, 0)))) [] j) (.long (f j)) := by
        rcases g2 with ⟨h, -⟩ | g | ⟨h, -⟩
        · exact absurd h (by decide)
        · exact g
        · exact absurd h (by decide)
      obtain ⟨more, hal⟩ := hal
      have eq0 : q0 = q := by
        have h9 : [q0, q1, q2, q3, q4, q5, q6, q7] = [q] ++ more := hal
        simp only [List.cons_append, List.nil_append, List.cons.injEq] at h9
        exact h9.1
      have hvs : vs = [.ref q1, .ref q2, .ref q3, .ref q4, .ref q5, .ref q6, .ref q7, .int (Int32.ofInt 0), .int (Int32.ofInt 0)] := by
        match vs, hv with
        | [u1, u2, u3, u4, u5, u6, u7, u8, u9], ⟨⟨p1, l1, h1⟩, ⟨p2, l2, h2⟩, ⟨p3, l3, h3⟩, ⟨p4, l4, h4⟩, ⟨p5, l5, h5⟩, ⟨p6, l6, h6⟩, ⟨p7, l7, h7⟩, ⟨p8, h8, b8, c8⟩, ⟨p9, h9, b9, c9⟩, _⟩ =>
          cases l1
          cases l2
          cases l3
          cases l4
          cases l5
          cases l6
          cases l7
          have e8 : p8 = Int32.ofInt 0 := (fa_eq _ _).mpr (by rw [z_o32 ⟨by decide, by decide⟩]; omega)
          have e9 : p9 = Int32.ofInt 0 := (fa_eq _ _).mpr (by rw [z_o32 ⟨by decide, by decide⟩]; omega)
          rw [h1, h2, h3, h4, h5, h6, h7, h8, h9, e8, e9]
      subst eq0
      subst hvs
      have hP2 := va_P_mem.mp hP1
      have hD2 := va_D_mem.mp hD1
      have hzz : zin 0 := ⟨by decide, by decide⟩
      rw [show r0.2.2 = 9 by first | exact hn | exact hn.symm]
      refine k (fun i => ([q0, q1, q2, q3, q4, q5, q6, q7] : List Nat).getD i 0) H2 locs2 ls a1 ?_ ?_ hS1
      · refine va_P_mem.mpr (fun x hx => ?_)
        have hx : x ∈ zw cy (Y ++ cW (fun i => ([q0, q1, q2, q3, q4, q5, q6, q7] : List Nat).getD i 0) z0 cn0 z0 z0 z0 z0 z0 z0) ++ r := hx
        rw [zw_app] at hx
        rcases List.mem_append.mp hx with h | h
        · exact hP2 x (List.mem_append_left _ (List.mem_append_left _ h))
        · rcases List.mem_append.mp h with h | h
          · have h : x ∈ [(q0, (.inr (1, [.ref q1, .ref q2, .ref q3, .ref q4, .ref q5, .ref q6, .ref q7, .int (Int32.ofInt 0), .int (Int32.ofInt 0)]) : va_E)), (q1, .inl (cy 0, 8, .inl (rI cn0))), (q2, .inl (cy 3, 40, .inr (.inl (rL z0)))), (q3, .inl (cy 0, 8, .inl (rI z0))), (q4, .inl (cy 0, 8, .inl (rI z0))), (q5, .inl (cy 0, 6, .inl (rI z0))), (q6, .inl (cy 0, 6, .inl (rI z0))), (q7, .inl (cy 0, 6, .inl (rI z0)))] := h
            simp only [List.mem_cons, List.not_mem_nil, or_false] at h
            rcases h with rfl | rfl | rfl | rfl | rfl | rfl | rfl | rfl
            · exact hP2 _ (List.mem_append_right _ (by simp))
            · show H2[q1]? = some (vp_cell (cy 0) (8, .inl (rI cn0)))
              rw [← arr_i (f := y1) (g := rI cn0) (fun j hj => ?_)]
              · exact hP2 (q1, .inl (cy 0, 8, .inl y1)) (List.mem_append_right _ (by simp))
              · have h9 := hy1 j hj
                rcases (show j = 0 ∨ j = 1 ∨ j = 2 ∨ j = 3 ∨ j = 4 ∨ j = 5 ∨ j = 6 ∨ j = 7 by omega) with rfl | rfl | rfl | rfl | rfl | rfl | rfl | rfl
                · exact gi_eq (z := 0) h9 ⟨by decide, by decide⟩
                · exact gi_eq (z := 0) h9 ⟨by decide, by decide⟩
                · exact gi_eq (z := 0) h9 ⟨by decide, by decide⟩
                · exact gi_eq (z := 0) h9 ⟨by decide, by decide⟩
                · exact gi_eq (z := 3) h9 ⟨by decide, by decide⟩
                · exact gi_eq (z := 1) h9 ⟨by decide, by decide⟩
                · exact gi_eq (z := 2) h9 ⟨by decide, by decide⟩
                · exact gi_eq (z := 5) h9 ⟨by decide, by decide⟩
            · show H2[q2]? = some (vp_cell (cy 3) (40, .inr (.inl (rL z0))))
              rw [← arr_l (f := y2) (g := rL z0) (fun j hj => gl_eq (hy2 j hj))]
              exact hP2 (q2, .inl (cy 3, 40, .inr (.inl y2))) (List.mem_append_right _ (by simp))
            · show H2[q3]? = some (vp_cell (cy 0) (8, .inl (rI z0)))
              rw [← arr_i (f := y3) (g := rI z0) (fun j hj => gi_eq (z := 0) (hy3 j hj) hzz)]
              exact hP2 (q3, .inl (cy 0, 8, .inl y3)) (List.mem_append_right _ (by simp))
            · show H2[q4]? = some (vp_cell (cy 0) (8, .inl (rI z0)))
              rw [← arr_i (f := y4) (g := rI z0) (fun j hj => gi_eq (z := 0) (hy4 j hj) hzz)]
              exact hP2 (q4, .inl (cy 0, 8, .inl y4)) (List.mem_append_right _ (by simp))
            · show H2[q5]? = some (vp_cell (cy 0) (6, .inl (rI z0)))
              rw [← arr_i (f := y5) (g := rI z0) (fun j hj => gi_eq (z := 0) (hy5 j hj) hzz)]
              exact hP2 (q5, .inl (cy 0, 6, .inl y5)) (List.mem_append_right _ (by simp))
            · show H2[q6]? = some (vp_cell (cy 0) (6, .inl (rI z0)))
              rw [← arr_i (f := y6) (g := rI z0) (fun j hj => gi_eq (z := 0) (hy6 j hj) hzz)]
              exact hP2 (q6, .inl (cy 0, 6, .inl y6)) (List.mem_append_right _ (by simp))
            · show H2[q7]? = some (vp_cell (cy 0) (6, .inl (rI z0)))
              rw [← arr_i (f := y7) (g := rI z0) (fun j hj => gi_eq (z := 0) (hy7 j hj) hzz)]
              exact hP2 (q7, .inl (cy 0, 6, .inl y7)) (List.mem_append_right _ (by simp))
          · exact hP2 x (List.mem_append_left _ (List.mem_append_right _ h))
      · have e9 : (zw cy (Y ++ cW (fun i => ([q0, q1, q2, q3, q4, q5, q6, q7] : List Nat).getD i 0) z0 cn0 z0 z0 z0 z0 z0 z0) ++ r).map (fun q => q.1) = (zw cy Y).map (fun q => q.1) ++ ([q0, q1, q2, q3, q4, q5, q6, q7] ++ r.map (fun q => q.1)) := by
          rw [zw_app, List.map_append, List.map_append]
          rfl
        have hpm : ((zw cy Y ++ r ++ [(q0, (.inr (1, [.ref q1, .ref q2, .ref q3, .ref q4, .ref q5, .ref q6, .ref q7, .int (Int32.ofInt 0), .int (Int32.ofInt 0)]) : va_E)), (q1, .inl (cy 0, 8, .inl y1)), (q2, .inl (cy 3, 40, .inr (.inl y2))), (q3, .inl (cy 0, 8, .inl y3)), (q4, .inl (cy 0, 8, .inl y4)), (q5, .inl (cy 0, 6, .inl y5)), (q6, .inl (cy 0, 6, .inl y6)), (q7, .inl (cy 0, 6, .inl y7))]).map (fun q => q.1)).Perm ((zw cy Y).map (fun q => q.1) ++ ([q0, q1, q2, q3, q4, q5, q6, q7] ++ r.map (fun q => q.1))) := by
          rw [List.map_append, List.map_append, List.append_assoc]
          exact List.Perm.append_left _ List.perm_append_comm
        refine va_D_mem.mpr ⟨?_, fun x hx => ?_⟩
        · show ((zw cy (Y ++ cW (fun i => ([q0, q1, q2, q3, q4, q5, q6, q7] : List Nat).getD i 0) z0 cn0 z0 z0 z0 z0 z0 z0) ++ r).map (fun q => q.1)).Nodup
          rw [e9]
          exact hpm.nodup_iff.mp hD2.1
        · have hm : x.1 ∈ (zw cy (Y ++ cW (fun i => ([q0, q1, q2, q3, q4, q5, q6, q7] : List Nat).getD i 0) z0 cn0 z0 z0 z0 z0 z0 z0) ++ r).map (fun q => q.1) := List.mem_map.mpr ⟨x, hx, rfl⟩
          rw [e9] at hm
          obtain ⟨y, h8, h9⟩ := List.mem_map.mp (hpm.mem_iff.mpr hm)
          rw [← h9]
          exact hD2.2 y h8
    · cases hcr
end ZY
