/-! the history's slots, exactly; a scene of the history gets the main scene's city: steps outside -/
def zxor (a b : Int) : Int := (Int32.ofInt a ^^^ Int32.ofInt b).toInt
section XA
variable {OW : List String} {EW : EWt} {D : va_G} {cy : Nat → ClassId} {r : va_W} {ex : Nat → Nat} {M : MT} {own : String}
variable {p : Program} {l : Launch} {e : Env} {R : Room} {s : State} {m : MethodId} {args : Array Value} {below : List Frame} {meth : Method} {c : Code} {A : Nat → Prop} {Q : State → Prop} {rm : RMt} {cb sb N K : Nat} {pc : Nat} {lv : List (Nat × ZV)} {st : List ZV} {Y : ZW}
theorem zg_xor (X : Cx OW EW D cy ex M own p R s m args meth c A rm cb sb) {a b : Int} (hat : x_at (mT M) pc = some (.ixor, 1)) (k : ZG D cy r M p l e R s m args below meth c A Q N K (pc + 1, lv, .inl (zxor a b) :: st, Y)) : ZG D cy r M p l e R s m args below meth c A Q N K (pc, lv, .inl b :: .inl a :: st, Y) := by
  intro H locs ls a1 a2 a3 a4
  refine lv_ixor X.1 X.2.1 (x_dec X hat) ?_
  have h := k H locs ls a1 a2 a3 a4
  have e : zv (.inl (zxor a b)) = .int (Int32.ofInt a ^^^ Int32.ofInt b) := congrArg Value.int (z_oT _)
  simp only [zs, List.map_cons, e] at h
  exact h
end XA
def hW (h : Nat → Nat) (U : Nat → Int) : ZW := [(h 0, .inl (4, [zR (h 1), zI (U 1), zI (U 2)]))]
theorem rem9 {x : Int} (h1 : 0 ≤ x) (h2 : x ≤ 17) : zrem x 9 = x % 9 ∧ 0 ≤ zxor x 9 ∧ zxor x 9 ≤ 100 := by
  have key : ∀ k : Fin 18, zrem (k.val : Int) 9 = (k.val : Int) % 9 ∧ 0 ≤ zxor (k.val : Int) 9 ∧ zxor (k.val : Int) 9 ≤ 100 := by decide +kernel
  have h := key ⟨x.toNat, by omega⟩
  have e : ((x.toNat : Nat) : Int) = x := by omega
  simp only [e] at h
  exact h
section XB1
variable {xs : Nat → Int32} {D : va_G} {cy : Nat → ClassId} {l : Launch} {ex : Nat → Nat} {h : Nat → Nat} {U : Nat → Int}
set_option maxRecDepth 4000 in
theorem zj_J9_floorMod_7cf53 : PR2[4]? = some mt2_J9_floorMod_7cf53 := rfl
set_option maxRecDepth 4000 in
theorem zm_fmod {z1 : Int} (h1 : 0 ≤ z1) (h2 : z1 ≤ 17) : ZMet (EWX xs) D cy l ex mt2_J9_floorMod_7cf53 (0, 0, 0, 0) [] [zI z1, zI 9] (fun z Y => z = some (zI (z1 % 9)) ∧ Y = []) := by
  obtain ⟨mok, tok, ow⟩ := pok2.1 _ _ zj_J9_floorMod_7cf53
  refine met_ofz EWX_ok mok tok ow (Nat.le_of_ble_eq_true rfl) (fun r p0 e0 s0 m0 ar0 be0 me0 c0 A0 Q0 X hR => ?_)
  have r9 := rem9 h1 h2
  refine zg_blk pok2 X 6 [] (S' := (6, [(2, zI (zrem z1 9)), (0, zI z1), (1, zI 9)], [zI 9, zI z1], [])) rfl ⟨(by decide), trivial⟩ ?_
  refine zg_xor X rfl ?_
  refine zg_if X 18 rfl rfl (by unfold zin; omega) (fun g1 => ?_) (fun g1 => ?_)
  · simp only [x_cnd] at g1
    refine zg_blk pok2 X 1 [] (S' := (19, [(2, zI (zrem z1 9)), (0, zI z1), (1, zI 9)], [zI (zrem z1 9)], [])) rfl trivial ?_
    refine zg_reti X hR rfl rfl (by decide) (by decide) ?_
    exact ⟨by rw [r9.1], rfl⟩
  · simp only [x_ncd] at g1
    exfalso
    omega
set_option maxRecDepth 4000 in
theorem zj_X4_slot : PR2[235]? = some mt2_X4_slot := rfl
set_option maxRecDepth 4000 in
theorem zm_slot {z1 : Int} (hu : 0 ≤ U 1 ∧ U 1 ≤ 8) (h1 : 0 ≤ z1 ∧ z1 ≤ 9) : ZMet (EWX xs) D cy l ex mt2_X4_slot (1, 0, 0, 22) (hW h U) [zR (h 0), zI z1] (fun z Y => z = some (zI ((U 1 + z1) % 9)) ∧ Y = hW h U) := by
  obtain ⟨mok, tok, ow⟩ := pok2.1 _ _ zj_X4_slot
  refine met_ofz EWX_ok mok tok ow (Nat.le_of_ble_eq_true rfl) (fun r p0 e0 s0 m0 ar0 be0 me0 c0 A0 Q0 X hR => ?_)
  refine zg_blk pok2 X 5 [0] (S' := (8, [(0, zR (h 0)), (1, zI z1)], [zI 9, zI ((U 1) + z1)], (hW h U))) rfl ⟨rfl, trivial⟩ ?_
  refine zg_callS pok2 EWX_ok X (vas := [zI ((U 1) + z1), zI 9]) (vr := []) (Y1 := []) (Y2 := (hW h U)) rfl rfl (Or.inl rfl) zj_J9_floorMod_7cf53 rfl rfl rfl (Nat.le_of_ble_eq_true rfl) rfl (zm_fmod (z1 := U 1 + z1) (by omega) (by omega)) ⟨by decide, by decide, by decide, by decide⟩ (fun z9 Y9 hz => ?_)
  obtain ⟨rfl, rfl⟩ := hz
  refine zg_reti X hR rfl rfl (by decide) (by decide) ?_
  exact ⟨rfl, rfl⟩
end XB1
/-- the world in another order -/
theorem va_P_perm {D : va_G} {w w' : va_W} {H : Heap} (h : w.Perm w') (hP : va_P D vwCl w H) : va_P D vwCl w' H := va_P_mem.mpr (fun q hq => va_P_mem.mp hP q (h.mem_iff.mpr hq))
theorem va_D_perm {A : Nat → Prop} {w w' : va_W} (h : w.Perm w') (hD : va_D A w) : va_D A w' := by
  obtain ⟨h1, h2⟩ := va_D_mem.mp hD
  exact va_D_mem.mpr ⟨(h.map (fun q => q.1)).nodup_iff.mp h1, fun q hq => h2 q (h.mem_iff.mpr hq)⟩
theorem va_A_perm {w w' : va_W} {sz : Nat} (h : w.Perm w') : va_A w' sz = va_A w sz := by
  have key : ∀ {u v : va_W}, u.Perm v → ∀ q, va_A u sz q → va_A v sz q := by
    intro u v h q hq
    rcases hq with ⟨k, e, h1⟩ | h1
    · obtain ⟨k', h2⟩ := List.mem_iff_getElem?.mp (h.mem_iff.mp (List.mem_of_getElem? h1))
      exact Or.inl ⟨k', e, h2⟩
    · exact Or.inr h1
  funext q
  exact propext ⟨key h.symm q, key h q⟩
theorem PJ2_perm {D : va_G} {cy : Nat → ClassId} {EW : EWt} {ex : Nat → Nat} {w w' : va_W} {vs : List Value} {sz : Nat} {a : Array Value} {U : State} (h : w.Perm w') (hp : PJ2 D cy EW ex w vs sz a U) : PJ2 D cy EW ex w' vs sz a U := by
  obtain ⟨h1, h2, h3, h4, h5, h6⟩ := hp
  exact ⟨h1, h2, va_P_perm h h3, h4, va_D_perm h h5, by rw [va_A_perm h]; exact h6⟩
theorem perm_at {w : va_W} {i : Nat} {q : Nat × va_E} (h : w[i]? = some q) : w.Perm (q :: w.eraseIdx i) := by
  induction w generalizing i with
  | nil => cases h
  | cons x r ih =>
    cases i with
    | zero =>
      simp only [List.getElem?_cons_zero, Option.some.injEq] at h
      subst h
      exact List.Perm.refl _
    | succ i =>
      simp only [List.getElem?_cons_succ] at h
      rw [List.eraseIdx_cons_succ]
      exact ((ih h).cons x).trans (List.Perm.swap q x _)
def ox_slot (M : MT) (rm : RMt) (S : SB) (ins : Instr) (len : Nat) : Option (List SB) := match f_call T2 PR2 RB2 M S ins len with
  | some (j, _, [r, a], rest) => (match f_cf S.2.2.2.1.2.2.1 7 none (bI 1) with
    | some f => if (Nat.beq j 235 && (bv_eq r (bP 7 true none) && (f_isI f && (h_in S.2.2.2.1.2.1 (some a) 0 9 && (Nat.ble 2 rm.1 && (Nat.ble 43 rm.2.2.2 && (Nat.ble S.2.2.2.2.2.1 rm.2.1 && Nat.ble S.2.2.2.2.2.2 rm.2.2.1))))))) = true then
        some [(S.1 + 3, S.2.1, bV S.2.2.2.1.1 0 :: rest, (S.2.2.2.1.1 + 1, (S.2.2.2.1.1, 0, 8) :: S.2.2.2.1.2.1, S.2.2.2.1.2.2.1, (100, [f, a, bV S.2.2.2.1.1 0]) :: S.2.2.2.1.2.2.2), S.2.2.2.2.1, S.2.2.2.2.2.1, S.2.2.2.2.2.2)] else none
    | none => none)
  | _ => none
section SL1
variable {xs : Nat → Int32} {D : va_G} {cy : Nat → ClassId} {I0 : IN} {ks0 : List Nat} {wp0 : va_W} {wr : WR} {M : MT} {own : String}
variable {p : Program} {l : Launch} {e : Env} {R : Room} {s : State} {m : MethodId} {args : Array Value} {below : List Frame} {meth : Method} {c : Code} {A : Nat → Prop} {Q : State → Prop} {rm : RMt} {cb sb : Nat}
set_option maxRecDepth 4000 in
theorem mt_slot {M' : MT} (h : PR2[235]? = some M') : M' = mt2_X4_slot := Option.some.inj (h.symm.trans zj_X4_slot)
set_option maxHeartbeats 2000000 in
theorem s_slot {S : SB} {x : List SB} {ins : Instr} {len : Nat} (X : Cx OW2 (EWX xs) D cy I0.2.2 M own p R s m args meth c A rm cb sb) (h : ox_slot M rm S ins len = some x) (hd : decode (mC M) S.1 = .ok (ins, len))
    (k : ∀ S' ∈ x, Sf T2 FPX D cy I0 ks0 wp0 wr M p l e R s m args below meth c A Q cb sb S') : Sf T2 FPX D cy I0 ks0 wp0 wr M p l e R s m args below meth c A Q cb sb S := by
  unfold ox_slot at h
  split at h
  · rename_i j M' r a rest h1
    split at h
    · rename_i f hf
      split at h
      · rename_i q1
        simp only [Bool.and_eq_true] at q1
        obtain ⟨q1, q2, q3, q4, q5, q6, q7, q8⟩ := q1
        have q1 := beq3 q1
        have q2 := bv_eq_ok q2
        have q5 := Nat.le_of_ble_eq_true q5
        have q6 := Nat.le_of_ble_eq_true q6
        have q7 := Nat.le_of_ble_eq_true q7
        have q8 := Nat.le_of_ble_eq_true q8
        subst q1
        subst q2
        cases h
        have hrw := f_call_rw h1
        intro I H locs ls lv vs ks wp raw a1 a2 a3 a4 a5 a6 a7 a8 a9 a10
        have e9 := hraw_none hrw a5
        subst e9
        rw [List.append_nil] at a6 a7
        obtain ⟨vas, vr, b1, b2, b3, mok, tok, ow, b4, -, run⟩ := s_runs pok2 EWX_ok X h1 hd a1 a3 a4 a6 a7 a8
        obtain ⟨x11, x12, x13, x14⟩ := X.2.2.2.2.2.2.2.2.2.2
        have hA : ∀ q, s.heap.size ≤ q → A q := X.2.2.2.2.2.2.2.1
        have hFA : ∀ q, va_A wp H.size q → A q := by
          intro q hq
          rcases hq with ⟨kq, eq, h1⟩ | h1
          · exact a7.2 _ _ h1
          · exact hA q (Nat.le_trans a8.1 h1)
        have eM := mt_slot b3
        subst eM
        obtain ⟨v0, vs1, rfl, g0, g1⟩ := hvs_cons b1
        obtain ⟨v1, vs2, rfl, g2, g3⟩ := hvs_cons g1
        have g3 := hvs_nil g3
        subst g3
        rcases g0.1 with ⟨h9, -⟩ | ⟨q, mq, rfl⟩
        · cases h9
        obtain ⟨z1, rfl⟩ : ∃ z1 : Int32, v1 = .int z1 := by
          simp only [h_in] at q4
          split at q4
          · rename_i lo9 hi9 hiv
            obtain ⟨y, e, -⟩ := hv_int (lo := lo9) (hi := hi9) a4.2.1 g2 hiv
            exact ⟨y, e⟩
          · cases q4
        have hz := in_iv (I := I) a4.2.1 q4 (hv_ev g2)
        obtain ⟨i, e0, k1, w1, t1⟩ := hp_ref (κ := 7) (d := .inr (4, [.inr (.inr (8, true)), .inl (0, 8), .inl (0, 8)])) a4.1 mq rfl
        obtain ⟨vs', rfl, s1⟩ := kt_obj t1
        obtain ⟨c0, vs', rfl, m0, s1⟩ := hts_r s1
        obtain ⟨u1, vs', rfl, r1, s1⟩ := hts_i s1
        obtain ⟨u2, vs', rfl, r2, s1⟩ := hts_i s1
        have s1 := hts_0 s1
        subst s1
        have hperm := perm_at w1
        let hh : Nat → Nat := fun k => if k = 0 then q else c0
        let UU : Nat → Int := fun k => if k = 1 then u1 else u2
        have ew : (q, (.inr (4, [.ref c0, .int (Int32.ofInt u1), .int (Int32.ofInt u2)]) : va_E)) :: wp.eraseIdx i = zw cy (hW hh UU) ++ wp.eraseIdx i := rfl
        rw [ew] at hperm
        have hz1 := zm_slot (xs := xs) (D := D) (cy := cy) (l := l) (ex := I0.2.2) (h := hh) (U := UU) (z1 := z1.toInt) (by show 0 ≤ u1 ∧ u1 ≤ 8; exact ⟨r1.1, r1.2.1⟩) hz (wp.eraseIdx i) H.size
        have ev : [zR (hh 0), zI z1.toInt].map zv = [.ref q, .int z1] := by
          show [Value.ref q, .int (Int32.ofInt z1.toInt)] = _
          rw [z_oT]
        rw [ev, va_A_perm hperm] at hz1
        have rr := run (1, 0, 0, 22) _ (cb + S.2.2.2.2.2.1) (sb + S.2.2.2.2.2.2) (met_pre hz1 (fun a s hp => PJ2_perm hperm hp)) (by show 1 + 1 ≤ R.frames; omega) (by show 8 + (2 + 11) + 22 ≤ R.locals; omega) (by show cb + S.2.2.2.2.2.1 + 0 ≤ R.cells; omega) (by show sb + S.2.2.2.2.2.2 + 0 ≤ R.slots; omega)
        refine va_calli (a := [Value.ref q, .int z1].toArray) rr a8 (fun q _ hq => hFA q hq) hFA (fun r u t H1 locs1 ht hvm hw hB hz9 hk hS1 => ?_)
        obtain ⟨z, Y', w2, rfl, w3, rfl⟩ := hw
        obtain ⟨B1, B2⟩ := hB
        rw [w3] at w2
        have w2 : Value.int r = .int (Int32.ofInt ((UU 1 + z1.toInt) % 9)) := Option.some.inj w2
        have er : r = Int32.ofInt ((u1 + z1.toInt) % 9) := Value.int.inj w2
        have et : r.toInt = (u1 + z1.toInt) % 9 := by rw [er]; exact z_o32 ⟨by omega, by omega⟩
        have hP1 : va_P D vwCl wp H1 := by rw [← ht]; exact va_P_perm hperm.symm B1
        have hn : I.1.length = S.2.2.2.1.1 := a4.2.1.1
        let J : IN := (I.1 ++ [r.toInt], I.2)
        have hIJ : hxt I J := hxt_app _
        have hJ := a4.xt hIJ rfl (henv_cons (lo := 0) (hi := 8) a4.2.1 (y := r.toInt) (by omega) (by omega))
        have nr : J.1[S.2.2.2.1.1]? = some r.toInt := at_app (k := 0) hn rfl
        have ef : f_ev I.1 f = some u1 := by
          have h9 := int_at (z := 1) a4 (by decide) hf q3
          have h8 : c_cu ks wp 7 1 = some (.int (Int32.ofInt u1)) := by rw [cu_at a4.1 (by decide) k1 w1]; rfl
          rw [h9]
          unfold cint
          rw [h8]
          exact congrArg some (z_o32 r1.2.2)
        have hJ2 := hs_add hJ (f := (100, [f, a, bV S.2.2.2.1.1 0])) ⟨[u1, z1.toInt, r.toInt], ev3s (ev_xt hIJ ef) (ev_xt hIJ (hv_ev g2)) (ev_nm nr), u1, z1.toInt, by rw [et]⟩
        have := k _ List.mem_cons_self J H1 locs1 ls lv (.int r :: vr) ks wp [] a1 (a2.xt hIJ) ⟨⟨r, r.toInt, rfl, nr, by omega⟩, b2.xt hIJ⟩ hJ2 (by
          cases h8 : S.2.2.2.2.1 with
          | none => rfl
          | some x => rw [h8] at hrw; cases hrw) (by rw [List.append_nil]; exact hP1) (by rw [List.append_nil]; exact a7) hS1 (a9.tr hIJ) a10
        exact this
      · cases h
    · cases h
  · cases h
end SL1
