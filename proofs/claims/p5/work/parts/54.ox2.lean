/-! steps outside: a whole row of ints copied into another -/
def f_cty (xs xd : List (Nat × BT)) (n : Nat) : Bool := (List.range n).all (fun j => match k_seg xs j, k_seg xd j with | some (.inl (a, b)), some (.inl (c, d)) => decide (c ≤ a) && decide (b ≤ d) | _, _ => false)
def f_noK (T : TBt) (κ : Nat) (f : SFt) : Bool := match T.2.2[f.1]? with
  | some L => L.all (fun s => !(Nat.beq s.1 κ))
  | none => false
def ox_acp (T : TBt) (RT : List (List (Nat × RES))) (M : MT) (wr : WR) (rm : RMt) (S : SB) (ins : Instr) (len : Nat) : Option (List SB) := match S with
  | (pc, lo, st, (n, E, CF, SF), rw, nc, ns) => (match ins, st with
    | .invokestatic i, nn :: dp :: d :: sp :: s0 :: st' => (match e_res RT (mO M) i, f_kd T E s0, f_kd T E d with
      | some (kd, _, _, _), some (_, _, _, .inl (ts, n0, xs)), some (κ, _, _, .inl (td, n1, xd)) => if (Nat.beq kd 7 && (Nat.beq ts 0 && (Nat.beq td 0 && (Nat.beq len 3 && (bv_eq nn (bI (n1 : Int)) && (bv_eq dp (bI 0) && (bv_eq sp (bI 0) && (Nat.beq n0 n1 && (decide (n1 < 65536) && (f_cty xs xd n1 && (f_wr wr κ 0 (n1 - 1) && (Nat.ble 1 rm.1 && Nat.ble (f_ctg st' + (nativeFrameWords "java/lang/System" "arraycopy" 5 + 11)) rm.2.2.2)))))))))))) = true then some [(pc + 3, lo, st', (n, E, CF.filter (fun f => !(Nat.beq f.1 κ)), SF.filter (f_noK T κ)), rw, nc, ns)] else none
      | _, _, _ => none)
    | _, _ => none)
section OX2
variable {T : TBt} {FP : Nat → CUt → List Int → Prop} {OW : List String} {EW : EWt} {D : va_G} {cy : Nat → ClassId} {I0 : IN} {ks0 : List Nat} {wp0 : va_W} {wr : WR} {M : MT} {own : String} {P : List MT} {RT : List (List (Nat × RES))}
variable {p : Program} {l : Launch} {e : Env} {R : Room} {s : State} {m : MethodId} {args : Array Value} {below : List Frame} {meth : Method} {c : Code} {A : Nat → Prop} {Q : State → Prop} {rm : RMt} {cb sb : Nat}
/-- one cell of a kind is changed: facts of other kinds stay -/
theorem HS_other {I : IN} {ks : List Nat} {wp : va_W} {n : Nat} {E : EB} {CF : List CFt} {SF : List SFt} {κ i q : Nat} {e0 e1 : va_E} {d : KD} (hFP : FPOK T FP) (hSU : SUOK T) (h : HS T FP cy I ks wp (n, E, CF, SF)) (hi : ks[i]? = some κ) (hw : wp[i]? = some (q, e0)) (hd : T.1[κ]? = some d) (ht9 : ktyped cy I.2.1 d e1) :
    HS T FP cy I ks (wp.set i (q, e1)) (n, E, CF.filter (fun f => !(Nat.beq f.1 κ)), SF.filter (f_noK T κ)) := by
  obtain ⟨h1, hE, h3, h4⟩ := h
  simp only at hE h3 h4
  refine ⟨hpool_set h1 hi hw hd ht9, hE, fun f hf => ?_, fun f hf => ?_⟩
  · obtain ⟨f1, f2⟩ := List.mem_filter.mp hf
    obtain ⟨i', q', e', z, x, g1, g2, g3, g4, g5, g6⟩ := h3 f f1
    have hne : i' ≠ i := by
      intro hii
      subst hii
      rw [hi] at g1
      have := Option.some.inj g1
      rw [← this, Nat.beq_refl] at f2
      cases f2
    exact ⟨i', q', e', z, x, g1, by rw [List.getElem?_set, if_neg (fun h => hne h.symm)]; exact g2, g3, g4, g5, g6⟩
  · obtain ⟨f1, f2⟩ := List.mem_filter.mp hf
    obtain ⟨zs, z1, z2⟩ := h4 f f1
    refine ⟨zs, z1, ?_⟩
    unfold f_noK at f2
    split at f2
    · rename_i L hL
      refine hFP f.1 L _ _ zs hL (fun s9 hs lo hi9 j k1 k2 k3 k4 => ?_) z2
      have hk := List.all_eq_true.mp f2 s9 hs
      have hne : s9.1 ≠ κ := fun h => by rw [h, Nat.beq_refl] at hk; cases hk
      refine ⟨fun _ => ?_, fun q9 v9 hv9 => ?_⟩
      · unfold c_cu
        rw [c_fi_set hi hw hne]
        cases hc : c_fi ks wp s9.1 with
        | some e9 => rfl
        | none =>
          have hnk : s9.1 < 100 := hSU.2 L (List.mem_of_getElem? hL) s9 hs
          show c_ad ks (wp.set i (q, e1)) s9.1 j = c_ad ks wp s9.1 j
          unfold c_ad
          rw [if_neg (fun h => by have := Nat.le_of_ble_eq_true h; omega), if_neg (fun h => by have := Nat.le_of_ble_eq_true h; omega)]
      · rw [c_cu_kset_ne (hp_100 hSU.1 h1) (hSU.2 L (List.mem_of_getElem? hL) s9 hs) hi hw hne]
        exact hv9
    · cases f2
theorem cpy_whole {f g : Nat → Int32} {n j : Nat} (hj : j < n) : va_cpy f g 0 0 n j = f j := by
  rw [pk_cpy_in (by omega) (by omega)]
  congr 1
  omega
theorem s_acp {S : SB} {x : List SB} {ins : Instr} {len : Nat} (hFP : FPOK T FP) (hSU : SUOK T) (hP : POK2 P RT OW) (X : Cx OW EW D cy I0.2.2 M own p R s m args meth c A rm cb sb) (h : ox_acp T RT M wr rm S ins len = some x) (hd : decode (mC M) S.1 = .ok (ins, len))
    (k : ∀ S' ∈ x, Sf T FP D cy I0 ks0 wp0 wr M p l e R s m args below meth c A Q cb sb S') : Sf T FP D cy I0 ks0 wp0 wr M p l e R s m args below meth c A Q cb sb S := by
  obtain ⟨pc, lo, st, ⟨n, E, CF, SF⟩, rw0, nc, ns⟩ := S
  intro I H locs ls lv vs ks wp raw a1 a2 a3 a4 a5 a6 a7 a8 a9 a10
  have hE : henv I.1 n E := a4.2.1
  unfold ox_acp at h
  simp only at h a2 a3 a5 hd ⊢
  split at h
  · rename_i idx nn dp d sp s0 st'
    split at h
    · rename_i kd w1 w2 w3 κs nns nms ts n0 xs κ nnd nmd td n1 xd hr hks hkd
      split at h
      · rename_i q
        simp only [Bool.and_eq_true, decide_eq_true_eq] at q
        obtain ⟨q1, q2, q3, q4, q5, q6, q7, q8, q9, q10, q11, q12, q13⟩ := q
        have q1 := beq3 q1
        have q2 := beq3 q2
        have q3 := beq3 q3
        have q4 := beq3 q4
        have q5 := bv_eq_ok q5
        have q6 := bv_eq_ok q6
        have q7 := bv_eq_ok q7
        have q8 := beq3 q8
        have q12 := Nat.le_of_ble_eq_true q12
        have q13 := Nat.le_of_ble_eq_true q13
        subst q1
        subst q2
        subst q3
        subst q4
        subst q5
        subst q6
        subst q7
        subst q8
        cases h
        obtain ⟨u1, vs1, rfl, g1, t1⟩ := hvs_cons a3
        obtain ⟨u2, vs2, rfl, g2, t2⟩ := hvs_cons t1
        obtain ⟨u3, vs3, rfl, g3, t3⟩ := hvs_cons t2
        obtain ⟨u4, vs4, rfl, g4, t4⟩ := hvs_cons t3
        obtain ⟨u5, vs5, rfl, g5, t5⟩ := hvs_cons t4
        obtain ⟨y1, rfl, hy1⟩ := g1
        obtain ⟨y2, rfl, hy2⟩ := g2
        obtain ⟨y4, rfl, hy4⟩ := g4
        obtain ⟨qs, is, es, rfl, s1, s2, s3, s4, s5⟩ := kd_ok a4 g5 hks
        obtain ⟨qd, id9, ed, rfl, d1, d2, d3, d4, d5⟩ := kd_ok a4 g3 hkd
        have fs : ∃ f : Nat → Int32, es = .inl (cy 0, n0, .inl f) := by
          rcases s3.1 with ⟨-, f, e1⟩ | ⟨e0, -⟩ | ⟨e0, -⟩
          · exact ⟨f, e1⟩
          · omega
          · omega
        have fd : ∃ g : Nat → Int32, ed = .inl (cy 0, n0, .inl g) := by
          rcases d3.1 with ⟨-, g, e1⟩ | ⟨e0, -⟩ | ⟨e0, -⟩
          · exact ⟨g, e1⟩
          · omega
          · omega
        obtain ⟨f, rfl⟩ := fs
        obtain ⟨g, rfl⟩ := fd
        obtain ⟨v1, v2⟩ := en_len (k := 0) hy4 (by omega)
        obtain ⟨v3, v4⟩ := en_len (k := 0) hy2 (by omega)
        obtain ⟨v5, v6⟩ := en_len hy1 (by omega)
        obtain ⟨x1, x2, x3, x4, x5, x6, x7, x8, x9, x10, x11, x12, x13, x14⟩ := X
        have hro := (res_ok hP x4 hr).1
        refine va_copyi x1 x2 (by rw [x3]; exact a1.1.symm) x5 (x6 _ hro) (x6 _ hP.2.2.1) (x6 _ hP.2.2.2.1) (x6 _ hP.2.2.2.2) x7.1 a6 a7 a8 is id9 0 0 (wr_at s2) (wr_at d2) rfl rfl rfl v1 v3 v5 (by rw [v2, v6]; omega) (by rw [v4, v6]; omega) (fun i _ => rfl) (by omega) (by rw [f_ctg_ok t5]; omega) hd (fun H1 locs1 b1 b2 b3 => ?_)
        rw [v2, v4, v6] at b1 b2
        rw [wr_set d2] at b1 b2
        have ht : ktyped cy I.2.1 (.inl (0, n0, xd)) (.inl (cy 0, n0, .inl (va_cpy f g 0 0 n0))) := by
          refine ⟨Or.inl ⟨by omega, _, rfl⟩, fun j t hj ht9 => ?_⟩
          have hj : j < n0 := hj
          refine ⟨.int (va_cpy f g 0 0 n0 j), by simp only [cval, if_pos hj], ?_⟩
          have hc := List.all_eq_true.mp q10 j (List.mem_range.mpr hj)
          have ht9 : k_seg xd j = some t := ht9
          rw [ht9] at hc
          cases hxs : k_seg xs j with
          | none => rw [hxs] at hc; cases hc
          | some t0 =>
            rw [hxs] at hc
            rcases t0 with ⟨a, b⟩ | t0
            · rcases t with ⟨c9, d9⟩ | t
              · simp only [Bool.and_eq_true, decide_eq_true_eq] at hc
                obtain ⟨v, w1, y, rfl, w2, w3⟩ := s3.2 j _ hj hxs
                simp only [cval, if_pos hj, Option.some.injEq, Value.int.injEq] at w1
                rw [cpy_whole hj, w1]
                exact ⟨y, rfl, by omega, by omega⟩
              · cases hc
            · cases hc
        refine k _ List.mem_cons_self I H1 locs1 ls lv vs5 ks (wp.set id9 (qd, .inl (cy 0, n0, .inl (va_cpy f g 0 0 n0)))) raw a1 a2 t5 (HS_other hFP hSU a4 d1 d2 d4 ht) a5 b1 b2 b3 a9 ?_
        refine ⟨a10.1, fun i κ9 q9 e9 h1 h2 => ?_⟩
        obtain ⟨e', w1, w2⟩ := a10.2 i κ9 q9 e9 h1 h2
        by_cases hii : i = id9
        · subst hii
          rw [d2] at w1
          have e10 : q9 = qd ∧ e' = .inl (cy 0, n0, .inl g) := by
            have := Option.some.inj w1
            exact ⟨(Prod.mk.inj this).1.symm, (Prod.mk.inj this).2.symm⟩
          obtain ⟨rfl, rfl⟩ := e10
          have ek : κ9 = κ := by
            obtain ⟨more, hm⟩ := a10.1
            have : ks[i]? = some κ9 := by rw [hm, List.getElem?_append_left (List.getElem?_eq_some_iff.mp h1).1]; exact h1
            rw [d1] at this
            exact (Option.some.inj this).symm
          subst ek
          refine ⟨_, by rw [List.getElem?_set, if_pos rfl, if_pos (List.getElem?_eq_some_iff.mp d2).1], fun j hj => ?_⟩
          rw [← w2 j hj]
          by_cases hjn : j < n0
          · exact absurd (f_wr_ok q11 (Nat.zero_le j) (by omega)) hj
          · simp only [cval, if_neg hjn]
        · exact ⟨e', by rw [List.getElem?_set, if_neg (fun h => hii h.symm)]; exact w1, w2⟩
      · cases h
    · cases h
  · cases h
end OX2
