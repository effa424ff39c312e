/-! steps outside, first: reckoning with its words kept, or, branches that tell less from greater -/
def o_op (id : Nat) (a b : Int32) : Int32 := match id with
  | 16 => a + b
  | 17 => a - b
  | 18 => a &&& b
  | 19 => a ^^^ b
  | 24 => a <<< (b &&& 31)
  | 25 => a >>> (b &&& 31)
  | 26 => a ||| b
  | _ => a * b
def o_id (ins : Instr) : Option Nat := match ins with
  | .iadd => some 16
  | .isub => some 17
  | .iand => some 18
  | .ixor => some 19
  | .imul => some 23
  | .ishl => some 24
  | .ishr => some 25
  | _ => none
/-- what the facts of reckoning say -/
def FPnum (FP : Nat → CUt → List Int → Prop) : Prop := ∀ (id : Nat), (id = 16 ∨ id = 17 ∨ id = 18 ∨ id = 19 ∨ id = 23 ∨ id = 24 ∨ id = 25 ∨ id = 26) → ∀ (cu : CUt) (zs : List Int), FP id cu zs ↔ ∃ a b : Int32, zs = [a.toInt, b.toInt, (o_op id a b).toInt]
def ox_num (S : SB) (ins : Instr) (len : Nat) : Option (List SB) := match S with
  | (pc, lo, st, (n, E, CF, SF), rw, nc, ns) => (match o_id ins, st with
    | some id, y :: x :: st' => if Nat.beq len 1 = true then (match f_sfind SF id x y with
        | some w => if f_isI w = true then some [(pc + 1, lo, w :: st', (n, E, CF, SF), rw, nc, ns)] else none
        | none => (match f_bin ins E x y with
          | some r => (match f_push r n E with | (v, n', E') => if f_isI v = true then some [(pc + 1, lo, v :: st', (n', E', CF, (id, [x, y, v]) :: SF), rw, nc, ns)] else none)
          | none => none)) else none
    | _, _ => none)
/-- or, and that the first is not more, where both are not below 0 -/
def ox_ior (S : SB) (ins : Instr) (len : Nat) : Option (List SB) := match S with
  | (pc, lo, st, (n, E, CF, SF), rw, nc, ns) => (match ins, st with
    | .ior, y :: x :: st' => if Nat.beq len 1 = true then (match f_iv E x, f_iv E y, f_or E x y with
        | some (la, _), some (lb, _), some r => (match f_push r n E with | (v, n', E') => some [(pc + 1, lo, v :: st', (n', E', CF, (if (decide (0 ≤ la) && (decide (0 ≤ lb) && (f_nmd v && f_nmd x))) = true then [(0, [x, v])] else []) ++ ((if f_isI v = true then [(26, [x, y, v])] else []) ++ SF)), rw, nc, ns)])
        | _, _, _ => none) else none
    | _, _ => none)
def ox_ne (S : SB) (ins : Instr) (len : Nat) : Option (List SB) := match S with
  | (pc, lo, st, (n, E, CF, SF), rw, nc, ns) => (match ins, st with
    | .if_icmp cnd off, y :: x :: st' => (match e_tgt pc off, f_rel E 0 x y, f_rel E 2 x y, f_rel E 2 y x with
      | some t, some e0, some e1, some e2 => if (Nat.beq len 3 && (decide (cnd = .eq) || decide (cnd = .ne))) = true then
          (match (if decide (cnd = .eq) = true then (t, pc + 3) else (pc + 3, t)) with
          | (te, tn) => some (e0.map (fun q => (te, lo, st', (n, q, CF, (0, [x, y]) :: (0, [y, x]) :: SF), rw, nc, ns)) ++ (e1.map (fun q => (tn, lo, st', (n, q, CF, (0, [f_off x 1, y]) :: SF), rw, nc, ns)) ++ e2.map (fun q => (tn, lo, st', (n, q, CF, (0, [f_off y 1, x]) :: SF), rw, nc, ns))))) else none
      | _, _, _, _ => none)
    | _, _ => none)
section OX1
variable {T : TBt} {FP : Nat → CUt → List Int → Prop} {OW : List String} {EW : EWt} {D : va_G} {cy : Nat → ClassId} {I0 : IN} {ks0 : List Nat} {wp0 : va_W} {wr : WR} {M : MT} {own : String}
variable {p : Program} {l : Launch} {e : Env} {R : Room} {s : State} {m : MethodId} {args : Array Value} {below : List Frame} {meth : Method} {c : Code} {A : Nat → Prop} {Q : State → Prop} {rm : RMt} {cb sb : Nat}
theorem f_sfind_in {SF : List SFt} {id : Nat} {a b w : BV} : f_sfind SF id a b = some w → (id, [a, b, w]) ∈ SF := by
  induction SF with
  | nil => intro h; simp only [f_sfind] at h; cases h
  | cons g r ih =>
    obtain ⟨gid, gas⟩ := g
    intro h
    unfold f_sfind at h
    simp only at h
    split at h
    · split at h
      · rename_i q
        simp only [Bool.and_eq_true] at q
        obtain ⟨q1, q2, q3⟩ := q
        have q1 := Nat.eq_of_beq_eq_true q1
        have q2 := bv_eq_ok q2
        have q3 := bv_eq_ok q3
        subst q1
        subst q2
        subst q3
        cases h
        exact List.mem_cons_self
      · exact List.mem_cons_of_mem _ (ih h)
    · exact List.mem_cons_of_mem _ (ih h)
theorem o_id_of {ins : Instr} {id : Nat} (h : o_id ins = some id) : (id = 16 ∨ id = 17 ∨ id = 18 ∨ id = 19 ∨ id = 23 ∨ id = 24 ∨ id = 25 ∨ id = 26) := by
  unfold o_id at h
  split at h <;> cases h <;> simp
/-- the step, with the value that it gives -/
theorem o_step {H : Heap} {locs : List Loc} {cells slots pc id : Nat} {ls : Array Slot} {rest : List Value} {ins : Instr} {x y : Int32} {cc : ByteArray} (hx9 : p.tables.exec = Jvm.exec) (hb : c.code = cc) (hd : decode cc pc = .ok (ins, 1)) (h : o_id ins = some id)
    (k : W p l e R s m args below meth c H locs cells slots Q (F0 m (pc + 1) ls (.int (o_op id x y) :: rest))) : W p l e R s m args below meth c H locs cells slots Q (F0 m pc ls (.int y :: .int x :: rest)) := by
  unfold o_id at h
  split at h <;> cases h
  · exact lv_iadd hx9 hb hd k
  · exact lv_isub hx9 hb hd k
  · exact lv_iand hx9 hb hd k
  · exact lv_ixor hx9 hb hd k
  · exact lv_imul hx9 hb hd k
  · exact lv_ishl hx9 hb hd k
  · exact lv_ishr hx9 hb hd k
theorem o_bin {I : IN} {E : EB} {n id : Nat} {ins : Instr} {x y : BV} {r : RB} {i j : Int32} (h0 : o_id ins = some id) (hE : henv I.1 n E) (hx : hv I x (.int i)) (hy : hv I y (.int j)) (h : f_bin ins E x y = some r) : hr I r (.int (o_op id i j)) := by
  unfold o_id at h0
  split at h0 <;> cases h0 <;> simp only [f_bin] at h
  · exact f_add_ok hE hx hy h
  · exact f_sub_ok hE hx hy h
  · exact f_and_ok hE hx hy h
  · exact f_xor_ok hE hx hy h
  · exact f_mul_ok hE hx hy h
  · exact f_shl_ok hE hx hy h
  · exact f_shr_ok hE hx hy h
theorem s_num {S : SB} {x : List SB} {ins : Instr} {len : Nat} (hN : FPnum FP) (X : Cx OW EW D cy I0.2.2 M own p R s m args meth c A rm cb sb) (h : ox_num S ins len = some x) (hd : decode (mC M) S.1 = .ok (ins, len))
    (k : ∀ S' ∈ x, Sf T FP D cy I0 ks0 wp0 wr M p l e R s m args below meth c A Q cb sb S') : Sf T FP D cy I0 ks0 wp0 wr M p l e R s m args below meth c A Q cb sb S := by
  obtain ⟨pc, lo, st, ⟨n, E, CF, SF⟩, rw0, nc, ns⟩ := S
  intro I H locs ls lv vs ks wp raw a1 a2 a3 a4 a5 a6 a7 a8 a9 a10
  have hE : henv I.1 n E := a4.2.1
  unfold ox_num at h
  simp only at h a2 a3 a5 hd ⊢
  split at h
  · rename_i id y x0 st' hid
    split at h
    · rename_i hl
      have hl := beq3 hl
      subst hl
      obtain ⟨vy, vs1, rfl, g1, g2⟩ := hvs_cons a3
      obtain ⟨vx, vs2, rfl, g3, g4⟩ := hvs_cons g2
      split at h
      · rename_i w hw
        split at h
        · rename_i hwI
          cases h
          obtain ⟨zs, z1, z2⟩ := a4.2.2.2 _ (f_sfind_in hw)
          obtain ⟨i, j, e1⟩ := (hN id (o_id_of hid) _ _).mp z2
          subst e1
          simp only [f_evs] at z1
          split at z1
          · rename_i ex er h1 h2
            split at h2
            · rename_i ey er2 h3 h4
              split at h4
              · rename_i ew er3 h5 h6
                cases h6
                cases h4
                cases h2
                cases z1
                have hxI : f_isI x0 = true := by
                  rcases x0 with q | ⟨q1, q2⟩ | q
                  · rfl
                  · rfl
                  · simp only [f_ev] at h1; cases h1
                have hyI : f_isI y = true := by
                  rcases y with q | ⟨q1, q2⟩ | q
                  · rfl
                  · rfl
                  · simp only [f_ev] at h3; cases h3
                obtain ⟨i', rfl⟩ := hv_isI g3 hxI
                obtain ⟨j', rfl⟩ := hv_isI g1 hyI
                have e3 := hv_ev g3
                have e4 := hv_ev g1
                rw [h1] at e3
                rw [h3] at e4
                have e5 : i = i' := (fa_eq _ _).mpr (Option.some.inj e3)
                have e6 : j = j' := (fa_eq _ _).mpr (Option.some.inj e4)
                subst e5
                subst e6
                refine o_step X.1 X.2.1 hd hid ?_
                exact k _ List.mem_cons_self I H locs ls lv _ ks wp raw a1 a2 ⟨ev_hv h5, g4⟩ a4 a5 a6 a7 a8 a9 a10
              · cases h4
            · cases h2
          · cases z1
        · cases h
      · split at h
        · rename_i r hr9
          cases hp : f_push r n E with
          | mk v qp =>
          obtain ⟨n', E'⟩ := qp
          rw [hp] at h
          simp only at h
          split at h
          · rename_i hvI
            cases h
            obtain ⟨⟨q1, q1'⟩, ⟨q2, q2'⟩, e1, e2⟩ := f_bin_ints hr9
            obtain ⟨i, rfl, -⟩ := hv_int hE g3 e1
            obtain ⟨j, rfl, -⟩ := hv_int hE g1 e2
            have hrr := o_bin hid hE g3 g1 hr9
            obtain ⟨J, j1, j2, j3, j4⟩ := f_push_ok hE hrr hp
            refine o_step X.1 X.2.1 hd hid ?_
            have a4' := a4.env j1 j2 j3
            refine k _ List.mem_cons_self J H locs ls lv _ ks wp raw a1 (a2.xt j1) ⟨j4, g4.xt j1⟩ ⟨a4'.1, a4'.2.1, a4'.2.2.1, fun f hf => ?_⟩ (a5.xt j1) a6 a7 a8 (a9.tr j1) a10
            rcases List.mem_cons.mp hf with rfl | hf
            · refine ⟨[i.toInt, j.toInt, (o_op id i j).toInt], ?_, (hN id (o_id_of hid) _ _).mpr ⟨i, j, rfl⟩⟩
              simp only [f_evs, hv_ev (g3.xt j1), hv_ev (g1.xt j1), hv_ev j4]
            · exact a4'.2.2.2 f hf
          · cases h
        · cases h
    · cases h
  · cases h
theorem en_orle {i j : Int32} (h1 : 0 ≤ i.toInt) (h2 : 0 ≤ j.toInt) : i.toInt ≤ (i ||| j).toInt := by
  obtain ⟨a, rfl, ha, ea⟩ := en_nn h1
  obtain ⟨b, rfl, hb, eb⟩ := en_nn h2
  have hlt := en_or_lt ha hb
  have e9 : (nI a ||| nI b).toInt = ((a ||| b : Nat) : Int) := by rw [fa_or, nI_toInt hlt]
  rw [e9, ea]
  have : a ≤ a ||| b := Nat.left_le_or
  omega
theorem s_ior {S : SB} {x : List SB} {ins : Instr} {len : Nat} (h0 : FP0 FP) (hN : FPnum FP) (X : Cx OW EW D cy I0.2.2 M own p R s m args meth c A rm cb sb) (h : ox_ior S ins len = some x) (hd : decode (mC M) S.1 = .ok (ins, len))
    (k : ∀ S' ∈ x, Sf T FP D cy I0 ks0 wp0 wr M p l e R s m args below meth c A Q cb sb S') : Sf T FP D cy I0 ks0 wp0 wr M p l e R s m args below meth c A Q cb sb S := by
  obtain ⟨pc, lo, st, ⟨n, E, CF, SF⟩, rw0, nc, ns⟩ := S
  intro I H locs ls lv vs ks wp raw a1 a2 a3 a4 a5 a6 a7 a8 a9 a10
  have hE : henv I.1 n E := a4.2.1
  unfold ox_ior at h
  simp only at h a2 a3 a5 hd ⊢
  split at h
  · rename_i y x0 st'
    split at h
    · rename_i hl
      have hl := beq3 hl
      subst hl
      obtain ⟨vy, vs1, rfl, g1, g2⟩ := hvs_cons a3
      obtain ⟨vx, vs2, rfl, g3, g4⟩ := hvs_cons g2
      split at h
      · rename_i la ha9 lb hb9 r e1 e2 hr9
        cases hp : f_push r n E with
        | mk v qp =>
        obtain ⟨n', E'⟩ := qp
        rw [hp] at h
        simp only at h
        cases h
        obtain ⟨i, rfl, i1, -⟩ := hv_int hE g3 e1
        obtain ⟨j, rfl, j1', -⟩ := hv_int hE g1 e2
        obtain ⟨J, j1, j2, j3, j4⟩ := f_push_ok hE (f_or_ok hE g3 g1 hr9) hp
        refine lv_ior X.1 X.2.1 hd ?_
        have a4' := a4.env j1 j2 j3
        refine k _ List.mem_cons_self J H locs ls lv _ ks wp raw a1 (a2.xt j1) ⟨j4, g4.xt j1⟩ ⟨a4'.1, a4'.2.1, a4'.2.2.1, fun f hf => ?_⟩ (a5.xt j1) a6 a7 a8 (a9.tr j1) a10
        rcases List.mem_append.mp hf with hf | hf
        · split at hf
          · rename_i q
            simp only [Bool.and_eq_true, decide_eq_true_eq] at q
            rcases List.mem_cons.mp hf with rfl | hf
            · exact ⟨[i.toInt, (i ||| j).toInt], by simp only [f_evs, hv_ev (g3.xt j1), hv_ev j4], (h0 _ _).mpr ⟨_, _, rfl, en_orle (by omega) (by omega)⟩⟩
            · cases hf
          · cases hf
        · rcases List.mem_append.mp hf with hf | hf
          · split at hf
            · rcases List.mem_cons.mp hf with rfl | hf
              · exact ⟨[i.toInt, j.toInt, (i ||| j).toInt], by simp only [f_evs, hv_ev (g3.xt j1), hv_ev (g1.xt j1), hv_ev j4], (hN 26 (by simp) _ _).mpr ⟨i, j, rfl⟩⟩
              · cases hf
            · cases hf
          · exact a4'.2.2.2 f hf
      · cases h
    · cases h
  · cases h
theorem s_ne {S : SB} {x : List SB} {ins : Instr} {len : Nat} (h0 : FP0 FP) (X : Cx OW EW D cy I0.2.2 M own p R s m args meth c A rm cb sb) (h : ox_ne S ins len = some x) (hd : decode (mC M) S.1 = .ok (ins, len))
    (k : ∀ S' ∈ x, Sf T FP D cy I0 ks0 wp0 wr M p l e R s m args below meth c A Q cb sb S') : Sf T FP D cy I0 ks0 wp0 wr M p l e R s m args below meth c A Q cb sb S := by
  obtain ⟨pc, lo, st, ⟨n, E, CF, SF⟩, rw0, nc, ns⟩ := S
  intro I H locs ls lv vs ks wp raw a1 a2 a3 a4 a5 a6 a7 a8 a9 a10
  have hE : henv I.1 n E := a4.2.1
  unfold ox_ne at h
  simp only at h a2 a3 a5 hd ⊢
  split at h
  · rename_i cnd off y x0 st'
    split at h
    · rename_i t e0 e1 e2 ht h1 h2 h3
      split at h
      · rename_i q
        simp only [Bool.and_eq_true, Bool.or_eq_true, decide_eq_true_eq] at q
        obtain ⟨q1, q2⟩ := q
        have q1 := beq3 q1
        subst q1
        obtain ⟨vy, vs1, rfl, g1, g2⟩ := hvs_cons a3
        obtain ⟨vx, vs2, rfl, g3, g4⟩ := hvs_cons g2
        have iv2 : (∃ q, f_iv E x0 = some q) ∧ ∃ q, f_iv E y = some q := by
          unfold f_rel at h1
          split at h1
          · rename_i w1 w2
            exact ⟨⟨_, w1⟩, ⟨_, w2⟩⟩
          · cases h1
        obtain ⟨⟨qx, ex⟩, ⟨qy, ey⟩⟩ := iv2
        obtain ⟨i, rfl, -⟩ := hv_int hE g3 ex
        obtain ⟨j, rfl, -⟩ := hv_int hE g1 ey
        have goE : i.toInt = j.toInt → ∀ te : Nat, (∀ q ∈ e0, ((te, lo, st', (n, q, CF, (0, [x0, y]) :: (0, [y, x0]) :: SF), rw0, nc, ns) : SB) ∈ x) → W p l e R s m args below meth c H locs (cb + nc) (sb + ns) Q (F0 m te ls vs2) := by
          intro he te hm
          obtain ⟨E1, m1, m2⟩ := f_rel_ok hE g3 g1 h1 he
          have a4' := a4.env hxt.rf rfl m2
          refine k _ (hm E1 m1) I H locs ls lv _ ks wp raw a1 a2 g4 ⟨a4'.1, a4'.2.1, a4'.2.2.1, fun f hf => ?_⟩ a5 a6 a7 a8 a9 a10
          rcases List.mem_cons.mp hf with rfl | hf
          · exact ⟨[i.toInt, j.toInt], by simp only [f_evs, hv_ev g3, hv_ev g1], (h0 _ _).mpr ⟨_, _, rfl, by omega⟩⟩
          · rcases List.mem_cons.mp hf with rfl | hf
            · exact ⟨[j.toInt, i.toInt], by simp only [f_evs, hv_ev g3, hv_ev g1], (h0 _ _).mpr ⟨_, _, rfl, by omega⟩⟩
            · exact a4'.2.2.2 f hf
        have goN : i.toInt ≠ j.toInt → ∀ tn : Nat, (∀ q ∈ e1, ((tn, lo, st', (n, q, CF, (0, [f_off x0 1, y]) :: SF), rw0, nc, ns) : SB) ∈ x) → (∀ q ∈ e2, ((tn, lo, st', (n, q, CF, (0, [f_off y 1, x0]) :: SF), rw0, nc, ns) : SB) ∈ x) → W p l e R s m args below meth c H locs (cb + nc) (sb + ns) Q (F0 m tn ls vs2) := by
          intro hn tn hm1 hm2
          rcases (show i.toInt < j.toInt ∨ j.toInt < i.toInt by omega) with hlt | hlt
          · obtain ⟨E1, m1, m2⟩ := f_rel_ok hE g3 g1 h2 hlt
            have a4' := a4.env hxt.rf rfl m2
            refine k _ (hm1 E1 m1) I H locs ls lv _ ks wp raw a1 a2 g4 ⟨a4'.1, a4'.2.1, a4'.2.2.1, fun f hf => ?_⟩ a5 a6 a7 a8 a9 a10
            rcases List.mem_cons.mp hf with rfl | hf
            · exact ⟨[i.toInt + 1, j.toInt], by simp only [f_evs, ev_off (hv_ev g3), hv_ev g1], (h0 _ _).mpr ⟨_, _, rfl, by omega⟩⟩
            · exact a4'.2.2.2 f hf
          · obtain ⟨E1, m1, m2⟩ := f_rel_ok hE g1 g3 h3 hlt
            have a4' := a4.env hxt.rf rfl m2
            refine k _ (hm2 E1 m1) I H locs ls lv _ ks wp raw a1 a2 g4 ⟨a4'.1, a4'.2.1, a4'.2.2.1, fun f hf => ?_⟩ a5 a6 a7 a8 a9 a10
            rcases List.mem_cons.mp hf with rfl | hf
            · exact ⟨[j.toInt + 1, i.toInt], by simp only [f_evs, ev_off (hv_ev g1), hv_ev g3], (h0 _ _).mpr ⟨_, _, rfl, by omega⟩⟩
            · exact a4'.2.2.2 f hf
        rcases q2 with rfl | rfl
        · rw [if_pos (decide_eq_true rfl)] at h
          simp only at h
          cases h
          refine h_icmp X.1 X.2.1 hd (e_tgt_ok ht) (fun g => goE g t (fun q hq => List.mem_append_left _ (List.mem_map.mpr ⟨q, hq, rfl⟩))) (fun g => goN g (pc + 3) (fun q hq => List.mem_append_right _ (List.mem_append_left _ (List.mem_map.mpr ⟨q, hq, rfl⟩))) (fun q hq => List.mem_append_right _ (List.mem_append_right _ (List.mem_map.mpr ⟨q, hq, rfl⟩))))
        · rw [if_neg (by decide)] at h
          simp only at h
          cases h
          refine h_icmp X.1 X.2.1 hd (e_tgt_ok ht) (fun g => goN g t (fun q hq => List.mem_append_right _ (List.mem_append_left _ (List.mem_map.mpr ⟨q, hq, rfl⟩))) (fun q hq => List.mem_append_right _ (List.mem_append_right _ (List.mem_map.mpr ⟨q, hq, rfl⟩)))) (fun g => goE g (pc + 3) (fun q hq => List.mem_append_left _ (List.mem_map.mpr ⟨q, hq, rfl⟩)))
      · cases h
    · cases h
  · cases h
end OX1
