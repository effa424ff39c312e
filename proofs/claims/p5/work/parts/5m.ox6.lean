/-! steps outside: rows and texts that the class has as constants -/
def z_row (j : Nat) : Option (List Int) := match j with
  | 20 => some [4, 10, 8, 6]
  | 21 => some [1, 0, 0, 0]
  | 22 => some [20, 9, 9, 6]
  | _ => none
def z_txt (j : Nat) : Option Nat := match j with
  | 10 => some 88
  | 11 => some 56
  | 12 => some 88
  | _ => none
def z_mn (x : List Int) : Int := match x with
  | [] => 0
  | a :: r => r.foldl (fun p q => if decide (p ≤ q) = true then p else q) a
def z_mx (x : List Int) : Int := match x with
  | [] => 0
  | a :: r => r.foldl (fun p q => if decide (p ≤ q) = true then q else p) a
def z_chk (row : List Int) (l h : Nat) (lo hi : Int) : Bool := (List.range 4).all (fun z => Nat.blt z l || (Nat.blt h z || (decide (lo ≤ row.getD z 0) && decide (row.getD z 0 ≤ hi))))
def z_gs (i : Nat) : Option Nat := match i with
  | 87 => some 20
  | 105 => some 21
  | 108 => some 22
  | _ => none
def z_ld (i : Nat) : Option Nat := match i with
  | 86 => some 10
  | 92 => some 11
  | 94 => some 12
  | _ => none
def ox_gst (M : MT) (S : SB) (ins : Instr) (len : Nat) : Option (List SB) := match S with
  | (pc, lo, st, F, rw, nc, ns) => (match ins with
    | .getstatic i => (match z_gs i with
      | some j => if (Nat.beq (mO M) 2 && Nat.beq len 3) = true then some [(pc + 3, lo, bX j :: st, F, rw, nc, ns)] else none
      | none => none)
    | _ => none)
def ox_rld (S : SB) (ins : Instr) (len : Nat) : Option (List SB) := match S with
  | (pc, lo, st, (n, E, CF, SF), rw, nc, ns) => (match ins, st with
    | .iaload, i :: .inr (.inr (.inr (.inr j))) :: st' => (match z_row j, f_pl E i 4 with
      | some row, some (l, h) => (match ((row.drop l).take (h - l + 1)) with
        | x => if (Nat.beq len 1 && z_chk row l h (z_mn x) (z_mx x)) = true then (match f_fresh (.inl (z_mn x, z_mx x)) n E with | (v, n', E') => some [(pc + 1, lo, v :: st', (n', E', CF, SF), rw, nc, ns)]) else none)
      | _, _ => none)
    | _, _ => none)
def ox_ldt (M : MT) (S : SB) (ins : Instr) (len : Nat) : Option (List SB) := match S with
  | (pc, lo, st, F, rw, nc, ns) => (match ins with
    | .ldc i => (match z_ld i with
      | some j => if (Nat.beq (mO M) 11 && Nat.beq len 2) = true then some [(pc + 2, lo, bX j :: st, F, rw, nc, ns)] else none
      | none => none)
    | _ => none)
def ox_str (M : MT) (rm : RMt) (S : SB) (ins : Instr) (len : Nat) : Option (List SB) := match S with
  | (pc, lo, st, (n, E, CF, SF), rw, nc, ns) => (match ins with
    | .invokevirtual 96 => (match st with
      | .inr (.inr (.inr (.inr j))) :: st' => (match z_txt j with
        | some N => if (Nat.beq (mO M) 11 && (Nat.beq len 3 && (Nat.ble 3 rm.1 && (Nat.ble 80 rm.2.2.2 && (Nat.ble (f_ctg st') 8 && (Nat.ble nc rm.2.1 && Nat.ble ns rm.2.2.1)))))) = true then some [(pc + 3, lo, bI (N : Int) :: st', (n, E, CF, SF), rw, nc, ns)] else none
        | none => none)
      | _ => none)
    | .invokevirtual 105 => (match st with
      | i :: .inr (.inr (.inr (.inr j))) :: st' => (match z_txt j with
        | some N => (match f_pl E i N with
          | some _ => if (Nat.beq (mO M) 11 && (Nat.beq len 3 && (Nat.ble 5 rm.1 && (Nat.ble 160 rm.2.2.2 && (Nat.ble (f_ctg st') 8 && (Nat.ble nc rm.2.1 && Nat.ble ns rm.2.2.1)))))) = true then some [(pc + 3, lo, bV n 0 :: st', (n + 1, (n, 0, 255) :: E, CF, SF), rw, nc, ns)] else none
          | none => none)
        | none => none)
      | _ => none)
    | _ => none)
section OX6
variable {T : TBt} {FP : Nat → CUt → List Int → Prop} {RT : List (List (Nat × RES))} {P : List MT} {D : va_G} {cy : Nat → ClassId} {I0 : IN} {ks0 : List Nat} {wp0 : va_W} {wr : WR} {M : MT} {own : String} {xs : Nat → Int32}
variable {p : Program} {l : Launch} {e : Env} {R : Room} {s : State} {m : MethodId} {args : Array Value} {below : List Frame} {meth : Method} {c : Code} {A : Nat → Prop} {Q : State → Prop} {rm : RMt} {cb sb : Nat}
theorem z_gs_ok {i j : Nat} (h : z_gs i = some j) : ∃ nm row, (j, nm, row) ∈ ZROW ∧ Cond.fieldLinkNest "NounFast$City" i "NounFast" nm "[I" "NounFast" ∈ NST := by
  unfold z_gs at h
  split at h <;> cases h
  · exact ⟨"MOST_OF_SORT", [4, 10, 8, 6], by simp [ZROW], n_at_ok (pos := 591) (by decide +kernel)⟩
  · exact ⟨"LEAST_SETTING", [1, 0, 0, 0], by simp [ZROW], n_at_ok (pos := 627) (by decide +kernel)⟩
  · exact ⟨"MOST_SETTING", [20, 9, 9, 6], by simp [ZROW], n_at_ok (pos := 629) (by decide +kernel)⟩
theorem z_row_ok {j : Nat} {row : List Int} (h : z_row j = some row) : (∃ nm, (j, nm, row) ∈ ZROW) ∧ ∀ z, -1000 ≤ row.getD z 0 ∧ row.getD z 0 ≤ 1000 := by
  unfold z_row at h
  split at h <;> cases h
  · refine ⟨⟨"MOST_OF_SORT", by simp [ZROW]⟩, fun z => ?_⟩
    rcases z with _ | _ | _ | _ | z <;> simp
  · refine ⟨⟨"LEAST_SETTING", by simp [ZROW]⟩, fun z => ?_⟩
    rcases z with _ | _ | _ | _ | z <;> simp
  · refine ⟨⟨"MOST_SETTING", by simp [ZROW]⟩, fun z => ?_⟩
    rcases z with _ | _ | _ | _ | z <;> simp
theorem z_ld_ok {i j : Nat} (h : z_ld i = some j) : ∃ tx N, (j, i, tx, N) ∈ ZTXT := by
  unfold z_ld at h
  split at h <;> cases h
  · exact ⟨_, _, List.mem_cons_self⟩
  · exact ⟨_, _, List.mem_cons_of_mem _ List.mem_cons_self⟩
  · exact ⟨_, _, List.mem_cons_of_mem _ (List.mem_cons_of_mem _ List.mem_cons_self)⟩
theorem z_txt_ok {j N : Nat} (h : z_txt j = some N) : N < 100 ∧ ∃ i tx, (j, i, tx, N) ∈ ZTXT := by
  unfold z_txt at h
  split at h <;> cases h
  · exact ⟨by omega, _, _, List.mem_cons_self⟩
  · exact ⟨by omega, _, _, List.mem_cons_of_mem _ List.mem_cons_self⟩
  · exact ⟨by omega, _, _, List.mem_cons_of_mem _ (List.mem_cons_of_mem _ List.mem_cons_self)⟩
theorem own_2 {own : String} (h : OW2[2]? = some own) : own = "NounFast$City" := by cases h; rfl
theorem own_11 {own : String} (h : OW2[11]? = some own) : own = "NounFast$Text" := by cases h; rfl
theorem s_gst {S : SB} {x : List SB} {ins : Instr} {len : Nat} (X : Cx OW2 (EWX xs) D cy I0.2.2 M own p R s m args meth c A rm cb sb) (h : ox_gst M S ins len = some x) (hd : decode (mC M) S.1 = .ok (ins, len))
    (k : ∀ S' ∈ x, Sf T FP D cy I0 ks0 wp0 wr M p l e R s m args below meth c A Q cb sb S') : Sf T FP D cy I0 ks0 wp0 wr M p l e R s m args below meth c A Q cb sb S := by
  obtain ⟨pc, lo, st, F, rw0, nc, ns⟩ := S
  obtain ⟨x1, x2, x3, x4, x5, x6, x7, x8, x9, x10, x11⟩ := X
  intro I H locs ls lv vs ks wp raw a1 a2 a3 a4 a5 a6 a7 a8 a9 a10
  unfold ox_gst at h
  simp only at h a2 a3 a4 a5 hd ⊢
  split at h
  · rename_i i
    split at h
    · rename_i j hj
      split at h
      · rename_i q
        simp only [Bool.and_eq_true] at q
        have q1 := beq3 q.1
        have q2 := beq3 q.2
        subst q2
        cases h
        rw [q1] at x4
        have e0 := own_2 x4
        subst e0
        obtain ⟨nm, row, h1, h2⟩ := z_gs_ok hj
        obtain ⟨g1, g2⟩ := x10.2.1 _ h1
        refine va_getsN x1 x2 g1 a8 x5 (va_Nw.use rfl (x7.2.1 _ h2)) (fun _ => j_same) hd ?_
        refine k _ List.mem_cons_self I H locs ls lv _ ks wp raw a1 a2 ⟨?_, a3⟩ a4 a5 a6 a7 a8 a9 a10
        show Value.ref (I0.2.2 j) = .ref (I.2.2 j)
        rw [a9.2.2]
      · cases h
    · cases h
  · cases h
theorem s_rld {S : SB} {x : List SB} {ins : Instr} {len : Nat} (X : Cx OW2 (EWX xs) D cy I0.2.2 M own p R s m args meth c A rm cb sb) (h : ox_rld S ins len = some x) (hd : decode (mC M) S.1 = .ok (ins, len))
    (k : ∀ S' ∈ x, Sf T FP D cy I0 ks0 wp0 wr M p l e R s m args below meth c A Q cb sb S') : Sf T FP D cy I0 ks0 wp0 wr M p l e R s m args below meth c A Q cb sb S := by
  obtain ⟨pc, lo, st, ⟨n, E, CF, SF⟩, rw0, nc, ns⟩ := S
  obtain ⟨x1, x2, x3, x4, x5, x6, x7, x8, x9, x10, x11⟩ := X
  intro I H locs ls lv vs ks wp raw a1 a2 a3 a4 a5 a6 a7 a8 a9 a10
  have hE : henv I.1 n E := a4.2.1
  unfold ox_rld at h
  simp only at h a2 a3 a4 a5 hd ⊢
  split at h
  · rename_i i j st'
    split at h
    · rename_i row l1 h1 hrow hpl
      split at h
      · rename_i q
        simp only [Bool.and_eq_true] at q
        have q1 := beq3 q.1
        subst q1
        cases hfr : f_fresh (.inl (z_mn ((row.drop l1).take (h1 - l1 + 1)), z_mx ((row.drop l1).take (h1 - l1 + 1)))) n E with
        | mk v qr =>
        obtain ⟨n', E'⟩ := qr
        rw [hfr] at h
        simp only at h
        cases h
        obtain ⟨v0, vs1, rfl, g1, g2⟩ := hvs_cons a3
        obtain ⟨v1, vs2, rfl, g3, g4⟩ := hvs_cons g2
        obtain ⟨jj, z, rfl, jz, zn, zl, zh, jev⟩ := f_pl_ok hE g1 hpl
        have g3 : v1 = .ref (I.2.2 j) := g3
        subst g3
        rw [a9.2.2]
        obtain ⟨⟨nm, hin⟩, hb9⟩ := z_row_ok hrow
        obtain ⟨t1, t2⟩ := x10.2.1 _ hin
        have hc := List.all_eq_true.mp q.2 z (List.mem_range.mpr (by omega))
        simp only [Bool.or_eq_true, Bool.and_eq_true, decide_eq_true_eq] at hc
        obtain ⟨i1, i2⟩ := en_in jz zn (by omega)
        have ht9 : ht I.2.1 (.inl (z_mn ((row.drop l1).take (h1 - l1 + 1)), z_mx ((row.drop l1).take (h1 - l1 + 1)))) (.int (Int32.ofInt (row.getD z 0))) := by
          refine ⟨_, rfl, ?_⟩
          rw [en_o32 (by have := hb9 z; omega) (by have := hb9 z; omega)]
          rcases hc with hc | hc | hc
          · have := Nat.le_of_ble_eq_true hc
            omega
          · have := Nat.le_of_ble_eq_true hc
            omega
          · exact hc
        obtain ⟨J, j1, j2, j3, j4⟩ := f_fresh_ok hE ht9 hfr
        refine va_ti x1 x2 t2 a8 i1 (v := .int (Int32.ofInt (row.getD z 0))) (by rw [i2]) hd ?_
        exact k _ List.mem_cons_self J H locs ls lv _ ks wp raw a1 (a2.xt j1) ⟨j4, g4.xt j1⟩ (a4.env j1 j2 j3) (a5.xt j1) a6 a7 a8 (a9.tr j1) a10
      · cases h
    · cases h
  · cases h
theorem s_ldt {S : SB} {x : List SB} {ins : Instr} {len : Nat} (X : Cx OW2 (EWX xs) D cy I0.2.2 M own p R s m args meth c A rm cb sb) (h : ox_ldt M S ins len = some x) (hd : decode (mC M) S.1 = .ok (ins, len))
    (k : ∀ S' ∈ x, Sf T FP D cy I0 ks0 wp0 wr M p l e R s m args below meth c A Q cb sb S') : Sf T FP D cy I0 ks0 wp0 wr M p l e R s m args below meth c A Q cb sb S := by
  obtain ⟨pc, lo, st, F, rw0, nc, ns⟩ := S
  obtain ⟨x1, x2, x3, x4, x5, x6, x7, x8, x9, x10, x11⟩ := X
  intro I H locs ls lv vs ks wp raw a1 a2 a3 a4 a5 a6 a7 a8 a9 a10
  unfold ox_ldt at h
  simp only at h a2 a3 a4 a5 hd ⊢
  split at h
  · rename_i i
    split at h
    · rename_i j hj
      split at h
      · rename_i q
        simp only [Bool.and_eq_true] at q
        have q1 := beq3 q.1
        have q2 := beq3 q.2
        subst q2
        cases h
        rw [q1] at x4
        have e0 := own_11 x4
        subst e0
        obtain ⟨tx, N, h1⟩ := z_ld_ok hj
        obtain ⟨g1, g2⟩ := x10.2.2.1 _ h1
        refine va_ldcS x1 x2 x5 g1 hd ?_
        refine k _ List.mem_cons_self I H locs ls lv _ ks wp raw a1 a2 ⟨?_, a3⟩ a4 a5 a6 a7 a8 a9 a10
        show Value.ref (I0.2.2 j) = .ref (I.2.2 j)
        rw [a9.2.2]
      · cases h
    · cases h
  · cases h
theorem s_str {S : SB} {x : List SB} {ins : Instr} {len : Nat} (X : Cx OW2 (EWX xs) D cy I0.2.2 M own p R s m args meth c A rm cb sb) (h : ox_str M rm S ins len = some x) (hd : decode (mC M) S.1 = .ok (ins, len))
    (k : ∀ S' ∈ x, Sf T FP D cy I0 ks0 wp0 wr M p l e R s m args below meth c A Q cb sb S') : Sf T FP D cy I0 ks0 wp0 wr M p l e R s m args below meth c A Q cb sb S := by
  obtain ⟨pc, lo, st, ⟨n, E, CF, SF⟩, rw0, nc, ns⟩ := S
  obtain ⟨x1, x2, x3, x4, x5, x6, x7, x8, x9, x10, x11, x12, x13, x14⟩ := X
  intro I H locs ls lv vs ks wp raw a1 a2 a3 a4 a5 a6 a7 a8 a9 a10
  have hE : henv I.1 n E := a4.2.1
  unfold ox_str at h
  simp only at h a2 a3 a4 a5 hd ⊢
  split at h
  · split at h
    · rename_i j st'
      split at h
      · rename_i N hN
        split at h
        · rename_i q
          simp only [Bool.and_eq_true] at q
          obtain ⟨q1, q2, q3, q4, q5, q6, q7⟩ := q
          have q1 := beq3 q1
          have q2 := beq3 q2
          have q3 := Nat.le_of_ble_eq_true q3
          have q4 := Nat.le_of_ble_eq_true q4
          have q5 := Nat.le_of_ble_eq_true q5
          have q6 := Nat.le_of_ble_eq_true q6
          have q7 := Nat.le_of_ble_eq_true q7
          subst q2
          cases h
          rw [q1] at x4
          have e0 := own_11 x4
          subst e0
          obtain ⟨v0, vs1, rfl, g1, g2⟩ := hvs_cons a3
          have g1 : v0 = .ref (I.2.2 j) := g1
          subst g1
          rw [a9.2.2]
          obtain ⟨hN9, i, tx, hin⟩ := z_txt_ok hN
          obtain ⟨t1, av, f, -, t2⟩ := x10.2.2.1 _ hin
          refine jm_runV (vs := []) (rest := vs1) (i := 96) (n := 0) (jm_length (l := l) (q := I0.2.2 j) (av := av) (N := N) (f := f) (by omega)) (fun U g mk a h => h.calling) (fun U hU hW => t2.jb hW hU a8) (h_at_ok (pos := 520) (by decide +kernel)) (h_at_ok (pos := 129) (by decide +kernel)) (h_at_ok (pos := 517) (by decide +kernel)) (h_at_ok (pos := 518) (by decide +kernel)) (h_at_ok (pos := 519) (by decide +kernel)) (by decide +kernel) (by decide +kernel) (by decide +kernel) rfl ?_ x1 x2 x3 x5 x6 a1.1 (by rw [f_ctg_ok g2]; exact q5) (by omega) (by omega) (by omega) (by omega) hd a8 (fun r H1 locs1 hr hk hS1 => ?_)
          · obtain ⟨cell, c1, c2, c3, -⟩ := t2.2.2.1.kept a8.2.1
            exact ⟨cell, c1, c2, c3⟩
          · have hr : r = nI N := hr
            subst hr
            exact k _ List.mem_cons_self I H1 locs1 ls lv _ ks wp raw a1 a2 ⟨⟨_, rfl, nI_toInt (by omega)⟩, g2⟩ a4 a5 (fun k9 q9 hq9 => (a6 k9 q9 hq9).kept (hk q9.1 (a6 k9 q9 hq9).lt)) a7 hS1 a9 a10
        · cases h
      · cases h
    · cases h
  · split at h
    · rename_i i0 j st'
      split at h
      · rename_i N hN
        split at h
        · rename_i lh hpl
          obtain ⟨l1, h1⟩ := lh
          split at h
          · rename_i q
            simp only [Bool.and_eq_true] at q
            obtain ⟨q1, q2, q3, q4, q5, q6, q7⟩ := q
            have q1 := beq3 q1
            have q2 := beq3 q2
            have q3 := Nat.le_of_ble_eq_true q3
            have q4 := Nat.le_of_ble_eq_true q4
            have q5 := Nat.le_of_ble_eq_true q5
            have q6 := Nat.le_of_ble_eq_true q6
            have q7 := Nat.le_of_ble_eq_true q7
            subst q2
            cases h
            rw [q1] at x4
            have e0 := own_11 x4
            subst e0
            obtain ⟨v0, vs1, rfl, g1, g2⟩ := hvs_cons a3
            obtain ⟨v1, vs2, rfl, g3, g4⟩ := hvs_cons g2
            obtain ⟨jj, z, rfl, jz, zn, zl, zh, jev⟩ := f_pl_ok hE g1 hpl
            have g3 : v1 = .ref (I.2.2 j) := g3
            subst g3
            rw [a9.2.2]
            obtain ⟨hN9, i, tx, hin⟩ := z_txt_ok hN
            obtain ⟨t1, av, f, -, t2⟩ := x10.2.2.1 _ hin
            have ejj : jj = nI z := by
              have := (en_of jz (by omega)).1
              rwa [Int.toNat_natCast] at this
            subst ejj
            refine jm_runV (vs := [.int (nI z)]) (rest := vs2) (i := 105) (n := 1) (jm_charAt (l := l) (q := I0.2.2 j) (av := av) (N := N) (f := f) zn (by omega)) (fun U g mk a h => h.calling) (fun U hU hW => t2.jb hW hU a8) (h_at_ok (pos := 534) (by decide +kernel)) (h_at_ok (pos := 129) (by decide +kernel)) (h_at_ok (pos := 531) (by decide +kernel)) (h_at_ok (pos := 532) (by decide +kernel)) (h_at_ok (pos := 533) (by decide +kernel)) (by decide +kernel) (by decide +kernel) (by decide +kernel) rfl ?_ x1 x2 x3 x5 x6 a1.1 (by rw [f_ctg_ok g4]; exact q5) (by omega) (by omega) (by omega) (by omega) hd a8 (fun r H1 locs1 hr hk hS1 => ?_)
            · obtain ⟨cell, c1, c2, c3, -⟩ := t2.2.2.1.kept a8.2.1
              exact ⟨cell, c1, c2, c3⟩
            · obtain ⟨J, j1, j2, j3, j4⟩ := f_fresh_ok (t := .inl (0, 255)) (x := .int r) (v := bV n 0) (n' := n + 1) (E' := (n, 0, 255) :: E) hE ⟨r, rfl, hr.1, hr.2⟩ rfl
              exact k _ List.mem_cons_self J H1 locs1 ls lv _ ks wp raw a1 (a2.xt j1) ⟨j4, g4.xt j1⟩ (a4.env j1 j2 j3) (a5.xt j1) (fun k9 q9 hq9 => (a6 k9 q9 hq9).kept (hk q9.1 (a6 k9 q9 hq9).lt)) a7 hS1 (a9.tr j1) a10
          · cases h
        · cases h
      · cases h
    · cases h
  · cases h
end OX6
