/-! the law: steps outside of its own, and its loop -/
def IXL (xs : Nat → Int32) (I : IN) : Prop := ∃ i : Nat, I.1[0]? = some (i : Int) ∧ i + 6 ≤ I.2.2 1 ∧ I.2.2 1 < 65536 ∧ I.1[6]? = some (xs i).toInt ∧ ∀ j, 1 ≤ j → j ≤ 5 → I.1[j]? = some (xs (i + j)).toInt
theorem IXL.xt {xs : Nat → Int32} {I J : IN} (hx : hxt I J) (h : IXL xs I) : IXL xs J := by
  obtain ⟨i, h1, h2, h3, h4, h5⟩ := h
  exact ⟨i, hx.at h1, by rw [hx.2.2]; exact h2, by rw [hx.2.2]; exact h3, hx.at h4, fun j j1 j2 => hx.at (h5 j j1 j2)⟩
def ox_scr (S : SB) (ins : Instr) (len : Nat) : Option (List SB) := match S with
  | (pc, lo, st, F, rw, nc, ns) => (match ins, st with
    | .iaload, .inr (.inl (0, c)) :: .inr (.inr (.inr (.inr 0))) :: st' => if (Nat.beq len 1 && (decide (0 ≤ c) && decide (c ≤ 5))) = true then some [(pc + 1, lo, bV (if decide (c = 0) = true then 6 else c.toNat) 0 :: st', F, rw, nc, ns)] else none
    | _, _ => none)
def hp_tab (o i : Nat) : Option Nat := match o, i with
  | 12, 45 => some 0
  | 12, 51 => some 1
  | 12, 111 => some 2
  | _, _ => none
def hp_n (k : Nat) : Nat := match k with
  | 2 => 3
  | _ => 2
def hp_y (k : Nat) : MethodName := match k with
  | 0 => yL_thing
  | 1 => yL_person
  | _ => yL_slip
def hp_c (k : Nat) : ByteArray := match k with
  | 0 => cL_thing
  | 1 => cL_person
  | _ => cL_slip
def hp_l (k : Nat) : Nat := match k with
  | 2 => 6
  | _ => 5
def hp_h (k : Nat) : List (Nat × Nat × Nat × Nat) := match k with
  | 2 => [(0, 12, 15, 13)]
  | _ => [(0, 10, 13, 13)]
abbrev hp_W (k : Nat) : List Cond := Cond.codeWith (hp_y k) (hp_c k) (hp_l k) (some .int) (hp_h k) :: BIG
def hp_A (k : Nat) : List BV := bP 0 true none :: ((List.range (hp_n k)).map (fun j => bV j 0) ++ [bP 24 true none])
def hp_sp (k : Nat) : SPt := (0, (60, 64, 64, 3000), (hp_A k, hpF (hp_n k)), hpO (hp_n k), hpW, [], [], [])
def ox_hlp (M : MT) (wr : WR) (rm : RMt) (S : SB) (ins : Instr) (len : Nat) : Option (List SB) := match ins with
  | .invokestatic i => (match hp_tab (mO M) i with
    | some k => (match f_take (hp_n k + 2) S.2.2.1 [] with
      | some (as, rest) => (match g_sig 0 S.2.2.2.1 [] as (pF (hp_sp k)) [] (pA (hp_sp k)) with
        | σ => if (Nat.beq len 3 && (S.2.2.2.2.1.isNone && (Nat.ble (f_ctg rest) 8 && (Nat.ble 61 rm.1 && (Nat.ble 3100 rm.2.2.2 && (Nat.ble (S.2.2.2.2.2.1 + 64) rm.2.1 && (Nat.ble (S.2.2.2.2.2.2 + 64) rm.2.2.1 && (f_wr wr 24 0 0 && g_all 0 S.2.2.2.1 [] as (pF (hp_sp k)) [] (pA (hp_sp k)) σ)))))))) = true then (match g_cats (g_aft T2 (hp_sp k) σ S.2.2.2.1) (pO (hp_sp k)) with
          | some L => some (L.map (f_aftS S rest 64 64))
          | none => none) else none)
      | none => none)
    | none => none)
  | _ => none
def OXL (M : MT) (wr : WR) (rm : RMt) (S : SB) (ins : Instr) (len : Nat) : Option (List SB) := match ins with
  | .iaload => ox_scr S ins len
  | .invokestatic _ => ox_hlp M wr rm S ins len
  | _ => none
/-- the contracts of the law's own calls -/
def HPM (xs : Nat → Int32) (D : va_G) (cy : Nat → ClassId) (l : Launch) : Prop := ∀ k, k < 3 → ∀ (I : IN) (ks : List Nat) (wp : va_W) (vs : List Value) (sz : Nat), HS T2 FPX cy I ks wp (hpF (hp_n k)) → hvs I (hp_A k) vs →
  Met l (hp_y k) (hp_W k) (rmR (60, 64, 64, 3000)) (PJ2 D cy (EWX xs) I.2.2 wp vs sz) (QJ2 T2 FPX D cy I ks wp hpW (hpO (hp_n k)) (va_A wp sz) (some .int)) 64 64 (va_A wp sz)
section LAW
variable {D : va_G} {cy : Nat → ClassId} {I0 : IN} {ks0 : List Nat} {wp0 : va_W} {wr : WR} {M : MT} {own : String} {xs : Nat → Int32}
variable {p : Program} {l : Launch} {e : Env} {R : Room} {s : State} {m : MethodId} {args : Array Value} {below : List Frame} {meth : Method} {c : Code} {A : Nat → Prop} {Q : State → Prop} {rm : RMt} {cb sb : Nat}
theorem s_scr {S : SB} {x : List SB} {ins : Instr} {len : Nat} (hI0 : IXL xs I0) (X : Cx OW2 (EWX xs) D cy I0.2.2 M own p R s m args meth c A rm cb sb) (h : ox_scr S ins len = some x) (hd : decode (mC M) S.1 = .ok (ins, len))
    (k : ∀ S' ∈ x, Sf T2 FPX D cy I0 ks0 wp0 wr M p l e R s m args below meth c A Q cb sb S') : Sf T2 FPX D cy I0 ks0 wp0 wr M p l e R s m args below meth c A Q cb sb S := by
  obtain ⟨pc, lo, st, F, rw0, nc, ns⟩ := S
  obtain ⟨x1, x2, x3, x4, x5, x6, x7, x8, x9, x10, x11⟩ := X
  intro I H locs ls lv vs ks wp raw a1 a2 a3 a4 a5 a6 a7 a8 a9 a10
  unfold ox_scr at h
  simp only at h a2 a3 a4 a5 hd ⊢
  split at h
  · rename_i c9 st'
    split at h
    · rename_i q
      simp only [Bool.and_eq_true, decide_eq_true_eq] at q
      obtain ⟨q1, q2, q3⟩ := q
      have q1 := beq3 q1
      subst q1
      cases h
      obtain ⟨v0, vs1, rfl, g1, g2⟩ := hvs_cons a3
      obtain ⟨v1, vs2, rfl, g3, g4⟩ := hvs_cons g2
      have g3 : v1 = .ref (I.2.2 0) := g3
      subst g3
      obtain ⟨i, h1, h2, h3, h4, h5⟩ := IXL.xt a9 hI0
      obtain ⟨j, y, rfl, y1, y2⟩ := g1
      rw [h1] at y1
      cases y1
      have e2 : I.2.2 = I0.2.2 := a9.2.2
      have hj : j.toInt = ((i + c9.toNat : Nat) : Int) := by omega
      obtain ⟨i1, i2⟩ := en_in hj (n := I.2.2 1) (by omega) (by omega)
      rw [e2] at i1 ⊢
      obtain ⟨⟨w1, w2, w3⟩, -⟩ := x10
      refine va_sld x1 x2 w1 w2 w3 a8 i1 hd ?_
      rw [i2]
      refine k _ List.mem_cons_self I H locs ls lv _ ks wp raw a1 a2 ⟨?_, g4⟩ a4 a5 a6 a7 a8 a9 a10
      by_cases hc : c9 = 0
      · subst hc
        exact ⟨_, _, rfl, h4, by simp⟩
      · rw [if_neg (by simpa using hc)]
        refine ⟨_, _, rfl, h5 c9.toNat (by omega) (by omega), by simp⟩
    · cases h
  · cases h
theorem hp_tab_ok {o i k : Nat} {own : String} (h : hp_tab o i = some k) (ho : OW2[o]? = some own) : own = RL ∧ k < 3 ∧ Cond.codeWith (hp_y k) (hp_c k) (hp_l k) (some .int) (hp_h k) ∈ BIG ∧ Cond.methodLink RL i (hp_y k) ∈ BIG ∧ Cond.static (hp_y k) ∈ BIG ∧ (parseMethodDescriptor (hp_y k).desc).map (fun d => d.parameters.length) = some (hp_n k + 2) ∧ (hp_y k).cls = RL := by
  unfold hp_tab at h
  split at h <;> cases h <;> cases ho
  · exact ⟨rfl, by omega, h_at_ok (pos := 1204) (by decide +kernel), h_at_ok (pos := 1202) (by decide +kernel), h_at_ok (pos := 1203) (by decide +kernel), by decide +kernel, rfl⟩
  · exact ⟨rfl, by omega, h_at_ok (pos := 1278) (by decide +kernel), h_at_ok (pos := 1276) (by decide +kernel), h_at_ok (pos := 1277) (by decide +kernel), by decide +kernel, rfl⟩
  · exact ⟨rfl, by omega, h_at_ok (pos := 1289) (by decide +kernel), h_at_ok (pos := 1287) (by decide +kernel), h_at_ok (pos := 1288) (by decide +kernel), by decide +kernel, rfl⟩
theorem hp_len (k : Nat) : hp_l k ≤ 6 := by
  unfold hp_l
  split <;> omega
set_option maxHeartbeats 2000000 in
theorem s_hlp {S : SB} {x : List SB} {ins : Instr} {len : Nat} (hHP : HPM xs D cy l) (X : Cx OW2 (EWX xs) D cy I0.2.2 M own p R s m args meth c A rm cb sb) (h : ox_hlp M wr rm S ins len = some x) (hd : decode (mC M) S.1 = .ok (ins, len))
    (k : ∀ S' ∈ x, Sf T2 FPX D cy I0 ks0 wp0 wr M p l e R s m args below meth c A Q cb sb S') : Sf T2 FPX D cy I0 ks0 wp0 wr M p l e R s m args below meth c A Q cb sb S := by
  obtain ⟨pc, lo, st, F, rw0, nc, ns⟩ := S
  obtain ⟨x1, x2, x3, x4, x5, x6, x7, x8, x9, x10, x11, x12, x13, x14⟩ := X
  intro I H locs ls lv vs ks wp raw a1 a2 a3 a4 a5 a6 a7 a8 a9 a10
  unfold ox_hlp at h
  simp only at h a2 a3 a4 a5 hd ⊢
  split at h
  · rename_i i
    split at h
    · rename_i kk hkk
      split at h
      · rename_i as rest htk
        split at h
        · rename_i q
          simp only [Bool.and_eq_true] at q
          obtain ⟨q1, q2, q3, q4, q5, q6, q7, q8, hall⟩ := q
          have q1 := beq3 q1
          have q3 := Nat.le_of_ble_eq_true q3
          have q4 := Nat.le_of_ble_eq_true q4
          have q5 := Nat.le_of_ble_eq_true q5
          have q6 := Nat.le_of_ble_eq_true q6
          have q7 := Nat.le_of_ble_eq_true q7
          subst q1
          have e9 := hraw_none q2 a5
          subst e9
          rw [List.append_nil] at a6 a7
          split at h
          · rename_i L hL
            cases h
            obtain ⟨rfl, hk3, c1, c2, c3, c4, c5⟩ := hp_tab_ok hkk x4
            have hl6 := hp_len kk
            obtain ⟨vas, vr, rfl, hlen, g1, g2⟩ := f_take_ok _ htk a3 (show hvs I [] [] from trivial)
            rw [List.append_nil] at g1
            obtain ⟨zs, z1, z2, z3, -, z6⟩ := g_all_ok (lo := []) (lo' := []) (ls := ls) (nL := mL M) (lv := []) FPX0 a4 ⟨a1.1, a1.2.1, fun _ h => by cases h⟩ trivial g1 hall
            have hmet := hHP kk hk3 (zs, I.2) ks wp vas.reverse H.size z3 z6
            have e10 : I.2.2 = I0.2.2 := a9.2.2
            simp only [e10] at hmet
            have hF : ∀ q, va_A wp H.size q → A q := by
              intro q hq
              rcases hq with ⟨kq, eq, h1⟩ | h1
              · exact a7.2 _ _ h1
              · exact x8 q (Nat.le_trans a8.1 h1)
            have hgw : GoodIn BIG (hp_W kk) := by
              intro w hw
              rcases List.mem_cons.mp hw with rfl | hw
              · exact ⟨c1, good_of_word (big_good _ c1)⟩
              · exact ⟨hw, good_of_word (big_good _ hw)⟩
            have cw : vx_CSW R s args RL i (hp_y kk) (hp_c kk) (hp_l kk) (some .int) (hp_h kk) (hp_W kk) (rmR (60, 64, 64, 3000)) 64 64 (hp_n kk + 2) := by
              refine ⟨⟨rfl, rfl, by show 60 + 1 ≤ R.frames; omega, by show 8 + (hp_l kk + 11) + 3000 ≤ R.locals; omega, pay_in x6 hgw, List.mem_cons_self⟩, x6 _ c1, by rw [c5]; exact x6 _ (h_at_ok (pos := 116) (by decide +kernel)), ⟨by rw [c5]; decide +kernel, by rw [c5]; decide +kernel⟩, fun sig hs => ?_, x6 _ c2, x6 _ c3⟩
              rw [hs] at c4
              exact (Option.some.inj c4).symm
            have hstk : (F0 m pc ls (vas ++ vr)).stack = (vas.reverse).reverse ++ vr := by rw [List.reverse_reverse]
            have run := vx_runSW (As := vas.reverse) (rest := vr) (g := F0 m pc ls (vas ++ vr)) (p := p) (e := e) (below := below) (meth := meth) (H := H) (locs := locs) (cells := cb + nc) (slots := sb + ns) ⟨x1, x2, x3, x5, x6⟩ hmet cw ⟨pj2_blind EWX_ok, fun U hU hW => ⟨rfl, by rw [hU], by rw [hU]; exact a6, KK.warm hW x7, a7.weaken (fun _ _ _ _ => trivial), EWX_ok.1 _ A _ s U locs H x10 hW hU a8 hF⟩⟩ rfl (by rw [List.length_reverse]; exact hlen) a1.1 hstk (lv_room (by rw [f_ctg_ok g2]; exact q3)) hd ⟨by show cb + nc + 64 ≤ R.cells; omega, by show sb + ns + 64 ≤ R.slots; omega⟩
            refine s_aft2 (M' := ((yL_thing, cL_thing, 5, some .int, (0, 0, 0, 0), (0, 0, 0, 0), []) : MT)) (T := T2) (FP := FPX) (cy := cy) x8 (Or.inr (Or.inl rfl)) run a7 a8 (fun u r H1 locs1 hpo hrv hP1 hD1 hS1 => ?_)
            obtain ⟨u1, u2, u3, u4⟩ := hpo
            obtain ⟨L1, hL1, hL2⟩ := g_cats_ok hL _ u1
            obtain ⟨qq, hq1, J, hq2, hq3, hq4⟩ := g_aft_ok (sp := hp_sp kk) (u := u) (o := u.2.2.2) fpok2 suok2 a4 z1 z3.2.1.1 u2 u3 u4 hrv hL1
            have hun : Unch wr ks0 wp0 u.2.1 u.2.2.1 := a10.tr u4 (fun κ j hin => by
              obtain ⟨w, w1, w2, w3, w4⟩ := hin
              have w1 := List.mem_singleton.mp w1
              subst w1
              rw [← w2]
              exact f_wr_ok q8 w3 w4)
            obtain ⟨r', F'⟩ := qq
            have hgo := k _ (List.mem_map.mpr ⟨_, hL2 _ hq1, rfl⟩)
            have := hgo J H1 locs1 ls lv (r.toList ++ vr) u.2.1 u.2.2.1 [] a1 (a2.xt hq2) ?_ hq3 ?_ (by rw [List.append_nil]; exact hP1) (by rw [List.append_nil]; exact hD1) hS1 (a9.tr hq2) hun
            · simp only [f_aftS, Nat.add_assoc] at this ⊢
              exact this
            · simp only [f_aftS]
              simp only at hq4
              cases r' with
              | none => cases r with
                | none => exact g2.xt hq2
                | some x => exact absurd hq4 id
              | some a => cases r with
                | none => exact absurd hq4 id
                | some x => exact ⟨hq4, g2.xt hq2⟩
            · simp only [f_aftS]
              cases rw0 with
              | none => rfl
              | some x => cases q2
          · cases h
        · cases h
      · cases h
    · cases h
  · cases h
theorem oxlok (hHP : HPM xs D cy l) : OXOK (IXL xs) T2 FPX OW2 (EWX xs) D cy l OXL := by
  intro M wr rm S ins len x h I0 ks0 wp0 own p e R s m args below meth c A Q cb sb hI0 X hd k
  unfold OXL at h
  split at h
  · exact s_scr hI0 X h hd k
  · exact s_hlp hHP X h hd k
  · cases h
end LAW
