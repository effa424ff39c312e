/-! the reference's sentence: small methods (written by wip/p39/r1.py) -/
def qW (m : Nat → Nat) (RD ST : Nat → Int) : ZW := [(m 8, .inr (.inl (0, 160, RD))), (m 43, .inr (.inl (0, 45, ST)))]
def cd : Nat → Int
  | 0 => 20
  | 1 => 21
  | 2 => 22
  | _ => 23
/-- the row holds what waits -/
def stk (ST : Nat → Int) : List Nat → Prop
  | [] => True
  | x :: r => ST r.length = cd x ∧ stk ST r
/-- how many of what waits go deeper -/
def dp : List Nat → Nat
  | [] => 0
  | 1 :: r => dp r
  | 2 :: r => dp r
  | _ :: r => dp r + 1
def frM (F F9 : Nat → Int) : Prop := ∀ k : Nat, ¬ k = 44 → ¬ k = 46 → ¬ k = 47 → F9 k = F k
def SQ (F ST : Nat → Int) (st : List Nat) (d : Nat) (T : Int) : Prop := F 46 = (st.length : Int) ∧ stk ST st ∧ F 47 = (d : Int) ∧ d = dp st + 1 ∧ 0 ≤ F 44 ∧ F 44 + F 46 = T ∧ T ≤ 40
/-- the whole state of the automaton -/
def RQ (F ST : Nat → Int) (st : List Nat) (d o : Nat) (w : Int) : Prop := SQ F ST st d (F 44 + F 46) ∧ F 45 = (o : Int) ∧ o ≤ 20 ∧ F 48 = w ∧ F 44 + F 46 + w ≤ 2 * (o : Int) ∧ F 15 = 0
theorem rlk0 {SS NR CN NM : Nat → Int} {x : Int} {s : Nat} {v : Int} (hR : RK SS NR CN NM) (hI : INV CN NM x) (hs : s < 4) (hv : 0 ≤ v ∧ v < 34359738368) : lk (fun q => NR (bs s - 28 + q)) (wd v) (CN s).toNat = lkS CN NM s v := by
  have hc := hI.cn s hs
  refine lk_congr (fun i hi => ?_)
  obtain ⟨e, r1, r2⟩ := hR.2.1 s i hs (by omega)
  show NR (bs s - 28 + i) = wd v ↔ nmS NM s i = v
  rw [e]
  constructor
  · intro h
    exact wd_inj ⟨r1, r2⟩ hv h
  · intro h
    unfold nmS at h
    rw [h]
theorem cd_0 {x : Nat} (h : cd x = 20) : x = 0 := by
  match x, h with
  | 0, _ => rfl
  | 1, h => exact absurd h (by decide)
  | 2, h => exact absurd h (by decide)
  | x + 3, h => exact absurd (show (23 : Int) = 20 from h) (by decide)
theorem cd_1 {x : Nat} (h : cd x = 21) : x = 1 := by
  match x, h with
  | 0, h => exact absurd h (by decide)
  | 1, _ => rfl
  | 2, h => exact absurd h (by decide)
  | x + 3, h => exact absurd (show (23 : Int) = 21 from h) (by decide)
theorem cd_2 {x : Nat} (h : cd x = 22) : x = 2 := by
  match x, h with
  | 0, h => exact absurd h (by decide)
  | 1, h => exact absurd h (by decide)
  | 2, _ => rfl
  | x + 3, h => exact absurd (show (23 : Int) = 22 from h) (by decide)
theorem cd_rng (x : Nat) : 20 ≤ cd x ∧ cd x ≤ 23 := by
  match x with
  | 0 => decide
  | 1 => decide
  | 2 => decide
  | x + 3 => exact ⟨by show (20 : Int) ≤ 23; decide, by show (23 : Int) ≤ 23; decide⟩
theorem sNots_ne {x : Nat} {r : List Nat} {d : Nat} (h : ¬ x = 0) : sNots (x :: r) d = (x :: r, d) := by
  match x, h with
  | 0, h => exact absurd rfl h
  | x + 1, _ => rfl
theorem sJoin1_ne {x : Nat} {r : List Nat} (h : ¬ x = 1) : sJoin 1 (x :: r) = x :: r := by
  match x, h with
  | 0, _ => rfl
  | 1, h => exact absurd rfl h
  | 2, _ => rfl
  | x + 3, _ => rfl
theorem sJoin2_ne {x : Nat} {r : List Nat} (h : ¬ x = 1) (h2 : ¬ x = 2) : sJoin 2 (x :: r) = x :: r := by
  match x, h, h2 with
  | 0, _, _ => rfl
  | 1, h, _ => exact absurd rfl h
  | 2, _, h => exact absurd rfl h
  | x + 3, _, _ => rfl
/-- a row that is written above what waits -/
theorem stk_up {ST : Nat → Int} {v : Int} {n : Nat} : ∀ {st : List Nat}, st.length ≤ n → stk ST st → stk (zup ST n v) st := by
  intro st
  induction st with
  | nil => intro _ _; trivial
  | cons x r ih =>
    intro hn h
    have hn : r.length + 1 ≤ n := hn
    exact ⟨by rw [zup_ne (by omega)]; exact h.1, ih (by omega) h.2⟩
theorem stk_push {ST : Nat → Int} {st : List Nat} {x : Nat} {n : Nat} (hn : n = st.length) (h : stk ST st) : stk (zup ST n (cd x)) (x :: st) := by
  subst hn
  exact ⟨zup_eq, stk_up (Nat.le_refl _) h⟩
section RS9
variable {xs : Nat → Int32} {D : va_G} {cy : Nat → ClassId} {l : Launch} {ex : Nat → Nat} {m : Nat → Nat} {F B SS HH NR RV RD ST P K S V CN NM : Nat → Int} {j k : Nat} {x T : Int} {st : List Nat} {d : Nat}
set_option maxRecDepth 4000 in
theorem zr_looksAt0 {sN : Nat} (hs : sN < 4) (hH : RH B P K S V RV k F) (hA : rAt P K S V F j) (hj : j ≤ k) (hRR : RK SS NR CN NM) (hI : INV CN NM x) (hRZ : ∀ q, zin64 (RV q)) : ZMet (EWX xs) D cy l ex mt2_X12_looksAt (1, 0, 0, 23) (rW m F B SS HH NR RV) [zR (m 0), zI ((bs sN - 28 : Nat) : Int), zI (((CN sN).toNat : Nat) : Int)] (fun z Y => (tdF K V CN NM sN j = 0 ∧ z = some (zI 1) ∧ Y = (rW m (zup F 18 (lkS CN NM sN (V j))) B SS HH NR RV)) ∨ (¬ tdF K V CN NM sN j = 0 ∧ z = some (zI 0) ∧ ∃ F9, Y = (rW m F9 B SS HH NR RV) ∧ F9 15 = tdF K V CN NM sN j ∧ F9 16 = S j)) := by
  obtain ⟨mok, tok, ow⟩ := pok2.1 _ _ zj_X12_looksAt
  refine met_ofz EWX_ok mok tok ow (Nat.le_of_ble_eq_true rfl) (fun r p0 e0 s0 m0 ar0 be0 me0 c0 A0 Q0 X hR => ?_)
  have hA0 := hA
  have hH0 := hH
  have hj0 := hj
  have hf0 : fr4 F F := ⟨rfl, rfl, rfl, rfl⟩
  have hfb : bs sN - 28 + (CN sN).toNat ≤ 56 := by
    obtain ⟨c0, c1, c2, c3, -⟩ := hI
    obtain ⟨b0, b1, b2, b3⟩ := bs_val
    rcases (show sN = 0 ∨ sN = 1 ∨ sN = 2 ∨ sN = 3 by omega) with rfl | rfl | rfl | rfl <;> omega
  refine zg_blk pok2 X 1 [] (S' := (1, [(0, zR (m 0)), (1, zI ((bs sN - 28 : Nat) : Int)), (2, zI (((CN sN).toNat : Nat) : Int))], [zR (m 0)], (rW m F B SS HH NR RV))) rfl trivial ?_
  refine zg_callV pok2 EWX_ok X 0 (vas := []) (vr := []) (Y1 := (rW m F B SS HH NR RV)) (Y2 := []) rfl rfl (Or.inl rfl) zj_X12_isName rfl rfl rfl rfl (Nat.le_of_ble_eq_true rfl) rfl (zr_isName0 (F := F) hA0 hRZ) ⟨by decide, by decide, by decide, by decide⟩ (fun z9 Y9 hz => ?_)
  rcases hz with ⟨hq, rfl, rfl⟩ | ⟨hq, rfl, rfl⟩
  · have hk0 : K j = 1 := (hA0.2.1.name hH0.2.2.2.2).mp hq
    have hky0 := hA0.2.1.key hk0
    refine zg_if X 13 rfl rfl (by unfold zin; omega) (fun g1 => ?_) (fun g1 => ?_)
    · simp only [x_cnd] at g1
      refine zg_blk pok2 X 4 [] (S' := (17, [(0, zR (m 0)), (1, zI ((bs sN - 28 : Nat) : Int)), (2, zI (((CN sN).toNat : Nat) : Int))], [zI (((CN sN).toNat : Nat) : Int), zI ((bs sN - 28 : Nat) : Int), zR (m 0), zR (m 0)], (rW m F B SS HH NR RV))) rfl trivial ?_
      refine zg_callV pok2 EWX_ok X 0 (vas := [zI ((bs sN - 28 : Nat) : Int), zI (((CN sN).toNat : Nat) : Int)]) (vr := [zR (m 0)]) (Y1 := (rW m F B SS HH NR RV)) (Y2 := []) rfl rfl (Or.inl rfl) zj_X12_find rfl rfl rfl rfl (Nat.le_of_ble_eq_true rfl) rfl (zr_find (fr := (bs sN - 28)) (n := (CN sN).toNat) (F := F) (by have h9 := hI.cn sN (by omega); exact hfb) hRR.2.2 (hA0.2.1.w17 hky0.2.2)) ⟨by decide, by decide, by decide, by decide⟩ (fun z9 Y9 hz => ?_)
      obtain ⟨rfl, rfl⟩ := hz
      rw [show lk (fun q => NR (bs sN - 28 + q)) (F 17) (CN sN).toNat = lkS CN NM sN (V j) by rw [hky0.1]; exact rlk0 (s := sN) hRR hI (by omega) hky0.2.1]
      have hlrsN := lkS_rng (NM := NM) (key := V j) (hI.cn sN (by omega))
      refine zg_blk pok2 X 3 [0, 0] (S' := (27, [(0, zR (m 0)), (1, zI ((bs sN - 28 : Nat) : Int)), (2, zI (((CN sN).toNat : Nat) : Int))], [zI (lkS CN NM sN (V j))], (rW m (zup F 18 (lkS CN NM sN (V j))) B SS HH NR RV))) rfl ⟨rfl, rfl, rfl, rfl, trivial⟩ ?_
      refine zg_if X 38 rfl rfl (by unfold zin; omega) (fun g2 => ?_) (fun g2 => ?_)
      · simp only [x_cnd] at g2
        refine zg_blk pok2 X 2 [] (S' := (43, [(0, zR (m 0)), (1, zI ((bs sN - 28 : Nat) : Int)), (2, zI (((CN sN).toNat : Nat) : Int))], [zI 1], (rW m (zup F 18 (lkS CN NM sN (V j))) B SS HH NR RV))) rfl trivial ?_
        refine zg_retb X hR rfl rfl (by decide) (by decide) (by first | exact Or.inl rfl | exact Or.inr rfl) ?_
        have e9 : tdF K V CN NM sN j = 0 := by unfold tdF; rw [if_pos hk0, if_neg (by omega)]
        exact Or.inl ⟨e9, rfl, rfl⟩
      · simp only [x_ncd] at g2
        refine zg_blk pok2 X 2 [] (S' := (32, [(0, zR (m 0)), (1, zI ((bs sN - 28 : Nat) : Int)), (2, zI (((CN sN).toNat : Nat) : Int))], [zI 3, zR (m 0)], (rW m (zup F 18 (lkS CN NM sN (V j))) B SS HH NR RV))) rfl trivial ?_
        refine zg_callV pok2 EWX_ok X 0 (vas := [zI 3]) (vr := []) (Y1 := (rW m (zup F 18 (lkS CN NM sN (V j))) B SS HH NR RV)) (Y2 := []) rfl rfl (Or.inl rfl) zj_X12_bad rfl rfl rfl rfl (Nat.le_of_ble_eq_true rfl) rfl (zr_bad (F := (zup F 18 (lkS CN NM sN (V j))))) ⟨by decide, by decide, by decide, by decide⟩ (fun z9 Y9 hz => ?_)
        obtain ⟨rfl, rfl⟩ := hz
        refine zg_if X 42 rfl rfl (by unfold zin; omega) (fun g3 => ?_) (fun g3 => ?_)
        · simp only [x_cnd] at g3
          refine zg_blk pok2 X 1 [] (S' := (43, [(0, zR (m 0)), (1, zI ((bs sN - 28 : Nat) : Int)), (2, zI (((CN sN).toNat : Nat) : Int))], [zI 0], (rW m (zup (zup (zup F 18 (lkS CN NM sN (V j))) 15 3) 16 ((zup F 18 (lkS CN NM sN (V j))) 12)) B SS HH NR RV))) rfl trivial ?_
          refine zg_retb X hR rfl rfl (by decide) (by decide) (by first | exact Or.inl rfl | exact Or.inr rfl) ?_
          have e9 : tdF K V CN NM sN j = 3 := by unfold tdF; rw [if_pos hk0, if_pos (by omega)]
          exact Or.inr ⟨by omega, rfl, _, rfl, by rw [e9]; rfl, hA.1⟩
        · exact absurd (show ¬ (0 : Int) = (0 : Int) from g3) (by decide)
    · exact absurd (show (1 : Int) = (0 : Int) from g1) (by decide)
  · have hk0 : ¬ K j = 1 := fun h => hq ((hA0.2.1.name hH0.2.2.2.2).mpr h)
    refine zg_if X 13 rfl rfl (by unfold zin; omega) (fun g4 => ?_) (fun g4 => ?_)
    · exact absurd (show ¬ (0 : Int) = (0 : Int) from g4) (by decide)
    · simp only [x_ncd] at g4
      refine zg_blk pok2 X 2 [] (S' := (9, [(0, zR (m 0)), (1, zI ((bs sN - 28 : Nat) : Int)), (2, zI (((CN sN).toNat : Nat) : Int))], [zI 1, zR (m 0)], (rW m F B SS HH NR RV))) rfl trivial ?_
      refine zg_callV pok2 EWX_ok X 0 (vas := [zI 1]) (vr := []) (Y1 := (rW m F B SS HH NR RV)) (Y2 := []) rfl rfl (Or.inl rfl) zj_X12_bad rfl rfl rfl rfl (Nat.le_of_ble_eq_true rfl) rfl (zr_bad (F := F)) ⟨by decide, by decide, by decide, by decide⟩ (fun z9 Y9 hz => ?_)
      obtain ⟨rfl, rfl⟩ := hz
      refine zg_retb X hR rfl rfl (by decide) (by decide) (by first | exact Or.inl rfl | exact Or.inr rfl) ?_
      have e9 : tdF K V CN NM sN j = 1 := by unfold tdF; rw [if_neg hk0]
      exact Or.inr ⟨by omega, rfl, _, rfl, by rw [e9]; rfl, hA.1⟩
set_option maxRecDepth 4000 in
theorem zj_X12_code : PR2[101]? = some mt2_X12_code := rfl
set_option maxRecDepth 4000 in
theorem zr_code {z1 z2 z3 : Int} (hc : 0 ≤ F 44 ∧ F 44 ≤ 45) : ZMet (EWX xs) D cy l ex mt2_X12_code (0, 0, 0, 0) (rW m F B SS HH NR RV ++ qW m RD ST) [zR (m 0), zI z1, zI z2, zI z3] (fun z Y => z = none ∧ ∃ RD9, Y = (rW m (zup F 44 (F 44 + 1)) B SS HH NR RV ++ qW m RD9 ST)) := by
  obtain ⟨mok, tok, ow⟩ := pok2.1 _ _ zj_X12_code
  refine met_ofz EWX_ok mok tok ow (Nat.le_of_ble_eq_true rfl) (fun r p0 e0 s0 m0 ar0 be0 me0 c0 A0 Q0 X hR => ?_)
  refine zg_blk pok2 X 34 [0, 0, 6, 0, 0, 6, 0, 0, 6, 0, 0] (S' := (50, [(0, zR (m 0)), (1, zI z1), (2, zI z2), (3, zI z3)], [], ((rW m (zup F 44 ((F 44) + 1)) B SS HH NR RV) ++ (qW m (zup (zup (zup RD ((3 * (F 44)).toNat) z1) (((3 * (F 44)) + 1).toNat) z2) (((3 * (F 44)) + 2).toNat) z3) ST)))) rfl ⟨rfl, rfl, rfl, rfl, (show zidx (3 * (F 44)) 160 from by unfold zidx; omega), rfl, rfl, rfl, rfl, (show zidx ((3 * (F 44)) + 1) 160 from by unfold zidx; omega), rfl, rfl, rfl, rfl, (show zidx ((3 * (F 44)) + 2) 160 from by unfold zidx; omega), rfl, rfl, rfl, rfl, trivial⟩ ?_
  refine zg_retv X hR rfl rfl (by decide) (by decide) ?_
  exact ⟨rfl, _, rfl⟩
set_option maxRecDepth 4000 in
theorem zj_X12_nots : PR2[162]? = some mt2_X12_nots := rfl
set_option maxRecDepth 4000 in
theorem zr_nots (hq : SQ F ST st d T) : ZMet (EWX xs) D cy l ex mt2_X12_nots (1, 0, 0, 23) (rW m F B SS HH NR RV ++ qW m RD ST) [zR (m 0)] (fun z Y => z = none ∧ ∃ F9 RD9, Y = (rW m F9 B SS HH NR RV ++ qW m RD9 ST) ∧ SQ F9 ST (sNots st d).1 (sNots st d).2 T ∧ frM F F9) := by
  obtain ⟨mok, tok, ow⟩ := pok2.1 _ _ zj_X12_nots
  refine met_ofz EWX_ok mok tok ow (Nat.le_of_ble_eq_true rfl) (fun r p0 e0 s0 m0 ar0 be0 me0 c0 A0 Q0 X hR => ?_)
  obtain ⟨R, hR0⟩ : ∃ R, sNots st d = R := ⟨_, rfl⟩
  rw [hR0] at hR
  have loop : ∀ (st : List Nat) (d : Nat) (F1 RD : Nat → Int), SQ F1 ST st d T → frM F F1 → sNots st d = R → ZG D cy r mt2_X12_nots p0 l e0 (rmR (1, 0, 0, 23)) s0 m0 ar0 be0 me0 c0 A0 Q0 0 0 (0, [(0, zR (m 0))], [], (rW m F1 B SS HH NR RV ++ qW m RD ST)) := by
    intro st
    induction st with
    | nil =>
      intro d F1 RD hq hfr hR9
      obtain ⟨h46, hs, h47, hdp, h44, hT, hT2⟩ := hq
      have h46z : F1 46 = 0 := h46
      refine zg_blk pok2 X 2 [0] (S' := (4, [(0, zR (m 0))], [zI (F1 46)], ((rW m F1 B SS HH NR RV) ++ (qW m RD ST)))) rfl ⟨rfl, trivial⟩ ?_
      refine zg_if X 54 rfl rfl (by first | (unfold zin; omega) | (rw [hst]; have h9 := cd_rng x; unfold zin; omega)) (fun g1 => ?_) (fun g1 => ?_)
      · simp only [x_cnd] at g1
        refine zg_retv X hR rfl rfl (by decide) (by decide) ?_
        exact ⟨rfl, F1, RD, rfl, by rw [← hR9]; exact ⟨h46, hs, h47, hdp, h44, hT, hT2⟩, hfr⟩
      · simp only [x_ncd] at g1
        exfalso
        omega
    | cons x st ih =>
      intro d F1 RD hq hfr hR9
      obtain ⟨h46, hs, h47, hdp, h44, hT, hT2⟩ := hq
      have h46z : F1 46 = ((st.length : Nat) : Int) + 1 := by rw [h46]; simp
      have hst : ST (F1 46 - 1).toNat = cd x := by rw [show (F1 46 - 1).toNat = st.length by omega]; exact hs.1
      refine zg_blk pok2 X 2 [0] (S' := (4, [(0, zR (m 0))], [zI (F1 46)], ((rW m F1 B SS HH NR RV) ++ (qW m RD ST)))) rfl ⟨rfl, trivial⟩ ?_
      refine zg_if X 54 rfl rfl (by first | (unfold zin; omega) | (rw [hst]; have h9 := cd_rng x; unfold zin; omega)) (fun g1 => ?_) (fun g1 => ?_)
      · simp only [x_cnd] at g1
        exfalso
        omega
      · simp only [x_ncd] at g1
        refine zg_blk pok2 X 8 [0, 0, 7] (S' := (20, [(0, zR (m 0))], [zI 20, zI (ST (((F1 46) - 1).toNat))], ((rW m F1 B SS HH NR RV) ++ (qW m RD ST)))) rfl ⟨rfl, rfl, rfl, rfl, (show zidx ((F1 46) - 1) 45 from by unfold zidx; omega), trivial⟩ ?_
        refine zg_icmp X 54 rfl rfl (by first | (unfold zin; omega) | (rw [hst]; have h9 := cd_rng x; unfold zin; omega)) (by first | (unfold zin; omega) | (rw [hst]; have h9 := cd_rng x; unfold zin; omega)) (fun g2 => ?_) (fun g2 => ?_)
        · simp only [x_cnd] at g2
          refine zg_retv X hR rfl rfl (by decide) (by decide) ?_
          rw [sNots_ne (fun q => by subst q; exact g2 (by rw [hst]; rfl))] at hR9
          exact ⟨rfl, F1, RD, rfl, by rw [← hR9]; exact ⟨h46, hs, h47, hdp, h44, hT, hT2⟩, hfr⟩
        · simp only [x_ncd] at g2
          refine zg_blk pok2 X 16 [0, 0, 0, 0] (S' := (48, [(0, zR (m 0))], [zI 0, zI 0, zI 20, zR (m 0)], ((rW m (zup (zup F1 46 ((F1 46) - 1)) 47 ((F1 47) - 1)) B SS HH NR RV) ++ (qW m RD ST)))) rfl ⟨rfl, rfl, rfl, rfl, rfl, rfl, rfl, rfl, trivial⟩ ?_
          refine zg_callV pok2 EWX_ok X 0 (vas := [zI 20, zI 0, zI 0]) (vr := []) (Y1 := ((rW m (zup (zup F1 46 ((F1 46) - 1)) 47 ((F1 47) - 1)) B SS HH NR RV) ++ (qW m RD ST))) (Y2 := []) rfl rfl (Or.inl rfl) zj_X12_code rfl rfl rfl rfl (Nat.le_of_ble_eq_true rfl) rfl (zr_code (F := (zup (zup F1 46 ((F1 46) - 1)) 47 ((F1 47) - 1))) (show 0 ≤ (F1 44) ∧ (F1 44) ≤ 45 by omega)) ⟨by decide, by decide, by decide, by decide⟩ (fun z9 Y9 hz => ?_)
          obtain ⟨rfl, RDb, rfl⟩ := hz
          refine zg_cv (S2 := (51, [(0, zR (m 0))], [], ((rW m (zup (zup (zup F1 44 ((F1 44) + 1)) 46 ((F1 46) - 1)) 47 ((F1 47) - 1)) B SS HH NR RV) ++ (qW m RDb ST)))) rfl ?_
          refine zg_blk pok2 X 1 [] (S' := (0, [(0, zR (m 0))], [], ((rW m (zup (zup (zup F1 44 ((F1 44) + 1)) 46 ((F1 46) - 1)) 47 ((F1 47) - 1)) B SS HH NR RV) ++ (qW m RDb ST)))) rfl trivial ?_
          have hx0 : x = 0 := cd_0 (by rw [← hst]; exact g2)
          subst hx0
          have hdp9 : d = dp st + 1 + 1 := hdp
          have hh46 : F1 46 = ((st.length : Nat) : Int) + 1 := by omega
          exact ih (d - 1) (zup (zup (zup F1 44 ((F1 44) + 1)) 46 ((F1 46) - 1)) 47 ((F1 47) - 1)) RDb ⟨show F1 46 - 1 = _ by omega, hs.2, show F1 47 - 1 = ((d - 1 : Nat) : Int) by omega, by omega, by show 0 ≤ F1 44 + 1; omega, by show (F1 44 + 1) + (F1 46 - 1) = T; omega, hT2⟩ (fun q q1 q2 q3 => by simp only [zup_ne q1, zup_ne q2, zup_ne q3]; exact hfr q q1 q2 q3) hR9
  exact loop st d F RD hq (fun _ _ _ _ => rfl) hR0
set_option maxRecDepth 4000 in
theorem zj_X12_joins : PR2[145]? = some mt2_X12_joins := rfl
set_option maxRecDepth 4000 in
theorem zr_joins1 (hq : SQ F ST st d T) : ZMet (EWX xs) D cy l ex mt2_X12_joins (1, 0, 0, 23) (rW m F B SS HH NR RV ++ qW m RD ST) [zR (m 0), zI 21] (fun z Y => z = none ∧ ∃ F9 RD9, Y = (rW m F9 B SS HH NR RV ++ qW m RD9 ST) ∧ SQ F9 ST (sJoin 1 st) d T ∧ frM F F9) := by
  obtain ⟨mok, tok, ow⟩ := pok2.1 _ _ zj_X12_joins
  refine met_ofz EWX_ok mok tok ow (Nat.le_of_ble_eq_true rfl) (fun r p0 e0 s0 m0 ar0 be0 me0 c0 A0 Q0 X hR => ?_)
  obtain ⟨R, hR0⟩ : ∃ R, sJoin 1 st = R := ⟨_, rfl⟩
  rw [hR0] at hR
  have loop : ∀ (st : List Nat) (F1 RD : Nat → Int), SQ F1 ST st d T → frM F F1 → sJoin 1 st = R → ZG D cy r mt2_X12_joins p0 l e0 (rmR (1, 0, 0, 23)) s0 m0 ar0 be0 me0 c0 A0 Q0 0 0 (0, [(0, zR (m 0)), (1, zI 21)], [], (rW m F1 B SS HH NR RV ++ qW m RD ST)) := by
    intro st
    induction st with
    | nil =>
      intro F1 RD hq hfr hR9
      obtain ⟨h46, hs, h47, hdp, h44, hT, hT2⟩ := hq
      have h46z : F1 46 = 0 := h46
      refine zg_blk pok2 X 2 [0] (S' := (4, [(0, zR (m 0)), (1, zI 21)], [zI (F1 46)], ((rW m F1 B SS HH NR RV) ++ (qW m RD ST)))) rfl ⟨rfl, trivial⟩ ?_
      refine zg_if X 73 rfl rfl (by first | (unfold zin; omega) | (rw [hst]; have h9 := cd_rng x; unfold zin; omega)) (fun g1 => ?_) (fun g1 => ?_)
      · simp only [x_cnd] at g1
        refine zg_retv X hR rfl rfl (by decide) (by decide) ?_
        exact ⟨rfl, F1, RD, rfl, by rw [← hR9]; exact ⟨h46, hs, h47, hdp, h44, hT, hT2⟩, hfr⟩
      · simp only [x_ncd] at g1
        exfalso
        omega
    | cons x st ih =>
      intro F1 RD hq hfr hR9
      obtain ⟨h46, hs, h47, hdp, h44, hT, hT2⟩ := hq
      have h46z : F1 46 = ((st.length : Nat) : Int) + 1 := by rw [h46]; simp
      have hst : ST (F1 46 - 1).toNat = cd x := by rw [show (F1 46 - 1).toNat = st.length by omega]; exact hs.1
      refine zg_blk pok2 X 2 [0] (S' := (4, [(0, zR (m 0)), (1, zI 21)], [zI (F1 46)], ((rW m F1 B SS HH NR RV) ++ (qW m RD ST)))) rfl ⟨rfl, trivial⟩ ?_
      refine zg_if X 73 rfl rfl (by first | (unfold zin; omega) | (rw [hst]; have h9 := cd_rng x; unfold zin; omega)) (fun g1 => ?_) (fun g1 => ?_)
      · simp only [x_cnd] at g1
        exfalso
        omega
      · simp only [x_ncd] at g1
        refine zg_blk pok2 X 8 [0, 0, 7] (S' := (20, [(0, zR (m 0)), (1, zI 21)], [zI 21, zI (ST (((F1 46) - 1).toNat))], ((rW m F1 B SS HH NR RV) ++ (qW m RD ST)))) rfl ⟨rfl, rfl, rfl, rfl, (show zidx ((F1 46) - 1) 45 from by unfold zidx; omega), trivial⟩ ?_
        refine zg_icmp X 45 rfl rfl (by first | (unfold zin; omega) | (rw [hst]; have h9 := cd_rng x; unfold zin; omega)) (by first | (unfold zin; omega) | (rw [hst]; have h9 := cd_rng x; unfold zin; omega)) (fun g2 => ?_) (fun g2 => ?_)
        · simp only [x_cnd] at g2
          refine zg_blk pok2 X 14 [0, 0, 0, 0, 7] (S' := (67, [(0, zR (m 0)), (1, zI 21)], [zI 0, zI 0, zI (ST (((F1 46) - 1).toNat)), zR (m 0)], ((rW m (zup F1 46 ((F1 46) - 1)) B SS HH NR RV) ++ (qW m RD ST)))) rfl ⟨rfl, rfl, rfl, rfl, rfl, rfl, rfl, rfl, (show zidx ((F1 46) - 1) 45 from by unfold zidx; omega), trivial⟩ ?_
          refine zg_callV pok2 EWX_ok X 0 (vas := [zI (ST (((F1 46) - 1).toNat)), zI 0, zI 0]) (vr := []) (Y1 := ((rW m (zup F1 46 ((F1 46) - 1)) B SS HH NR RV) ++ (qW m RD ST))) (Y2 := []) rfl rfl (Or.inl rfl) zj_X12_code rfl rfl rfl rfl (Nat.le_of_ble_eq_true rfl) rfl (zr_code (F := (zup F1 46 ((F1 46) - 1))) (show 0 ≤ (F1 44) ∧ (F1 44) ≤ 45 by omega)) ⟨by decide, by decide, by decide, by decide⟩ (fun z9 Y9 hz => ?_)
          obtain ⟨rfl, RDb, rfl⟩ := hz
          refine zg_cv (S2 := (70, [(0, zR (m 0)), (1, zI 21)], [], ((rW m (zup (zup F1 44 ((F1 44) + 1)) 46 ((F1 46) - 1)) B SS HH NR RV) ++ (qW m RDb ST)))) rfl ?_
          refine zg_blk pok2 X 1 [] (S' := (0, [(0, zR (m 0)), (1, zI 21)], [], ((rW m (zup (zup F1 44 ((F1 44) + 1)) 46 ((F1 46) - 1)) B SS HH NR RV) ++ (qW m RDb ST)))) rfl trivial ?_
          have hx0 : x = 1 := cd_1 (by rw [← hst]; exact g2)
          subst hx0
          have hdp9 : d = dp st + 1 := hdp
          have hh46 : F1 46 = ((st.length : Nat) : Int) + 1 := by omega
          exact ih (zup (zup F1 44 ((F1 44) + 1)) 46 ((F1 46) - 1)) RDb ⟨show F1 46 - 1 = _ by omega, hs.2, h47, by omega, by show 0 ≤ F1 44 + 1; omega, by show (F1 44 + 1) + (F1 46 - 1) = T; omega, hT2⟩ (fun q q1 q2 q3 => by simp only [zup_ne q1, zup_ne q2, zup_ne q3]; exact hfr q q1 q2 q3) hR9
        · simp only [x_ncd] at g2
          refine zg_blk pok2 X 8 [0, 0, 7] (S' := (36, [(0, zR (m 0)), (1, zI 21)], [zI 22, zI (ST (((F1 46) - 1).toNat))], ((rW m F1 B SS HH NR RV) ++ (qW m RD ST)))) rfl ⟨rfl, rfl, rfl, rfl, (show zidx ((F1 46) - 1) 45 from by unfold zidx; omega), trivial⟩ ?_
          refine zg_icmp X 73 rfl rfl (by first | (unfold zin; omega) | (rw [hst]; have h9 := cd_rng x; unfold zin; omega)) (by first | (unfold zin; omega) | (rw [hst]; have h9 := cd_rng x; unfold zin; omega)) (fun g3 => ?_) (fun g3 => ?_)
          · simp only [x_cnd] at g3
            refine zg_retv X hR rfl rfl (by decide) (by decide) ?_
            rw [sJoin1_ne (fun q => by subst q; exact g2 (by rw [hst]; rfl))] at hR9
            exact ⟨rfl, F1, RD, rfl, by rw [← hR9]; exact ⟨h46, hs, h47, hdp, h44, hT, hT2⟩, hfr⟩
          · simp only [x_ncd] at g3
            refine zg_blk pok2 X 2 [] (S' := (42, [(0, zR (m 0)), (1, zI 21)], [zI 22, zI 21], ((rW m F1 B SS HH NR RV) ++ (qW m RD ST)))) rfl trivial ?_
            refine zg_icmp X 73 rfl rfl (by first | (unfold zin; omega) | (rw [hst]; have h9 := cd_rng x; unfold zin; omega)) (by first | (unfold zin; omega) | (rw [hst]; have h9 := cd_rng x; unfold zin; omega)) (fun g4 => ?_) (fun g4 => ?_)
            · simp only [x_cnd] at g4
              refine zg_retv X hR rfl rfl (by decide) (by decide) ?_
              rw [sJoin1_ne (fun q => by subst q; exact g2 (by rw [hst]; rfl))] at hR9
              exact ⟨rfl, F1, RD, rfl, by rw [← hR9]; exact ⟨h46, hs, h47, hdp, h44, hT, hT2⟩, hfr⟩
            · exact absurd (show (21 : Int) = (22 : Int) from g4) (by decide)
  exact loop st F RD hq (fun _ _ _ _ => rfl) hR0
set_option maxRecDepth 4000 in
theorem zr_joins2 (hq : SQ F ST st d T) : ZMet (EWX xs) D cy l ex mt2_X12_joins (1, 0, 0, 23) (rW m F B SS HH NR RV ++ qW m RD ST) [zR (m 0), zI 22] (fun z Y => z = none ∧ ∃ F9 RD9, Y = (rW m F9 B SS HH NR RV ++ qW m RD9 ST) ∧ SQ F9 ST (sJoin 2 st) d T ∧ frM F F9) := by
  obtain ⟨mok, tok, ow⟩ := pok2.1 _ _ zj_X12_joins
  refine met_ofz EWX_ok mok tok ow (Nat.le_of_ble_eq_true rfl) (fun r p0 e0 s0 m0 ar0 be0 me0 c0 A0 Q0 X hR => ?_)
  obtain ⟨R, hR0⟩ : ∃ R, sJoin 2 st = R := ⟨_, rfl⟩
  rw [hR0] at hR
  have loop : ∀ (st : List Nat) (F1 RD : Nat → Int), SQ F1 ST st d T → frM F F1 → sJoin 2 st = R → ZG D cy r mt2_X12_joins p0 l e0 (rmR (1, 0, 0, 23)) s0 m0 ar0 be0 me0 c0 A0 Q0 0 0 (0, [(0, zR (m 0)), (1, zI 22)], [], (rW m F1 B SS HH NR RV ++ qW m RD ST)) := by
    intro st
    induction st with
    | nil =>
      intro F1 RD hq hfr hR9
      obtain ⟨h46, hs, h47, hdp, h44, hT, hT2⟩ := hq
      have h46z : F1 46 = 0 := h46
      refine zg_blk pok2 X 2 [0] (S' := (4, [(0, zR (m 0)), (1, zI 22)], [zI (F1 46)], ((rW m F1 B SS HH NR RV) ++ (qW m RD ST)))) rfl ⟨rfl, trivial⟩ ?_
      refine zg_if X 73 rfl rfl (by first | (unfold zin; omega) | (rw [hst]; have h9 := cd_rng x; unfold zin; omega)) (fun g1 => ?_) (fun g1 => ?_)
      · simp only [x_cnd] at g1
        refine zg_retv X hR rfl rfl (by decide) (by decide) ?_
        exact ⟨rfl, F1, RD, rfl, by rw [← hR9]; exact ⟨h46, hs, h47, hdp, h44, hT, hT2⟩, hfr⟩
      · simp only [x_ncd] at g1
        exfalso
        omega
    | cons x st ih =>
      intro F1 RD hq hfr hR9
      obtain ⟨h46, hs, h47, hdp, h44, hT, hT2⟩ := hq
      have h46z : F1 46 = ((st.length : Nat) : Int) + 1 := by rw [h46]; simp
      have hst : ST (F1 46 - 1).toNat = cd x := by rw [show (F1 46 - 1).toNat = st.length by omega]; exact hs.1
      refine zg_blk pok2 X 2 [0] (S' := (4, [(0, zR (m 0)), (1, zI 22)], [zI (F1 46)], ((rW m F1 B SS HH NR RV) ++ (qW m RD ST)))) rfl ⟨rfl, trivial⟩ ?_
      refine zg_if X 73 rfl rfl (by first | (unfold zin; omega) | (rw [hst]; have h9 := cd_rng x; unfold zin; omega)) (fun g1 => ?_) (fun g1 => ?_)
      · simp only [x_cnd] at g1
        exfalso
        omega
      · simp only [x_ncd] at g1
        refine zg_blk pok2 X 8 [0, 0, 7] (S' := (20, [(0, zR (m 0)), (1, zI 22)], [zI 21, zI (ST (((F1 46) - 1).toNat))], ((rW m F1 B SS HH NR RV) ++ (qW m RD ST)))) rfl ⟨rfl, rfl, rfl, rfl, (show zidx ((F1 46) - 1) 45 from by unfold zidx; omega), trivial⟩ ?_
        refine zg_icmp X 45 rfl rfl (by first | (unfold zin; omega) | (rw [hst]; have h9 := cd_rng x; unfold zin; omega)) (by first | (unfold zin; omega) | (rw [hst]; have h9 := cd_rng x; unfold zin; omega)) (fun g2 => ?_) (fun g2 => ?_)
        · simp only [x_cnd] at g2
          refine zg_blk pok2 X 14 [0, 0, 0, 0, 7] (S' := (67, [(0, zR (m 0)), (1, zI 22)], [zI 0, zI 0, zI (ST (((F1 46) - 1).toNat)), zR (m 0)], ((rW m (zup F1 46 ((F1 46) - 1)) B SS HH NR RV) ++ (qW m RD ST)))) rfl ⟨rfl, rfl, rfl, rfl, rfl, rfl, rfl, rfl, (show zidx ((F1 46) - 1) 45 from by unfold zidx; omega), trivial⟩ ?_
          refine zg_callV pok2 EWX_ok X 0 (vas := [zI (ST (((F1 46) - 1).toNat)), zI 0, zI 0]) (vr := []) (Y1 := ((rW m (zup F1 46 ((F1 46) - 1)) B SS HH NR RV) ++ (qW m RD ST))) (Y2 := []) rfl rfl (Or.inl rfl) zj_X12_code rfl rfl rfl rfl (Nat.le_of_ble_eq_true rfl) rfl (zr_code (F := (zup F1 46 ((F1 46) - 1))) (show 0 ≤ (F1 44) ∧ (F1 44) ≤ 45 by omega)) ⟨by decide, by decide, by decide, by decide⟩ (fun z9 Y9 hz => ?_)
          obtain ⟨rfl, RDb, rfl⟩ := hz
          refine zg_cv (S2 := (70, [(0, zR (m 0)), (1, zI 22)], [], ((rW m (zup (zup F1 44 ((F1 44) + 1)) 46 ((F1 46) - 1)) B SS HH NR RV) ++ (qW m RDb ST)))) rfl ?_
          refine zg_blk pok2 X 1 [] (S' := (0, [(0, zR (m 0)), (1, zI 22)], [], ((rW m (zup (zup F1 44 ((F1 44) + 1)) 46 ((F1 46) - 1)) B SS HH NR RV) ++ (qW m RDb ST)))) rfl trivial ?_
          have hx0 : x = 1 := cd_1 (by rw [← hst]; exact g2)
          subst hx0
          have hdp9 : d = dp st + 1 := hdp
          have hh46 : F1 46 = ((st.length : Nat) : Int) + 1 := by omega
          exact ih (zup (zup F1 44 ((F1 44) + 1)) 46 ((F1 46) - 1)) RDb ⟨show F1 46 - 1 = _ by omega, hs.2, h47, by omega, by show 0 ≤ F1 44 + 1; omega, by show (F1 44 + 1) + (F1 46 - 1) = T; omega, hT2⟩ (fun q q1 q2 q3 => by simp only [zup_ne q1, zup_ne q2, zup_ne q3]; exact hfr q q1 q2 q3) hR9
        · simp only [x_ncd] at g2
          refine zg_blk pok2 X 8 [0, 0, 7] (S' := (36, [(0, zR (m 0)), (1, zI 22)], [zI 22, zI (ST (((F1 46) - 1).toNat))], ((rW m F1 B SS HH NR RV) ++ (qW m RD ST)))) rfl ⟨rfl, rfl, rfl, rfl, (show zidx ((F1 46) - 1) 45 from by unfold zidx; omega), trivial⟩ ?_
          refine zg_icmp X 73 rfl rfl (by first | (unfold zin; omega) | (rw [hst]; have h9 := cd_rng x; unfold zin; omega)) (by first | (unfold zin; omega) | (rw [hst]; have h9 := cd_rng x; unfold zin; omega)) (fun g3 => ?_) (fun g3 => ?_)
          · simp only [x_cnd] at g3
            refine zg_retv X hR rfl rfl (by decide) (by decide) ?_
            rw [sJoin2_ne (fun q => by subst q; exact g2 (by rw [hst]; rfl)) (fun q => by subst q; exact g3 (by rw [hst]; rfl))] at hR9
            exact ⟨rfl, F1, RD, rfl, by rw [← hR9]; exact ⟨h46, hs, h47, hdp, h44, hT, hT2⟩, hfr⟩
          · simp only [x_ncd] at g3
            refine zg_blk pok2 X 2 [] (S' := (42, [(0, zR (m 0)), (1, zI 22)], [zI 22, zI 22], ((rW m F1 B SS HH NR RV) ++ (qW m RD ST)))) rfl trivial ?_
            refine zg_icmp X 73 rfl rfl (by first | (unfold zin; omega) | (rw [hst]; have h9 := cd_rng x; unfold zin; omega)) (by first | (unfold zin; omega) | (rw [hst]; have h9 := cd_rng x; unfold zin; omega)) (fun g4 => ?_) (fun g4 => ?_)
            · exact absurd (show ¬ (22 : Int) = (22 : Int) from g4) (by decide)
            · simp only [x_ncd] at g4
              refine zg_blk pok2 X 14 [0, 0, 0, 0, 7] (S' := (67, [(0, zR (m 0)), (1, zI 22)], [zI 0, zI 0, zI (ST (((F1 46) - 1).toNat)), zR (m 0)], ((rW m (zup F1 46 ((F1 46) - 1)) B SS HH NR RV) ++ (qW m RD ST)))) rfl ⟨rfl, rfl, rfl, rfl, rfl, rfl, rfl, rfl, (show zidx ((F1 46) - 1) 45 from by unfold zidx; omega), trivial⟩ ?_
              refine zg_callV pok2 EWX_ok X 0 (vas := [zI (ST (((F1 46) - 1).toNat)), zI 0, zI 0]) (vr := []) (Y1 := ((rW m (zup F1 46 ((F1 46) - 1)) B SS HH NR RV) ++ (qW m RD ST))) (Y2 := []) rfl rfl (Or.inl rfl) zj_X12_code rfl rfl rfl rfl (Nat.le_of_ble_eq_true rfl) rfl (zr_code (F := (zup F1 46 ((F1 46) - 1))) (show 0 ≤ (F1 44) ∧ (F1 44) ≤ 45 by omega)) ⟨by decide, by decide, by decide, by decide⟩ (fun z9 Y9 hz => ?_)
              obtain ⟨rfl, RDc, rfl⟩ := hz
              refine zg_cv (S2 := (70, [(0, zR (m 0)), (1, zI 22)], [], ((rW m (zup (zup F1 44 ((F1 44) + 1)) 46 ((F1 46) - 1)) B SS HH NR RV) ++ (qW m RDc ST)))) rfl ?_
              refine zg_blk pok2 X 1 [] (S' := (0, [(0, zR (m 0)), (1, zI 22)], [], ((rW m (zup (zup F1 44 ((F1 44) + 1)) 46 ((F1 46) - 1)) B SS HH NR RV) ++ (qW m RDc ST)))) rfl trivial ?_
              have hx0 : x = 2 := cd_2 (by rw [← hst]; exact g3)
              subst hx0
              have hdp9 : d = dp st + 1 := hdp
              have hh46 : F1 46 = ((st.length : Nat) : Int) + 1 := by omega
              exact ih (zup (zup F1 44 ((F1 44) + 1)) 46 ((F1 46) - 1)) RDc ⟨show F1 46 - 1 = _ by omega, hs.2, h47, by omega, by show 0 ≤ F1 44 + 1; omega, by show (F1 44 + 1) + (F1 46 - 1) = T; omega, hT2⟩ (fun q q1 q2 q3 => by simp only [zup_ne q1, zup_ne q2, zup_ne q3]; exact hfr q q1 q2 q3) hR9
  exact loop st F RD hq (fun _ _ _ _ => rfl) hR0
set_option maxRecDepth 4000 in
theorem zj_X12_leafOf : PR2[148]? = some mt2_X12_leafOf := rfl
set_option maxRecDepth 4000 in
theorem zr_leafOf (hA : rAt P K S V F j) : ZMet (EWX xs) D cy l ex mt2_X12_leafOf (1, 0, 0, 22) (rW m F B SS HH NR RV) [zR (m 0)] (fun z Y => ((K j = 2 ∧ V j = 21) ∧ z = some (zI 0) ∧ Y = (rW m F B SS HH NR RV)) ∨ ((K j = 2 ∧ V j = 22) ∧ z = some (zI 1) ∧ Y = (rW m F B SS HH NR RV)) ∨ ((K j = 2 ∧ V j = 23) ∧ z = some (zI 2) ∧ Y = (rW m F B SS HH NR RV)) ∨ ((K j = 2 ∧ V j = 24) ∧ z = some (zI 3) ∧ Y = (rW m F B SS HH NR RV)) ∨ ((K j = 2 ∧ V j = 25) ∧ z = some (zI 4) ∧ Y = (rW m F B SS HH NR RV)) ∨ ((K j = 2 ∧ V j = 26) ∧ z = some (zI 5) ∧ Y = (rW m F B SS HH NR RV)) ∨ ((K j = 2 ∧ V j = 27) ∧ z = some (zI 6) ∧ Y = (rW m F B SS HH NR RV)) ∨ ((K j = 2 ∧ V j = 28) ∧ z = some (zI 7) ∧ Y = (rW m F B SS HH NR RV)) ∨ (¬ (K j = 2 ∧ 21 ≤ V j ∧ V j ≤ 28) ∧ z = some (zI (-1)) ∧ Y = (rW m F B SS HH NR RV))) := by
  obtain ⟨mok, tok, ow⟩ := pok2.1 _ _ zj_X12_leafOf
  refine met_ofz EWX_ok mok tok ow (Nat.le_of_ble_eq_true rfl) (fun r p0 e0 s0 m0 ar0 be0 me0 c0 A0 Q0 X hR => ?_)
  refine zg_blk pok2 X 2 [0] (S' := (4, [(0, zR (m 0))], [zL 27973166868030820, zR (m 0)], (rW m F B SS HH NR RV))) rfl trivial ?_
  refine zg_callV pok2 EWX_ok X 0 (vas := [zL 27973166868030820]) (vr := []) (Y1 := (rW m F B SS HH NR RV)) (Y2 := []) rfl rfl (Or.inl rfl) zj_X12_isWord rfl rfl rfl rfl (Nat.le_of_ble_eq_true rfl) rfl (zr_isWord (w := 21) (F := F) (j := j) (by omega) hA) ⟨by decide, by decide, by decide, by decide⟩ (fun z9 Y9 hz => ?_)
  rcases hz with ⟨hw21, rfl, rfl⟩ | ⟨hw21, rfl, rfl⟩
  · have hw21 : K j = 2 ∧ V j = 21 := hw21
    refine zg_if X 14 rfl rfl (by unfold zin; omega) (fun g1 => ?_) (fun g1 => ?_)
    · exact absurd (show (1 : Int) = (0 : Int) from g1) (by decide)
    · simp only [x_ncd] at g1
      refine zg_blk pok2 X 2 [] (S' := (115, [(0, zR (m 0))], [zI 0], (rW m F B SS HH NR RV))) rfl trivial ?_
      refine zg_reti X hR rfl rfl (by decide) (by decide) ?_
      exact Or.inl ⟨by omega, rfl, rfl⟩
  · have hw21 : ¬ (K j = 2 ∧ V j = 21) := hw21
    refine zg_if X 14 rfl rfl (by unfold zin; omega) (fun g2 => ?_) (fun g2 => ?_)
    · simp only [x_cnd] at g2
      refine zg_blk pok2 X 2 [0] (S' := (18, [(0, zR (m 0))], [zL 1819242085, zR (m 0)], (rW m F B SS HH NR RV))) rfl trivial ?_
      refine zg_callV pok2 EWX_ok X 0 (vas := [zL 1819242085]) (vr := []) (Y1 := (rW m F B SS HH NR RV)) (Y2 := []) rfl rfl (Or.inl rfl) zj_X12_isWord rfl rfl rfl rfl (Nat.le_of_ble_eq_true rfl) rfl (zr_isWord (w := 22) (F := F) (j := j) (by omega) hA) ⟨by decide, by decide, by decide, by decide⟩ (fun z9 Y9 hz => ?_)
      rcases hz with ⟨hw22, rfl, rfl⟩ | ⟨hw22, rfl, rfl⟩
      · have hw22 : K j = 2 ∧ V j = 22 := hw22
        refine zg_if X 28 rfl rfl (by unfold zin; omega) (fun g3 => ?_) (fun g3 => ?_)
        · exact absurd (show (1 : Int) = (0 : Int) from g3) (by decide)
        · simp only [x_ncd] at g3
          refine zg_blk pok2 X 2 [] (S' := (115, [(0, zR (m 0))], [zI 1], (rW m F B SS HH NR RV))) rfl trivial ?_
          refine zg_reti X hR rfl rfl (by decide) (by decide) ?_
          exact Or.inr (Or.inl ⟨by omega, rfl, rfl⟩)
      · have hw22 : ¬ (K j = 2 ∧ V j = 22) := hw22
        refine zg_if X 28 rfl rfl (by unfold zin; omega) (fun g4 => ?_) (fun g4 => ?_)
        · simp only [x_cnd] at g4
          refine zg_blk pok2 X 2 [0] (S' := (32, [(0, zR (m 0))], [zL 6840691, zR (m 0)], (rW m F B SS HH NR RV))) rfl trivial ?_
          refine zg_callV pok2 EWX_ok X 0 (vas := [zL 6840691]) (vr := []) (Y1 := (rW m F B SS HH NR RV)) (Y2 := []) rfl rfl (Or.inl rfl) zj_X12_isWord rfl rfl rfl rfl (Nat.le_of_ble_eq_true rfl) rfl (zr_isWord (w := 23) (F := F) (j := j) (by omega) hA) ⟨by decide, by decide, by decide, by decide⟩ (fun z9 Y9 hz => ?_)
          rcases hz with ⟨hw23, rfl, rfl⟩ | ⟨hw23, rfl, rfl⟩
          · have hw23 : K j = 2 ∧ V j = 23 := hw23
            refine zg_if X 42 rfl rfl (by unfold zin; omega) (fun g5 => ?_) (fun g5 => ?_)
            · exact absurd (show (1 : Int) = (0 : Int) from g5) (by decide)
            · simp only [x_ncd] at g5
              refine zg_blk pok2 X 2 [] (S' := (115, [(0, zR (m 0))], [zI 2], (rW m F B SS HH NR RV))) rfl trivial ?_
              refine zg_reti X hR rfl rfl (by decide) (by decide) ?_
              exact Or.inr (Or.inr (Or.inl ⟨by omega, rfl, rfl⟩))
          · have hw23 : ¬ (K j = 2 ∧ V j = 23) := hw23
            refine zg_if X 42 rfl rfl (by unfold zin; omega) (fun g6 => ?_) (fun g6 => ?_)
            · simp only [x_cnd] at g6
              refine zg_blk pok2 X 2 [0] (S' := (46, [(0, zR (m 0))], [zL 24948, zR (m 0)], (rW m F B SS HH NR RV))) rfl trivial ?_
              refine zg_callV pok2 EWX_ok X 0 (vas := [zL 24948]) (vr := []) (Y1 := (rW m F B SS HH NR RV)) (Y2 := []) rfl rfl (Or.inl rfl) zj_X12_isWord rfl rfl rfl rfl (Nat.le_of_ble_eq_true rfl) rfl (zr_isWord (w := 24) (F := F) (j := j) (by omega) hA) ⟨by decide, by decide, by decide, by decide⟩ (fun z9 Y9 hz => ?_)
              rcases hz with ⟨hw24, rfl, rfl⟩ | ⟨hw24, rfl, rfl⟩
              · have hw24 : K j = 2 ∧ V j = 24 := hw24
                refine zg_if X 56 rfl rfl (by unfold zin; omega) (fun g7 => ?_) (fun g7 => ?_)
                · exact absurd (show (1 : Int) = (0 : Int) from g7) (by decide)
                · simp only [x_ncd] at g7
                  refine zg_blk pok2 X 2 [] (S' := (115, [(0, zR (m 0))], [zI 3], (rW m F B SS HH NR RV))) rfl trivial ?_
                  refine zg_reti X hR rfl rfl (by decide) (by decide) ?_
                  exact Or.inr (Or.inr (Or.inr (Or.inl ⟨by omega, rfl, rfl⟩)))
              · have hw24 : ¬ (K j = 2 ∧ V j = 24) := hw24
                refine zg_if X 56 rfl rfl (by unfold zin; omega) (fun g8 => ?_) (fun g8 => ?_)
                · simp only [x_cnd] at g8
                  refine zg_blk pok2 X 2 [0] (S' := (60, [(0, zR (m 0))], [zL 2003399784, zR (m 0)], (rW m F B SS HH NR RV))) rfl trivial ?_
                  refine zg_callV pok2 EWX_ok X 0 (vas := [zL 2003399784]) (vr := []) (Y1 := (rW m F B SS HH NR RV)) (Y2 := []) rfl rfl (Or.inl rfl) zj_X12_isWord rfl rfl rfl rfl (Nat.le_of_ble_eq_true rfl) rfl (zr_isWord (w := 25) (F := F) (j := j) (by omega) hA) ⟨by decide, by decide, by decide, by decide⟩ (fun z9 Y9 hz => ?_)
                  rcases hz with ⟨hw25, rfl, rfl⟩ | ⟨hw25, rfl, rfl⟩
                  · have hw25 : K j = 2 ∧ V j = 25 := hw25
                    refine zg_if X 70 rfl rfl (by unfold zin; omega) (fun g9 => ?_) (fun g9 => ?_)
                    · exact absurd (show (1 : Int) = (0 : Int) from g9) (by decide)
                    · simp only [x_ncd] at g9
                      refine zg_blk pok2 X 2 [] (S' := (115, [(0, zR (m 0))], [zI 4], (rW m F B SS HH NR RV))) rfl trivial ?_
                      refine zg_reti X hR rfl rfl (by decide) (by decide) ?_
                      exact Or.inr (Or.inr (Or.inr (Or.inr (Or.inl ⟨by omega, rfl, rfl⟩))))
                  · have hw25 : ¬ (K j = 2 ∧ V j = 25) := hw25
                    refine zg_if X 70 rfl rfl (by unfold zin; omega) (fun g10 => ?_) (fun g10 => ?_)
                    · simp only [x_cnd] at g10
                      refine zg_blk pok2 X 2 [0] (S' := (74, [(0, zR (m 0))], [zL 469786323827, zR (m 0)], (rW m F B SS HH NR RV))) rfl trivial ?_
                      refine zg_callV pok2 EWX_ok X 0 (vas := [zL 469786323827]) (vr := []) (Y1 := (rW m F B SS HH NR RV)) (Y2 := []) rfl rfl (Or.inl rfl) zj_X12_isWord rfl rfl rfl rfl (Nat.le_of_ble_eq_true rfl) rfl (zr_isWord (w := 26) (F := F) (j := j) (by omega) hA) ⟨by decide, by decide, by decide, by decide⟩ (fun z9 Y9 hz => ?_)
                      rcases hz with ⟨hw26, rfl, rfl⟩ | ⟨hw26, rfl, rfl⟩
                      · have hw26 : K j = 2 ∧ V j = 26 := hw26
                        refine zg_if X 84 rfl rfl (by unfold zin; omega) (fun g11 => ?_) (fun g11 => ?_)
                        · exact absurd (show (1 : Int) = (0 : Int) from g11) (by decide)
                        · simp only [x_ncd] at g11
                          refine zg_blk pok2 X 2 [] (S' := (115, [(0, zR (m 0))], [zI 5], (rW m F B SS HH NR RV))) rfl trivial ?_
                          refine zg_reti X hR rfl rfl (by decide) (by decide) ?_
                          exact Or.inr (Or.inr (Or.inr (Or.inr (Or.inr (Or.inl ⟨by omega, rfl, rfl⟩)))))
                      · have hw26 : ¬ (K j = 2 ∧ V j = 26) := hw26
                        refine zg_if X 84 rfl rfl (by unfold zin; omega) (fun g12 => ?_) (fun g12 => ?_)
                        · simp only [x_cnd] at g12
                          refine zg_blk pok2 X 2 [0] (S' := (88, [(0, zR (m 0))], [zL 474080961892, zR (m 0)], (rW m F B SS HH NR RV))) rfl trivial ?_
                          refine zg_callV pok2 EWX_ok X 0 (vas := [zL 474080961892]) (vr := []) (Y1 := (rW m F B SS HH NR RV)) (Y2 := []) rfl rfl (Or.inl rfl) zj_X12_isWord rfl rfl rfl rfl (Nat.le_of_ble_eq_true rfl) rfl (zr_isWord (w := 27) (F := F) (j := j) (by omega) hA) ⟨by decide, by decide, by decide, by decide⟩ (fun z9 Y9 hz => ?_)
                          rcases hz with ⟨hw27, rfl, rfl⟩ | ⟨hw27, rfl, rfl⟩
                          · have hw27 : K j = 2 ∧ V j = 27 := hw27
                            refine zg_if X 99 rfl rfl (by unfold zin; omega) (fun g13 => ?_) (fun g13 => ?_)
                            · exact absurd (show (1 : Int) = (0 : Int) from g13) (by decide)
                            · simp only [x_ncd] at g13
                              refine zg_blk pok2 X 2 [] (S' := (115, [(0, zR (m 0))], [zI 6], (rW m F B SS HH NR RV))) rfl trivial ?_
                              refine zg_reti X hR rfl rfl (by decide) (by decide) ?_
                              exact Or.inr (Or.inr (Or.inr (Or.inr (Or.inr (Or.inr (Or.inl ⟨by omega, rfl, rfl⟩))))))
                          · have hw27 : ¬ (K j = 2 ∧ V j = 27) := hw27
                            refine zg_if X 99 rfl rfl (by unfold zin; omega) (fun g14 => ?_) (fun g14 => ?_)
                            · simp only [x_cnd] at g14
                              refine zg_blk pok2 X 2 [0] (S' := (103, [(0, zR (m 0))], [zL 121450625394034, zR (m 0)], (rW m F B SS HH NR RV))) rfl trivial ?_
                              refine zg_callV pok2 EWX_ok X 0 (vas := [zL 121450625394034]) (vr := []) (Y1 := (rW m F B SS HH NR RV)) (Y2 := []) rfl rfl (Or.inl rfl) zj_X12_isWord rfl rfl rfl rfl (Nat.le_of_ble_eq_true rfl) rfl (zr_isWord (w := 28) (F := F) (j := j) (by omega) hA) ⟨by decide, by decide, by decide, by decide⟩ (fun z9 Y9 hz => ?_)
                              rcases hz with ⟨hw28, rfl, rfl⟩ | ⟨hw28, rfl, rfl⟩
                              · have hw28 : K j = 2 ∧ V j = 28 := hw28
                                refine zg_if X 114 rfl rfl (by unfold zin; omega) (fun g15 => ?_) (fun g15 => ?_)
                                · exact absurd (show (1 : Int) = (0 : Int) from g15) (by decide)
                                · simp only [x_ncd] at g15
                                  refine zg_blk pok2 X 2 [] (S' := (115, [(0, zR (m 0))], [zI 7], (rW m F B SS HH NR RV))) rfl trivial ?_
                                  refine zg_reti X hR rfl rfl (by decide) (by decide) ?_
                                  exact Or.inr (Or.inr (Or.inr (Or.inr (Or.inr (Or.inr (Or.inr (Or.inl ⟨by omega, rfl, rfl⟩)))))))
                              · have hw28 : ¬ (K j = 2 ∧ V j = 28) := hw28
                                refine zg_if X 114 rfl rfl (by unfold zin; omega) (fun g16 => ?_) (fun g16 => ?_)
                                · simp only [x_cnd] at g16
                                  refine zg_blk pok2 X 1 [] (S' := (115, [(0, zR (m 0))], [zI (-1)], (rW m F B SS HH NR RV))) rfl trivial ?_
                                  refine zg_reti X hR rfl rfl (by decide) (by decide) ?_
                                  exact Or.inr (Or.inr (Or.inr (Or.inr (Or.inr (Or.inr (Or.inr (Or.inr (⟨by omega, rfl, rfl⟩))))))))
                                · exact absurd (show ¬ (0 : Int) = (0 : Int) from g16) (by decide)
                            · exact absurd (show ¬ (0 : Int) = (0 : Int) from g14) (by decide)
                        · exact absurd (show ¬ (0 : Int) = (0 : Int) from g12) (by decide)
                    · exact absurd (show ¬ (0 : Int) = (0 : Int) from g10) (by decide)
                · exact absurd (show ¬ (0 : Int) = (0 : Int) from g8) (by decide)
            · exact absurd (show ¬ (0 : Int) = (0 : Int) from g6) (by decide)
        · exact absurd (show ¬ (0 : Int) = (0 : Int) from g4) (by decide)
    · exact absurd (show ¬ (0 : Int) = (0 : Int) from g2) (by decide)
end RS9
