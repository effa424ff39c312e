/-! the reference: a whole city (written by wip/p4/g15.py) -/
def cn0 (q : Nat) : Int := ([0, 0, 0, 0, 3, 1, 2, 5] : List Int).getD q 0
def z0 (_ : Nat) : Int := 0
/-- what a text says: how many lines, or where it is wrong -/
def pAns (K S V : Nat → Int) : Int := if (aRun K V 1000 (0, 0, cn0, z0, z0, z0, 0) 0).1.1 = 0 then ((aRun K V 1000 (0, 0, cn0, z0, z0, z0, 0) 0).2 : Int) else -1 - S (aRun K V 1000 (0, 0, cn0, z0, z0, z0, 0) 0).1.2.1
theorem lkS_z0 {CN : Nat → Int} {s : Nat} {key : Int} (h : CN s = 0) : lkS CN z0 s key = -1 := by
  unfold lkS
  rw [h]
  rfl
theorem INV_0 : INV cn0 z0 0 := by
  refine ⟨by decide, by decide, by decide, by decide, fun k => ⟨by show (-9223372036854775808 : Int) ≤ 0; decide, by show (0 : Int) < 9223372036854775808; decide⟩, fun s t key hs ht h1 h2 => ?_, by decide, by decide⟩
  exact absurd (lkS_z0 (by rcases (show s = 0 ∨ s = 1 ∨ s = 2 ∨ s = 3 by omega) with rfl | rfl | rfl | rfl <;> rfl)) h1
theorem RR_0 {HH NR : Nat → Int} (h : ∀ q : Nat, q < 43 → HH q = cn0 q) (hN : ∀ q, zin64 (NR q)) : RR HH NR cn0 z0 z0 z0 := by
  have hz : ∀ q : Nat, 8 ≤ q → cn0 q = 0 := fun q hq => by
    unfold cn0
    rw [List.getD_eq_getElem?_getD, List.getElem?_eq_none (by show 8 ≤ q; exact hq)]
    rfl
  refine ⟨fun s hs => h s (by omega), fun i hi => ?_, fun i hi => ?_, fun s i hs hi => ?_, hN⟩
  · rw [h _ (by omega)]
    exact hz _ (by omega)
  · rw [h _ (by omega)]
    exact hz _ (by omega)
  · exfalso
    have : cn0 s = 0 := by rcases (show s = 0 ∨ s = 1 ∨ s = 2 ∨ s = 3 by omega) with rfl | rfl | rfl | rfl <;> rfl
    omega
section ZW8
variable {xs : Nat → Int32} {D : va_G} {cy : Nat → ClassId} {l : Launch} {ex : Nat → Nat} {m : Nat → Nat} {F B SS HH NR RV P K S V CN NM MK KN : Nat → Int} {Y0 : ZW} {j k : Nat} {x : Int}
set_option maxRecDepth 4000 in
theorem zj_X12_taken : PR2[196]? = some mt2_X12_taken := rfl
set_option maxRecDepth 4000 in
theorem zr_taken {z1 : Int} : ZMet (EWX xs) D cy l ex mt2_X12_taken (0, 0, 0, 0) (rW m F B SS HH NR RV) [zR (m 0), zI z1] (fun z Y => z = none ∧ Y = (rW m (zup (zup (zup (zup F 2 0) 3 (F 2)) 4 0) 5 z1) B SS HH NR RV)) := by
  obtain ⟨mok, tok, ow⟩ := pok2.1 _ _ zj_X12_taken
  refine met_ofz EWX_ok mok tok ow (Nat.le_of_ble_eq_true rfl) (fun r p0 e0 s0 m0 ar0 be0 me0 c0 A0 Q0 X hR => ?_)
  refine zg_blk pok2 X 13 [0, 0, 0, 0, 0] (S' := (23, [(0, zR (m 0)), (1, zI z1)], [], (rW m (zup (zup (zup (zup F 2 0) 3 (F 2)) 4 0) 5 z1) B SS HH NR RV))) rfl ⟨rfl, rfl, rfl, rfl, rfl, rfl, rfl, rfl, rfl, rfl, rfl, rfl, rfl, trivial⟩ ?_
  refine zg_retv X hR rfl rfl (by decide) (by decide) ?_
  exact ⟨rfl, rfl⟩
set_option maxRecDepth 4000 in
theorem zj_X12_clears : PR2[100]? = some mt2_X12_clears := rfl
set_option maxRecDepth 4000 in
theorem zr_clears  : ZMet (EWX xs) D cy l ex mt2_X12_clears (0, 0, 0, 0) (rW m F B SS HH NR RV) [zR (m 0)] (fun z Y => z = none ∧ ∃ HH9, Y = (rW m F B SS HH9 NR RV) ∧ ∀ q : Nat, q < 43 → HH9 q = cn0 q) := by
  obtain ⟨mok, tok, ow⟩ := pok2.1 _ _ zj_X12_clears
  refine met_ofz EWX_ok mok tok ow (Nat.le_of_ble_eq_true rfl) (fun r p0 e0 s0 m0 ar0 be0 me0 c0 A0 Q0 X hR => ?_)
  have loop : ∀ (t i : Nat) (HH : Nat → Int), i ≤ 43 → 43 - i < t → (∀ q : Nat, q < i → HH q = 0) → ZG D cy r mt2_X12_clears p0 l e0 (rmR (0, 0, 0, 0)) s0 m0 ar0 be0 me0 c0 A0 Q0 0 0 (2, [(0, zR (m 0)), (1, zI (i : Int))], [], (rW m F B SS HH NR RV)) := by
    intro t
    induction t with
    | zero => intro i HH h1 h2; omega
    | succ t ih =>
      intro i HH h1 h2 h4
      refine zg_blk pok2 X 2 [] (S' := (5, [(0, zR (m 0)), (1, zI (i : Int))], [zI 43, zI (i : Int)], (rW m F B SS HH NR RV))) rfl trivial ?_
      refine zg_icmp X 21 rfl rfl (by unfold zin; omega) (by unfold zin; omega) (fun g1 => ?_) (fun g1 => ?_)
      · simp only [x_cnd] at g1
        refine zg_blk pok2 X 20 [0, 3, 0, 3, 0, 3, 0, 3] (S' := (51, [(0, zR (m 0)), (1, zI (i : Int))], [], (rW m F B SS (zup (zup (zup (zup HH 4 3) 5 1) 6 2) 7 5) NR RV))) rfl ⟨rfl, rfl, rfl, (show zidx 4 43 from by unfold zidx; omega), rfl, rfl, rfl, (show zidx 5 43 from by unfold zidx; omega), rfl, rfl, rfl, (show zidx 6 43 from by unfold zidx; omega), rfl, rfl, rfl, (show zidx 7 43 from by unfold zidx; omega), trivial⟩ ?_
        refine zg_retv X hR rfl rfl (by decide) (by decide) ?_
        refine ⟨rfl, _, rfl, fun q hq => ?_⟩
        rcases (show q = 4 ∨ q = 5 ∨ q = 6 ∨ q = 7 ∨ q < 4 ∨ 8 ≤ q by omega) with rfl | rfl | rfl | rfl | h | h
        · rfl
        · rfl
        · rfl
        · rfl
        · rw [zup_ne (by omega), zup_ne (by omega), zup_ne (by omega), zup_ne (by omega), h4 q (by omega)]
          rcases (show q = 0 ∨ q = 1 ∨ q = 2 ∨ q = 3 by omega) with rfl | rfl | rfl | rfl <;> rfl
        · rw [zup_ne (by omega), zup_ne (by omega), zup_ne (by omega), zup_ne (by omega), h4 q (by omega)]
          unfold cn0
          rw [List.getD_eq_getElem?_getD, List.getElem?_eq_none (by show 8 ≤ q; exact h)]
          rfl
      · simp only [x_ncd] at g1
        refine zg_blk pok2 X 7 [0, 3] (S' := (2, [(1, zI ((i : Int) + 1)), (0, zR (m 0))], [], (rW m F B SS (zup HH ((i : Int).toNat) 0) NR RV))) rfl ⟨rfl, rfl, rfl, (show zidx (i : Int) 43 from by unfold zidx; omega), trivial⟩ ?_
        have ih9 := ih (i + 1) (zup HH ((i : Int).toNat) 0) (by omega) (by omega) (fun q hq => by
          rcases (show q < i ∨ q = i by omega) with h | rfl
          · rw [zup_ne (by omega)]
            exact h4 q h
          · rw [Int.toNat_natCast, zup_eq])
        rw [show (((i + 1 : Nat)) : Int) = (i : Int) + 1 by omega] at ih9
        refine zg_lv _ ?_ ih9
        intro q hq
        simp only [List.mem_cons, List.not_mem_nil, or_false] at hq ⊢
        rcases hq with rfl | rfl <;> simp
  refine zg_blk pok2 X 2 [] (S' := (2, [(1, zI 0), (0, zR (m 0))], [], (rW m F B SS HH NR RV))) rfl trivial ?_
  refine zg_lv _ ?_ (loop 1000 0 HH (by omega) (by omega) (fun q hq => by omega))
  intro q hq
  simp only [List.mem_cons, List.not_mem_nil, or_false] at hq ⊢
  rcases hq with rfl | rfl <;> simp
set_option maxRecDepth 4000 in
theorem zj_X12_city : PR2[99]? = some mt2_X12_city := rfl
set_option maxRecDepth 4000 in
theorem zr_city (hB : ∀ q, -128 ≤ B q ∧ B q ≤ 127) (hn : 0 ≤ F 2 ∧ F 2 ≤ 940) (hO : OpenT (tb B (F 2)) (F 2) 900 k P K S V) (hRV : ∀ q, q < 29 → RV q = RVc q) (hRZ : ∀ q, zin64 (RV q)) (hNZ : ∀ q, zin64 (NR q)) : ZMet (EWX xs) D cy l ex mt2_X12_city (6, 0, 0, 132) (rW m F B SS HH NR RV) [zR (m 0)] (fun z Y => z = some (zI (pAns K S V)) ∧ ∃ F9 SS9 HH9 NR9, Y = (rW m F9 B SS9 HH9 NR9 RV) ∧ (¬ (aRun K V 1000 (0, 0, cn0, z0, z0, z0, 0) 0).1.1 = 0 → F9 15 = (aRun K V 1000 (0, 0, cn0, z0, z0, z0, 0) 0).1.1) ∧ (((aRun K V 1000 (0, 0, cn0, z0, z0, z0, 0) 0).1.1 = 0 ∧ (∀ s, s < 8 → SS9 s = (aRun K V 1000 (0, 0, cn0, z0, z0, z0, 0) 0).1.2.2.1 s) ∧ ∀ s i : Nat, s < 4 → (i : Int) < (aRun K V 1000 (0, 0, cn0, z0, z0, z0, 0) 0).1.2.2.1 s → NR9 (bs s - 28 + i) = wd ((aRun K V 1000 (0, 0, cn0, z0, z0, z0, 0) 0).1.2.2.2.1 (s * 10 + i)) ∧ 0 ≤ (aRun K V 1000 (0, 0, cn0, z0, z0, z0, 0) 0).1.2.2.2.1 (s * 10 + i) ∧ (aRun K V 1000 (0, 0, cn0, z0, z0, z0, 0) 0).1.2.2.2.1 (s * 10 + i) < 34359738368) ∨ (¬ (aRun K V 1000 (0, 0, cn0, z0, z0, z0, 0) 0).1.1 = 0 ∧ SS9 = SS ∧ ∀ q : Nat, q < 28 → NR9 q = NR q))) := by
  obtain ⟨mok, tok, ow⟩ := pok2.1 _ _ zj_X12_city
  refine met_ofz EWX_ok mok tok ow (Nat.le_of_ble_eq_true rfl) (fun r p0 e0 s0 m0 ar0 be0 me0 c0 A0 Q0 X hR => ?_)
  have hk9 := hO.2.2.2.2.1
  obtain ⟨FZ, hF1, hF6⟩ : ∃ FZ : Nat → Int, FZ 1 = (k : Int) + 1 ∧ FZ 6 = 0 := ⟨fun q => if q = 1 then (k : Int) + 1 else 0, rfl, rfl⟩
  have hTT : TT FZ K S V := TT_of hn (by omega) hO hF6 hF1
  obtain ⟨pa, hpa⟩ : ∃ pa, pAns K S V = pa := ⟨_, rfl⟩
  obtain ⟨AX9, hA0⟩ : ∃ AX9, aRun K V 1000 (0, 0, cn0, z0, z0, z0, 0) 0 = AX9 := ⟨_, rfl⟩
  obtain ⟨N0, hN0⟩ : ∃ N0, N0 = NR := ⟨_, rfl⟩
  rw [hpa, hA0, ← hN0] at hR
  have copy9 : ∀ (F SS HH NR : Nat → Int), F 19 = pa → AX9.1.1 = 0 → (∀ s, s < 8 → HH s = AX9.1.2.2.1 s) → (∀ s i : Nat, s < 4 → (i : Int) < AX9.1.2.2.1 s → NR (bs s + i) = wd (AX9.1.2.2.2.1 (s * 10 + i)) ∧ 0 ≤ AX9.1.2.2.2.1 (s * 10 + i) ∧ AX9.1.2.2.2.1 (s * 10 + i) < 34359738368) → INV AX9.1.2.2.1 AX9.1.2.2.2.1 AX9.1.2.2.2.2.2.2 → ZG D cy r mt2_X12_city p0 l e0 (rmR (6, 0, 0, 132)) s0 m0 ar0 be0 me0 c0 A0 Q0 0 0 (78, [(0, zR (m 0))], [], (rW m F B SS HH NR RV)) := by
    intro F SS HH NR hlin hz9 hHH hNN hIX
    obtain ⟨T9, hT9⟩ : ∃ T9, T9 = NR := ⟨_, rfl⟩
    rw [← hT9] at hNN
    have cp1 : ∀ (t i : Nat) (SS NR : Nat → Int), (∀ s, s < 8 → SS s = AX9.1.2.2.1 s) → (∀ k : Nat, k < 28 → NR k = T9 (28 + k)) → i ≤ 6 → 6 - i < t → ZG D cy r mt2_X12_city p0 l e0 (rmR (6, 0, 0, 132)) s0 m0 ar0 be0 me0 c0 A0 Q0 0 0 (178, [(0, zR (m 0)), (1, zI (i : Int))], [], (rW m F B SS HH NR RV)) := by
      intro t
      induction t with
      | zero => intro i SS NR hS9 hN9 h1 h2; omega
      | succ t ih =>
        intro i SS NR hS9 hN9 h1 h2
        refine zg_blk pok2 X 2 [] (S' := (181, [(0, zR (m 0)), (1, zI (i : Int))], [zI 6, zI (i : Int)], (rW m F B SS HH NR RV))) rfl trivial ?_
        refine zg_icmp X 244 rfl rfl (by unfold zin; omega) (by unfold zin; omega) (fun g1 => ?_) (fun g1 => ?_)
        · simp only [x_cnd] at g1
          refine zg_blk pok2 X 5 [0, 0] (S' := (253, [(0, zR (m 0)), (1, zI (i : Int))], [zI (F 19)], (rW m (zup F 23 0) B SS HH NR RV))) rfl ⟨rfl, rfl, rfl, rfl, trivial⟩ ?_
          refine zg_reti X hR rfl rfl (by decide) (by decide) ?_
          exact ⟨by rw [hlin], _, _, _, _, rfl, fun h9 => absurd hz9 h9, Or.inl ⟨hz9, hS9, fun s i hs hi => by
            have h9 := hNN s i hs hi
            obtain ⟨v0, v1, v2, v3, -⟩ := hIX
            have hb : bs s - 28 + i < 28 ∧ 28 + (bs s - 28 + i) = bs s + i := by
              rcases (show s = 0 ∨ s = 1 ∨ s = 2 ∨ s = 3 by omega) with rfl | rfl | rfl | rfl
              · have e9 : bs 0 = 28 := by decide
                rw [e9]; omega
              · have e9 : bs 1 = 32 := by decide
                rw [e9]; omega
              · have e9 : bs 2 = 42 := by decide
                rw [e9]; omega
              · have e9 : bs 3 = 50 := by decide
                rw [e9]; omega
            rw [hN9 _ hb.1, hb.2]
            exact h9⟩⟩
        · simp only [x_ncd] at g1
          refine zg_blk pok2 X 38 [0, 0, 2, 2, 0, 0, 2, 2, 0, 0, 2, 2] (S' := (178, [(1, zI ((i : Int) + 1)), (0, zR (m 0))], [], (rW m F B (zup (zup (zup SS ((70 + (i : Int)).toNat) (SS ((24 + (i : Int)).toNat))) ((76 + (i : Int)).toNat) ((zup SS ((70 + (i : Int)).toNat) (SS ((24 + (i : Int)).toNat))) ((30 + (i : Int)).toNat))) ((82 + (i : Int)).toNat) ((zup (zup SS ((70 + (i : Int)).toNat) (SS ((24 + (i : Int)).toNat))) ((76 + (i : Int)).toNat) ((zup SS ((70 + (i : Int)).toNat) (SS ((24 + (i : Int)).toNat))) ((30 + (i : Int)).toNat))) ((37 + (i : Int)).toNat))) HH NR RV))) rfl ⟨rfl, rfl, rfl, rfl, (show zidx (24 + (i : Int)) 269 from by unfold zidx; omega), rfl, rfl, (show zidx (70 + (i : Int)) 269 from by unfold zidx; omega), rfl, rfl, rfl, rfl, (show zidx (30 + (i : Int)) 269 from by unfold zidx; omega), rfl, rfl, (show zidx (76 + (i : Int)) 269 from by unfold zidx; omega), rfl, rfl, rfl, rfl, (show zidx (37 + (i : Int)) 269 from by unfold zidx; omega), rfl, rfl, (show zidx (82 + (i : Int)) 269 from by unfold zidx; omega), trivial⟩ ?_
          have ih9 := ih (i + 1) (zup (zup (zup SS ((70 + (i : Int)).toNat) (SS ((24 + (i : Int)).toNat))) ((76 + (i : Int)).toNat) ((zup SS ((70 + (i : Int)).toNat) (SS ((24 + (i : Int)).toNat))) ((30 + (i : Int)).toNat))) ((82 + (i : Int)).toNat) ((zup (zup SS ((70 + (i : Int)).toNat) (SS ((24 + (i : Int)).toNat))) ((76 + (i : Int)).toNat) ((zup SS ((70 + (i : Int)).toNat) (SS ((24 + (i : Int)).toNat))) ((30 + (i : Int)).toNat))) ((37 + (i : Int)).toNat))) NR (fun s hs => by rw [zup_ne (by omega), zup_ne (by omega), zup_ne (by omega)]; exact hS9 s hs) hN9 (by omega) (by omega)
          rw [show (((i + 1 : Nat)) : Int) = (i : Int) + 1 by omega] at ih9
          refine zg_lv _ ?_ ih9
          intro q hq
          simp only [List.mem_cons, List.not_mem_nil, or_false] at hq ⊢
          rcases hq with rfl | rfl <;> simp
    have cp2 : ∀ (t i : Nat) (SS NR : Nat → Int), (∀ s, s < 8 → SS s = AX9.1.2.2.1 s) → (∀ k : Nat, k < 28 → NR k = T9 (28 + k)) → i ≤ 8 → 8 - i < t → ZG D cy r mt2_X12_city p0 l e0 (rmR (6, 0, 0, 132)) s0 m0 ar0 be0 me0 c0 A0 Q0 0 0 (146, [(0, zR (m 0)), (1, zI (i : Int))], [], (rW m F B SS HH NR RV)) := by
      intro t
      induction t with
      | zero => intro i SS NR hS9 hN9 h1 h2; omega
      | succ t ih =>
        intro i SS NR hS9 hN9 h1 h2
        refine zg_blk pok2 X 2 [] (S' := (149, [(0, zR (m 0)), (1, zI (i : Int))], [zI 8, zI (i : Int)], (rW m F B SS HH NR RV))) rfl trivial ?_
        refine zg_icmp X 176 rfl rfl (by unfold zin; omega) (by unfold zin; omega) (fun g1 => ?_) (fun g1 => ?_)
        · simp only [x_cnd] at g1
          refine zg_blk pok2 X 2 [] (S' := (178, [(1, zI 0), (0, zR (m 0))], [], (rW m F B SS HH NR RV))) rfl trivial ?_
          refine zg_lv _ ?_ (cp1 1000 0 SS NR hS9 hN9 (by omega) (by omega))
          intro q hq
          simp only [List.mem_cons, List.not_mem_nil, or_false] at hq ⊢
          rcases hq with rfl | rfl <;> simp
        · simp only [x_ncd] at g1
          refine zg_blk pok2 X 14 [0, 0, 2, 2] (S' := (146, [(1, zI ((i : Int) + 1)), (0, zR (m 0))], [], (rW m F B (zup SS ((46 + (i : Int)).toNat) (SS ((8 + (i : Int)).toNat))) HH NR RV))) rfl ⟨rfl, rfl, rfl, rfl, (show zidx (8 + (i : Int)) 269 from by unfold zidx; omega), rfl, rfl, (show zidx (46 + (i : Int)) 269 from by unfold zidx; omega), trivial⟩ ?_
          have ih9 := ih (i + 1) (zup SS ((46 + (i : Int)).toNat) (SS ((8 + (i : Int)).toNat))) NR (fun s hs => by rw [zup_ne (by omega)]; exact hS9 s hs) hN9 (by omega) (by omega)
          rw [show (((i + 1 : Nat)) : Int) = (i : Int) + 1 by omega] at ih9
          refine zg_lv _ ?_ ih9
          intro q hq
          simp only [List.mem_cons, List.not_mem_nil, or_false] at hq ⊢
          rcases hq with rfl | rfl <;> simp
    have cp3 : ∀ (t i : Nat) (SS NR : Nat → Int), (∀ s, s < 8 → SS s = AX9.1.2.2.1 s) → ((∀ k : Nat, k < i → NR k = T9 (28 + k)) ∧ ∀ k : Nat, 28 ≤ k → NR k = T9 k) → i ≤ 28 → 28 - i < t → ZG D cy r mt2_X12_city p0 l e0 (rmR (6, 0, 0, 132)) s0 m0 ar0 be0 me0 c0 A0 Q0 0 0 (117, [(0, zR (m 0)), (1, zI (i : Int))], [], (rW m F B SS HH NR RV)) := by
      intro t
      induction t with
      | zero => intro i SS NR hS9 hN9 h1 h2; omega
      | succ t ih =>
        intro i SS NR hS9 hN9 h1 h2
        refine zg_blk pok2 X 2 [] (S' := (120, [(0, zR (m 0)), (1, zI (i : Int))], [zI 28, zI (i : Int)], (rW m F B SS HH NR RV))) rfl trivial ?_
        refine zg_icmp X 144 rfl rfl (by unfold zin; omega) (by unfold zin; omega) (fun g1 => ?_) (fun g1 => ?_)
        · simp only [x_cnd] at g1
          refine zg_blk pok2 X 2 [] (S' := (146, [(1, zI 0), (0, zR (m 0))], [], (rW m F B SS HH NR RV))) rfl trivial ?_
          refine zg_lv _ ?_ (cp2 1000 0 SS NR hS9 (fun k hk => hN9.1 k (by omega)) (by omega) (by omega))
          intro q hq
          simp only [List.mem_cons, List.not_mem_nil, or_false] at hq ⊢
          rcases hq with rfl | rfl <;> simp
        · simp only [x_ncd] at g1
          refine zg_blk pok2 X 12 [0, 0, 4, 4] (S' := (117, [(1, zI ((i : Int) + 1)), (0, zR (m 0))], [], (rW m F B SS HH (zup NR ((i : Int).toNat) (NR ((28 + (i : Int)).toNat))) RV))) rfl ⟨rfl, rfl, rfl, (show zidx (28 + (i : Int)) 56 from by unfold zidx; omega), rfl, (show zidx (i : Int) 56 from by unfold zidx; omega), trivial⟩ ?_
          have ih9 := ih (i + 1) SS (zup NR ((i : Int).toNat) (NR ((28 + (i : Int)).toNat))) hS9 ⟨fun k hk => by
            by_cases e9 : k = i
            · subst e9
              rw [Int.toNat_natCast, zup_eq, hN9.2 _ (by omega)]
              exact congrArg T9 (by omega)
            · rw [zup_ne (by omega)]
              exact hN9.1 k (by omega), fun k hk => by
            rw [zup_ne (by omega)]
            exact hN9.2 k hk⟩ (by omega) (by omega)
          rw [show (((i + 1 : Nat)) : Int) = (i : Int) + 1 by omega] at ih9
          refine zg_lv _ ?_ ih9
          intro q hq
          simp only [List.mem_cons, List.not_mem_nil, or_false] at hq ⊢
          rcases hq with rfl | rfl <;> simp
    have cp4 : ∀ (t i : Nat) (SS NR : Nat → Int), (∀ s, s < 8 → s < i → SS s = AX9.1.2.2.1 s) → T9 = NR → i ≤ 269 → 269 - i < t → ZG D cy r mt2_X12_city p0 l e0 (rmR (6, 0, 0, 132)) s0 m0 ar0 be0 me0 c0 A0 Q0 0 0 (80, [(0, zR (m 0)), (1, zI (i : Int))], [], (rW m F B SS HH NR RV)) := by
      intro t
      induction t with
      | zero => intro i SS NR hS9 hN9 h1 h2; omega
      | succ t ih =>
        intro i SS NR hS9 hN9 h1 h2
        refine zg_blk pok2 X 2 [] (S' := (84, [(0, zR (m 0)), (1, zI (i : Int))], [zI 269, zI (i : Int)], (rW m F B SS HH NR RV))) rfl trivial ?_
        refine zg_icmp X 115 rfl rfl (by unfold zin; omega) (by unfold zin; omega) (fun g1 => ?_) (fun g1 => ?_)
        · simp only [x_cnd] at g1
          refine zg_blk pok2 X 2 [] (S' := (117, [(1, zI 0), (0, zR (m 0))], [], (rW m F B SS HH NR RV))) rfl trivial ?_
          refine zg_lv _ ?_ (cp3 1000 0 SS NR (fun s hs => hS9 s hs (by omega)) ⟨fun k hk => by omega, fun k _ => by rw [hN9]⟩ (by omega) (by omega))
          intro q hq
          simp only [List.mem_cons, List.not_mem_nil, or_false] at hq ⊢
          rcases hq with rfl | rfl <;> simp
        · simp only [x_ncd] at g1
          refine zg_blk pok2 X 5 [0] (S' := (95, [(0, zR (m 0)), (1, zI (i : Int))], [zI 43, zI (i : Int), zI (i : Int), zR (m 6)], (rW m F B SS HH NR RV))) rfl ⟨rfl, trivial⟩ ?_
          refine zg_icmp X 107 rfl rfl (by unfold zin; omega) (by unfold zin; omega) (fun g2 => ?_) (fun g2 => ?_)
          · simp only [x_cnd] at g2
            refine zg_blk pok2 X 4 [2] (S' := (80, [(1, zI ((i : Int) + 1)), (0, zR (m 0))], [], (rW m F B (zup SS ((i : Int).toNat) 0) HH NR RV))) rfl ⟨rfl, rfl, (show zidx (i : Int) 269 from by unfold zidx; omega), trivial⟩ ?_
            have ih9 := ih (i + 1) (zup SS ((i : Int).toNat) 0) NR (fun s hs h9 => by rw [zup_ne (by omega)]; exact hS9 s hs (by omega)) hN9 (by omega) (by omega)
            rw [show (((i + 1 : Nat)) : Int) = (i : Int) + 1 by omega] at ih9
            refine zg_lv _ ?_ ih9
            intro q hq
            simp only [List.mem_cons, List.not_mem_nil, or_false] at hq ⊢
            rcases hq with rfl | rfl <;> simp
          · simp only [x_ncd] at g2
            refine zg_blk pok2 X 8 [0, 3, 2] (S' := (80, [(1, zI ((i : Int) + 1)), (0, zR (m 0))], [], (rW m F B (zup SS ((i : Int).toNat) (HH ((i : Int).toNat))) HH NR RV))) rfl ⟨rfl, rfl, rfl, (show zidx (i : Int) 43 from by unfold zidx; omega), rfl, rfl, (show zidx (i : Int) 269 from by unfold zidx; omega), trivial⟩ ?_
            have ih9 := ih (i + 1) (zup SS ((i : Int).toNat) (HH ((i : Int).toNat))) NR (fun s hs h9 => by
              by_cases e9 : s = i
              · subst e9
                rw [Int.toNat_natCast, zup_eq]
                exact hHH s hs
              · rw [zup_ne (by omega)]
                exact hS9 s hs (by omega)) hN9 (by omega) (by omega)
            rw [show (((i + 1 : Nat)) : Int) = (i : Int) + 1 by omega] at ih9
            refine zg_lv _ ?_ ih9
            intro q hq
            simp only [List.mem_cons, List.not_mem_nil, or_false] at hq ⊢
            rcases hq with rfl | rfl <;> simp
    refine zg_blk pok2 X 2 [] (S' := (80, [(1, zI 0), (0, zR (m 0))], [], (rW m F B SS HH NR RV))) rfl trivial ?_
    refine zg_lv _ ?_ (cp4 1000 0 SS NR (fun s _ h9 => by omega) hT9 (by omega) (by omega))
    intro q hq
    simp only [List.mem_cons, List.not_mem_nil, or_false] at hq ⊢
    rcases hq with rfl | rfl <;> simp
  have loop : ∀ (t n j : Nat) (F HH NR CN NM MK KN : Nat → Int) (x : Int), RH B P K S V RV k F → rAt P K S V F j → j ≤ k → (∀ q : Nat, q < 28 → NR q = N0 q) → RR HH NR CN NM MK KN → INV CN NM x → F 20 = x → F 19 = (n : Int) → 941 - (j : Int) < (t : Int) → AX9 = aRun K V t (0, j, CN, NM, MK, KN, x) n → ZG D cy r mt2_X12_city p0 l e0 (rmR (6, 0, 0, 132)) s0 m0 ar0 be0 me0 c0 A0 Q0 0 0 (35, [(0, zR (m 0))], [], (rW m F B SS HH NR RV)) := by
    intro t
    induction t with
    | zero =>
      intro n j F HH NR CN NM MK KN x hH hA hj hn0 hRR hI hx hlin ht
      have h9 := hk9
      omega
    | succ t ih =>
      intro n j F HH NR CN NM MK KN x hH hA hj hn0 hRR hI hx hlin ht hrun
      refine zg_blk pok2 X 2 [0] (S' := (39, [(0, zR (m 0))], [zI (F 11)], (rW m F B SS HH NR RV))) rfl ⟨rfl, trivial⟩ ?_
      refine zg_if X 78 rfl rfl (by have h9 := hA.2.1.t11; unfold zin; omega) (fun g1 => ?_) (fun g1 => ?_)
      · simp only [x_cnd] at g1
        have hst := hA.2.1.stop
        have e9 : F 19 = pa := by
          rw [← hpa]
          unfold pAns
          rw [aRun_succ, if_pos (hA.2.1.stop.mp (by omega))] at hrun
          rw [hA0, hrun, if_pos rfl]
          exact hlin
        rw [aRun_succ, if_pos (hA.2.1.stop.mp (by omega))] at hrun
        exact copy9 F SS HH NR e9 (by rw [hrun]) (fun s hs => by rw [hrun]; exact hRR.1 s hs) (fun s i hs hi => by rw [hrun] at hi ⊢; exact hRR.2.2.2.1 s i hs hi) (by rw [hrun]; exact hI)
      · simp only [x_ncd] at g1
        have hst := hA.2.1.stop
        refine zg_blk pok2 X 1 [] (S' := (43, [(0, zR (m 0))], [zR (m 0)], (rW m F B SS HH NR RV))) rfl trivial ?_
        refine zg_callV pok2 EWX_ok X 0 (vas := []) (vr := []) (Y1 := (rW m F B SS HH NR RV)) (Y2 := []) rfl rfl (Or.inl rfl) zj_X12_line rfl rfl rfl rfl (Nat.le_of_ble_eq_true rfl) rfl (zr_line hH hA hj hRR hI hRZ hx) ⟨by decide, by decide, by decide, by decide⟩ (fun z9 Y9 hz => ?_)
        obtain ⟨R, hR9⟩ : ∃ R, aLine K V CN NM MK KN x j = R := ⟨_, rfl⟩
        rw [hR9] at hz
        rw [aRun_succ, if_neg (by omega), hR9] at hrun
        rcases hz with ⟨F9, HH9, NR9, rfl, ⟨e1, rfl, hok⟩ | ⟨e1, rfl, hb1, hb2⟩, hn9⟩
        · rw [if_pos e1] at hrun
          obtain ⟨hAr, hjr, hRRr, hxr, hr3, hr5, hr19⟩ := hok
          have hv9 := inv_lineR hTT (by rw [hF1]; omega) hI hR9 e1
          have hHr : RH B P K S V RV k F9 := RH.fr2 hH hr3 hr5
          refine zg_if X 58 rfl rfl (by have h9 := hA.2.1.t11; unfold zin; omega) (fun g2 => ?_) (fun g2 => ?_)
          · exact absurd (show (1 : Int) = (0 : Int) from g2) (by decide)
          · simp only [x_ncd] at g2
            refine zg_blk pok2 X 2 [] (S' := (52, [(0, zR (m 0))], [zI 59, zR (m 0)], (rW m F9 B SS HH9 NR9 RV))) rfl trivial ?_
            refine zg_callV pok2 EWX_ok X 0 (vas := [zI 59]) (vr := []) (Y1 := (rW m F9 B SS HH9 NR9 RV)) (Y2 := []) rfl rfl (Or.inl rfl) zj_X12_sign rfl rfl rfl rfl (Nat.le_of_ble_eq_true rfl) rfl (zr_sign (z1 := 59) (j := R.2.1) (F := F9) (by omega) hHr hAr hjr) ⟨by decide, by decide, by decide, by decide⟩ (fun z9 Y9 hz => ?_)
            rcases hz with ⟨hs9, rfl, F8, rfl, hA8, hj8, hf8⟩ | ⟨hs9, rfl, F8, rfl, hb1, hb2⟩
            · rw [if_pos hs9] at hrun
              refine zg_if X 65 rfl rfl (by have h9 := hA.2.1.t11; unfold zin; omega) (fun g3 => ?_) (fun g3 => ?_)
              · simp only [x_cnd] at g3
                refine zg_blk pok2 X 7 [0, 0] (S' := (35, [(0, zR (m 0))], [], (rW m (zup F8 19 ((F8 19) + 1)) B SS HH9 NR9 RV))) rfl ⟨rfl, rfl, rfl, rfl, trivial⟩ ?_
                have ih9 := ih (n + 1) (R.2.1 + 1) (zup F8 19 ((F8 19) + 1)) HH9 NR9 _ _ _ _ _ (RH.fr2 hHr hf8.1 hf8.2.1) hA8 hj8 (fun q hq => (hn9 q hq).trans (hn0 q hq)) hRRr hv9.1 (hf8.2.2.2.trans hxr) (show F8 19 + 1 = ((n + 1 : Nat) : Int) by rw [hf8.2.2.1, hr19, hlin]; omega) (by omega) hrun
                exact ih9
              · exact absurd (show (1 : Int) = (0 : Int) from g3) (by decide)
            · rw [if_neg hs9] at hrun
              refine zg_if X 65 rfl rfl (by have h9 := hA.2.1.t11; unfold zin; omega) (fun g4 => ?_) (fun g4 => ?_)
              · exact absurd (show ¬ (0 : Int) = (0 : Int) from g4) (by decide)
              · simp only [x_ncd] at g4
                refine zg_blk pok2 X 4 [0] (S' := (64, [(0, zR (m 0))], [zI ((-1) - (F8 16))], (rW m F8 B SS HH9 NR9 RV))) rfl ⟨rfl, trivial⟩ ?_
                refine zg_reti X hR rfl rfl (by decide) (by decide) ?_
                refine ⟨?_, _, _, _, _, rfl, fun _ => by rw [hrun]; exact hb1, Or.inr ⟨by rw [hrun]; exact bad_ne (by decide), rfl, fun q hq => (hn9 q hq).trans (hn0 q hq)⟩⟩
                have e9 : pa = -1 - F8 16 := by
                  rw [← hpa]
                  unfold pAns
                  rw [hA0, hrun]
                  first
                  | (rw [if_neg (show ¬ (bad 1 R.2.1).1 = 0 from bad_ne (by decide)), hb2]; rfl)
                  | (rw [if_neg e1, hb2])
                rw [e9]
        · rw [if_neg e1] at hrun
          refine zg_if X 58 rfl rfl (by have h9 := hA.2.1.t11; unfold zin; omega) (fun g5 => ?_) (fun g5 => ?_)
          · simp only [x_cnd] at g5
            refine zg_blk pok2 X 4 [0] (S' := (64, [(0, zR (m 0))], [zI ((-1) - (F9 16))], (rW m F9 B SS HH9 NR9 RV))) rfl ⟨rfl, trivial⟩ ?_
            refine zg_reti X hR rfl rfl (by decide) (by decide) ?_
            refine ⟨?_, _, _, _, _, rfl, fun _ => by rw [hrun]; exact hb1, Or.inr ⟨by rw [hrun]; exact e1, rfl, fun q hq => (hn9 q hq).trans (hn0 q hq)⟩⟩
            have e9 : pa = -1 - F9 16 := by
              rw [← hpa]
              unfold pAns
              rw [hA0, hrun]
              first
              | (rw [if_neg (show ¬ (bad 1 R.2.1).1 = 0 from bad_ne (by decide)), hb2]; rfl)
              | (rw [if_neg e1, hb2])
            rw [e9]
          · exact absurd (show ¬ (0 : Int) = (0 : Int) from g5) (by decide)
  refine zg_blk pok2 X 5 [0] (S' := (9, [(0, zR (m 0))], [zI 900, zR (m 0)], (rW m (zup F 0 0) B SS HH NR RV))) rfl ⟨rfl, rfl, rfl, trivial⟩ ?_
  refine zg_callV pok2 EWX_ok X 0 (vas := [zI 900]) (vr := []) (Y1 := (rW m (zup F 0 0) B SS HH NR RV)) (Y2 := []) rfl rfl (Or.inl rfl) zj_X12_taken rfl rfl rfl rfl (Nat.le_of_ble_eq_true rfl) rfl (zr_taken (z1 := 900)) ⟨by decide, by decide, by decide, by decide⟩ (fun z9 Y9 hz => ?_)
  obtain ⟨rfl, rfl⟩ := hz
  refine zg_cv (S2 := (12, [(0, zR (m 0))], [], (rW m (zup (zup (zup (zup (zup F 0 0) 2 0) 3 (F 2)) 4 0) 5 900) B SS HH NR RV))) rfl ?_
  refine zg_blk pok2 X 10 [0, 0, 0] (S' := (28, [(0, zR (m 0))], [zR (m 0)], (rW m (zup (zup (zup (zup (zup (zup (zup (zup F 0 0) 2 0) 3 (F 2)) 4 0) 5 900) 15 0) 19 0) 20 0) B SS HH NR RV))) rfl ⟨rfl, rfl, rfl, rfl, rfl, rfl, rfl, rfl, rfl, trivial⟩ ?_
  refine zg_callV pok2 EWX_ok X 0 (vas := []) (vr := []) (Y1 := (rW m (zup (zup (zup (zup (zup (zup (zup (zup F 0 0) 2 0) 3 (F 2)) 4 0) 5 900) 15 0) 19 0) 20 0) B SS HH NR RV)) (Y2 := []) rfl rfl (Or.inl rfl) zj_X12_clears rfl rfl rfl rfl (Nat.le_of_ble_eq_true rfl) rfl (zr_clears) ⟨by decide, by decide, by decide, by decide⟩ (fun z9 Y9 hz => ?_)
  obtain ⟨rfl, HH9, rfl, hh9⟩ := hz
  refine zg_blk pok2 X 1 [] (S' := (32, [(0, zR (m 0))], [zR (m 0)], (rW m (zup (zup (zup (zup (zup (zup (zup (zup F 0 0) 2 0) 3 (F 2)) 4 0) 5 900) 15 0) 19 0) 20 0) B SS HH9 NR RV))) rfl trivial ?_
  refine zg_callV pok2 EWX_ok X 0 (vas := []) (vr := []) (Y1 := (rW m (zup (zup (zup (zup (zup (zup (zup (zup F 0 0) 2 0) 3 (F 2)) 4 0) 5 900) 15 0) 19 0) 20 0) B SS HH9 NR RV)) (Y2 := []) rfl rfl (Or.inl rfl) zj_X12_next rfl rfl rfl rfl (Nat.le_of_ble_eq_true rfl) rfl (zr_next (F := (zup (zup (zup (zup (zup (zup (zup (zup F 0 0) 2 0) 3 (F 2)) 4 0) 5 900) 15 0) 19 0) 20 0)) hB (show 0 ≤ F 2 ∧ F 2 ≤ 940 from hn) (show 0 ≤ (0 : Int) ∧ (0 : Int) ≤ F 2 by omega) (show 0 ≤ (900 : Int) ∧ (900 : Int) ≤ 1000 by omega)) ⟨by decide, by decide, by decide, by decide⟩ (fun z9 Y9 hz => ?_)
  obtain ⟨rfl, F8, rfl, hrt, hfrt⟩ := hz
  have hA8 : rAt P K S V F8 0 := tok_match (F := F8) (by rw [hO.1]; omega) (by rw [hO.1]; omega) (hO.2.1 0 (Nat.zero_le _)) (by rw [hO.1]; exact hrt)
  have hf8 := hfrt.fr4
  exact loop 1000 0 0 F8 HH9 NR cn0 z0 z0 z0 0 ⟨hB, by rw [hf8.1]; exact hn, by rw [hf8.2.1]; exact ⟨by show (0 : Int) ≤ 900; decide, by show (900 : Int) ≤ 940; decide⟩, by rw [hf8.1, hf8.2.1]; exact hO, hRV⟩ hA8 (Nat.zero_le _) (fun q _ => by rw [hN0]) (RR_0 hh9 hNZ) INV_0 (hf8.2.2.2.trans rfl) (hf8.2.2.1.trans rfl) (by omega) hA0.symm
end ZW8
