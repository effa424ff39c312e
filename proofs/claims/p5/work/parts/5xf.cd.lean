/-! the class's sentence: the descent (written by wip/p39/c2.py) -/
section CD9
variable {xs : Nat → Int32} {D : va_G} {cy : Nat → ClassId} {l : Launch} {ex : Nat → Nat} {a c e : Nat → Nat} {F B K S V G CN NM MK TP PP CO KN : Nat → Int} {d f lo f2 lo2 : Nat} {x : Int}
theorem sP_all {K V CN NM : Nat → Int} {t d i o : Nat} : sP K V CN NM (t + 1) 3 d i o = (if (sP K V CN NM t 0 d i o).1 = 0 then sP K V CN NM t 1 d (sP K V CN NM t 0 d i o).2.1 (sP K V CN NM t 0 d i o).2.2 else ((sP K V CN NM t 0 d i o).1, (sP K V CN NM t 0 d i o).2.1, 0)) := rfl
theorem sP_cond {K V CN NM : Nat → Int} {t d i o : Nat} : sP K V CN NM (t + 1) 4 d i o = (if (sP K V CN NM t 3 d i o).1 = 0 then sP K V CN NM t 2 d (sP K V CN NM t 3 d i o).2.1 (sP K V CN NM t 3 d i o).2.2 else ((sP K V CN NM t 3 d i o).1, (sP K V CN NM t 3 d i o).2.1, 0)) := rfl
theorem sP_and {K V CN NM : Nat → Int} {t d i o : Nat} : sP K V CN NM (t + 1) 1 d i o = (if sW K V i 19 then (if (sP K V CN NM t 0 d (i + 1) o).1 = 0 then sP K V CN NM t 1 d (sP K V CN NM t 0 d (i + 1) o).2.1 (sP K V CN NM t 0 d (i + 1) o).2.2 else ((sP K V CN NM t 0 d (i + 1) o).1, (sP K V CN NM t 0 d (i + 1) o).2.1, 0)) else (0, i, o)) := rfl
theorem sP_or {K V CN NM : Nat → Int} {t d i o : Nat} : sP K V CN NM (t + 1) 2 d i o = (if sW K V i 18 then (if (sP K V CN NM t 3 d (i + 1) o).1 = 0 then sP K V CN NM t 2 d (sP K V CN NM t 3 d (i + 1) o).2.1 (sP K V CN NM t 3 d (i + 1) o).2.2 else ((sP K V CN NM t 3 d (i + 1) o).1, (sP K V CN NM t 3 d (i + 1) o).2.1, 0)) else (0, i, o)) := rfl
theorem sP_one {K V CN NM : Nat → Int} {t d i o : Nat} : sP K V CN NM (t + 1) 0 d i o = (if ¬ K i = 40 ∧ ¬ (K i = 2 ∧ 20 ≤ V i ∧ V i ≤ 28) then (1, i, 0) else if 20 ≤ o ∨ 8 < d then (4, i, 0)
    else if K i = 40 then (if (sP K V CN NM t 4 (d + 1) (i + 1) (o + 1)).1 = 0 then (if K (sP K V CN NM t 4 (d + 1) (i + 1) (o + 1)).2.1 = 41 then (0, (sP K V CN NM t 4 (d + 1) (i + 1) (o + 1)).2.1 + 1, (sP K V CN NM t 4 (d + 1) (i + 1) (o + 1)).2.2) else (1, (sP K V CN NM t 4 (d + 1) (i + 1) (o + 1)).2.1, 0)) else ((sP K V CN NM t 4 (d + 1) (i + 1) (o + 1)).1, (sP K V CN NM t 4 (d + 1) (i + 1) (o + 1)).2.1, 0))
    else if V i = 20 then sP K V CN NM t 0 (d + 1) (i + 1) (o + 1)
    else (if (sLeaf K V CN NM i).1 = 0 then (0, (sLeaf K V CN NM i).2, o + 1) else ((sLeaf K V CN NM i).1, (sLeaf K V CN NM i).2, 0))) := rfl
set_option maxRecDepth 4000 in
theorem zj_X8_readOne : PR2[281]? = some mt2_X8_readOne := rfl
set_option maxRecDepth 4000 in
theorem zj_X8_readAll : PR2[279]? = some mt2_X8_readAll := rfl
set_option maxRecDepth 4000 in
theorem zj_X8_readCondition : PR2[280]? = some mt2_X8_readCondition := rfl
set_option maxHeartbeats 16000000 in
set_option maxRecDepth 4000 in
theorem zm_readAll (hT : TT F K S V) (hI : INV CN NM x) (hro : RXP xs D cy l ex a c e F B K S V G CN NM MK TP PP CO KN mt2_X8_readOne 0 d f lo) : RXP xs D cy l ex a c e F B K S V G CN NM MK TP PP CO KN mt2_X8_readAll 3 d (f + 1) (lo + 25) := by
  intro idx o E E1 E2 E3 E4 hi hEo ho hE4
  obtain ⟨mok, tok, ow⟩ := pok2.1 _ _ zj_X8_readAll
  refine met_ofz EWX_ok mok tok ow (Nat.le_of_ble_eq_true rfl) (fun r p0 e0 s0 m0 ar0 be0 me0 c0 A0 Q0 X hR => ?_)
  have hI9 := hI
  have hE5 : 0 ≤ E 5 ∧ E 5 ≤ 20 := by omega
  obtain ⟨hF6, hF1a, hF1b, hTs, hTk⟩ := hT
  have t0 := hTk idx hi
  have hCN := hI.cn
  obtain ⟨hc0, hc1, hc2, hc3, hNM, hU, hx0, hx1⟩ := hI
  have fin9 : ∀ (F1 E E1 E2 E3 E4 : Nat → Int) (m9 : Int) (R : SR) (t0 : Nat), -1 ≤ m9 ∧ m9 < 1000 → (∀ T, sP K V CN NM (T + t0) 3 d idx o = R) → ¬ R.1 = 99 → ¬ R.1 = 0 → fd F1 R.1 (S R.2.1) → 0 ≤ E 5 ∧ E 5 ≤ 20 → 0 ≤ E 4 ∧ E 4 ≤ 40 → ZG D cy r mt2_X8_readAll p0 l e0 (rmR ((f + 1), 0, 0, (lo + 25))) s0 m0 ar0 be0 me0 c0 A0 Q0 0 0 (10, [(0, zR (e 0)), (1, zR (a 2)), (2, zR (c 0)), (3, zI (d : Int)), (4, zI m9)], [], (tW a F1 B K S V ++ cW c G CN NM MK TP PP CO KN ++ eW e E E1 E2 E3 E4)) := by
    intro F1 E E1 E2 E3 E4 m9 R t0 hm9 hs hn99 hne hfd hE5 hE4
    refine zg_blk pok2 X 2 [] (S' := (14, [(0, zR (e 0)), (1, zR (a 2)), (2, zR (c 0)), (3, zI (d : Int)), (4, zI m9)], [zI 20, zI m9], ((tW a F1 B K S V) ++ (cW c G CN NM MK TP PP CO KN) ++ (eW e E E1 E2 E3 E4)))) rfl trivial ?_
    refine zg_icmp X 51 rfl rfl (by unfold zin; omega) (by unfold zin; omega) (fun g1 => ?_) (fun g1 => ?_)
    · simp only [x_cnd] at g1
      refine zg_retv X hR rfl rfl (Nat.zero_le _) (Nat.zero_le _) ?_
      exact ⟨rfl, R, t0, _, _, _, _, _, _, hs, hn99, Or.inr ⟨hne, hfd⟩, hE5, hE4, rfl⟩
    · simp only [x_ncd] at g1
      refine zg_blk pok2 X 2 [] (S' := (20, [(0, zR (e 0)), (1, zR (a 2)), (2, zR (c 0)), (3, zI (d : Int)), (4, zI m9)], [zI 19, zR (a 2)], ((tW a F1 B K S V) ++ (cW c G CN NM MK TP PP CO KN) ++ (eW e E E1 E2 E3 E4)))) rfl trivial ?_
      refine zg_callV pok2 EWX_ok X 2 (vas := [zI 19]) (vr := []) (Y1 := (tW a F1 B K S V)) (Y2 := ((cW c G CN NM MK TP PP CO KN) ++ (eW e E E1 E2 E3 E4))) rfl rfl (Or.inl rfl) zj_X10_isWord rfl rfl rfl rfl (Nat.le_of_ble_eq_true rfl) rfl (zm_isWordX hfd) ⟨by show 0 + 1 ≤ (f + 1); omega, by show 8 + (2 + 11) + 0 ≤ (lo + 25); omega, by show 0 + 0 ≤ 0; omega, by show 0 + 0 ≤ 0; omega⟩ (fun z9 Y9 hz => ?_)
      obtain ⟨rfl, rfl⟩ := hz
      refine zg_if X 51 rfl rfl (by unfold zin; omega) (fun g2 => ?_) (fun g2 => ?_)
      · simp only [x_cnd] at g2
        refine zg_retv X hR rfl rfl (Nat.zero_le _) (Nat.zero_le _) ?_
        exact ⟨rfl, R, t0, _, _, _, _, _, _, hs, hn99, Or.inr ⟨hne, hfd⟩, hE5, hE4, rfl⟩
      · exact absurd (show ¬ (0 : Int) = (0 : Int) from g2) (by decide)
  have loop : ∀ (q i j o2 : Nat) (E E1 E2 E3 E4 : Nat → Int), (j : Int) < F 1 → E 5 = (o2 : Int) → o2 ≤ 20 → i + 1 ≤ o2 → o < o2 → 0 ≤ E 4 ∧ E 4 ≤ 40 → 20 - i < q → (∀ (R9 : SR) (t9 : Nat), (∀ T, sP K V CN NM (T + t9) 1 d j o2 = R9) → ∃ t0, ∀ T, sP K V CN NM (T + t0) 3 d idx o = R9) → ZG D cy r mt2_X8_readAll p0 l e0 (rmR ((f + 1), 0, 0, (lo + 25))) s0 m0 ar0 be0 me0 c0 A0 Q0 0 0 (10, [(0, zR (e 0)), (1, zR (a 2)), (2, zR (c 0)), (3, zI (d : Int)), (4, zI (i : Int))], [], (tW a (FA K S V F j) B K S V ++ cW c G CN NM MK TP PP CO KN ++ eW e E E1 E2 E3 E4)) := by
    intro q
    induction q with
    | zero => intro i j o2 E E1 E2 E3 E4 hj h5 h20 hio hoo hE4 hq; omega
    | succ q ih =>
      intro i j o2 E E1 E2 E3 E4 hj h5 h20 hio hoo hE4 hq hk
      have hE5 : 0 ≤ E 5 ∧ E 5 ≤ 20 := by omega
      have t0 := hTk j hj
      refine zg_blk pok2 X 2 [] (S' := (14, [(0, zR (e 0)), (1, zR (a 2)), (2, zR (c 0)), (3, zI (d : Int)), (4, zI (i : Int))], [zI 20, zI (i : Int)], ((tW a (FA K S V F j) B K S V) ++ (cW c G CN NM MK TP PP CO KN) ++ (eW e E E1 E2 E3 E4)))) rfl trivial ?_
      refine zg_icmp X 51 rfl rfl (by unfold zin; omega) (by unfold zin; omega) (fun g1 => ?_) (fun g1 => ?_)
      · simp only [x_cnd] at g1
        exfalso
        omega
      · simp only [x_ncd] at g1
        refine zg_blk pok2 X 2 [] (S' := (20, [(0, zR (e 0)), (1, zR (a 2)), (2, zR (c 0)), (3, zI (d : Int)), (4, zI (i : Int))], [zI 19, zR (a 2)], ((tW a (FA K S V F j) B K S V) ++ (cW c G CN NM MK TP PP CO KN) ++ (eW e E E1 E2 E3 E4)))) rfl trivial ?_
        refine zg_callV pok2 EWX_ok X 2 (vas := [zI 19]) (vr := []) (Y1 := (tW a (FA K S V F j) B K S V)) (Y2 := ((cW c G CN NM MK TP PP CO KN) ++ (eW e E E1 E2 E3 E4))) rfl rfl (Or.inl rfl) zj_X10_isWord rfl rfl rfl rfl (Nat.le_of_ble_eq_true rfl) rfl (zm_isWordA (idx := j) (by omega) ⟨hF6, hF1a, hF1b, hTs, hTk⟩ hj) ⟨by show 0 + 1 ≤ (f + 1); omega, by show 8 + (2 + 11) + 0 ≤ (lo + 25); omega, by show 0 + 0 ≤ 0; omega, by show 0 + 0 ≤ 0; omega⟩ (fun z9 Y9 hz => ?_)
        rcases hz with ⟨hw9, rfl, rfl⟩ | ⟨hw9, rfl, rfl⟩
        · have hw9 : K j = 2 ∧ V j = 19 := hw9
          refine zg_if X 51 rfl rfl (by unfold zin; omega) (fun g2 => ?_) (fun g2 => ?_)
          · exact absurd (show (1 : Int) = (0 : Int) from g2) (by decide)
          · simp only [x_ncd] at g2
            refine zg_blk pok2 X 1 [] (S' := (27, [(0, zR (e 0)), (1, zR (a 2)), (2, zR (c 0)), (3, zI (d : Int)), (4, zI (i : Int))], [zR (a 2)], ((tW a (FA K S V F j) B K S V) ++ (cW c G CN NM MK TP PP CO KN) ++ (eW e E E1 E2 E3 E4)))) rfl trivial ?_
            refine zg_callV pok2 EWX_ok X 2 (vas := []) (vr := []) (Y1 := (tW a (FA K S V F j) B K S V)) (Y2 := ((cW c G CN NM MK TP PP CO KN) ++ (eW e E E1 E2 E3 E4))) rfl rfl (Or.inl rfl) zj_X10_step rfl rfl rfl rfl (Nat.le_of_ble_eq_true rfl) rfl (zm_step (F := (FA K S V F j)) (show F 1 ≤ 941 by omega) (show -1 ≤ ((j : Nat) : Int) ∧ ((j : Nat) : Int) < 941 by omega) (show -2147483648 ≤ F 6 ∧ F 6 < 2147483648 by omega) (show 0 ≤ F 1 by omega)) ⟨by show 0 + 1 ≤ (f + 1); omega, by show 8 + (1 + 11) + 0 ≤ (lo + 25); omega, by show 0 + 0 ≤ 0; omega, by show 0 + 0 ≤ 0; omega⟩ (fun z9 Y9 hz => ?_)
            obtain ⟨rfl, rfl⟩ := hz
            have ip1 : (((j + 1) : Nat) : Int) < F 1 := by
              have h9 := hTs j hj (by omega) (by omega)
              omega
            have tp1 := hTk (j + 1) ip1
            rw [FA_step (idx := j) hF6 (by omega)]
            refine zg_cv (S2 := (30, [(0, zR (e 0)), (1, zR (a 2)), (2, zR (c 0)), (3, zI (d : Int)), (4, zI (i : Int))], [], ((tW a (FA K S V F (j + 1)) B K S V) ++ (cW c G CN NM MK TP PP CO KN) ++ (eW e E E1 E2 E3 E4)))) rfl ?_
            refine zg_blk pok2 X 4 [] (S' := (34, [(0, zR (e 0)), (1, zR (a 2)), (2, zR (c 0)), (3, zI (d : Int)), (4, zI (i : Int))], [zI (d : Int), zR (c 0), zR (a 2), zR (e 0)], ((tW a (FA K S V F (j + 1)) B K S V) ++ (cW c G CN NM MK TP PP CO KN) ++ (eW e E E1 E2 E3 E4)))) rfl trivial ?_
            refine zg_callV pok2 EWX_ok X 14 (vas := [zR (a 2), zR (c 0), zI (d : Int)]) (vr := []) (Y1 := ((tW a (FA K S V F (j + 1)) B K S V) ++ (cW c G CN NM MK TP PP CO KN) ++ (eW e E E1 E2 E3 E4))) (Y2 := []) rfl rfl (Or.inl rfl) zj_X8_readOne rfl rfl rfl rfl (Nat.le_of_ble_eq_true rfl) rfl (hro (j + 1) (o2) E E1 E2 E3 E4 ip1 (show E 5 = _ by omega) (by omega) (show 0 ≤ E 4 ∧ E 4 ≤ 40 by omega)) ⟨by show f + 1 ≤ (f + 1); omega, by show 8 + (6 + 11) + lo ≤ (lo + 25); omega, by show 0 + 0 ≤ 0; omega, by show 0 + 0 ≤ 0; omega⟩ (fun z9 Y9 hz => ?_)
            obtain ⟨rfl, R2, t2, F7c, E7c, Lc, Mc, Nc, Oc, hs2, hn2, hz, hE5, hE4, rfl⟩ := hz
            rcases hz with ⟨z2, hfe2, hb2, hc2, hd2, hl2⟩ | ⟨z2, hfd⟩
            · subst hfe2
              have tp2 := hTk R2.2.1 hb2
              refine zg_blk pok2 X 4 [] (S' := (42, [(0, zR (e 0)), (1, zR (a 2)), (2, zR (c 0)), (3, zI (d : Int)), (4, zI (i : Int))], [zI 0, zI 0, zI 19, zR (e 0)], ((tW a (FA K S V F R2.2.1) B K S V) ++ (cW c G CN NM MK TP PP CO KN) ++ (eW e E7c Lc Mc Nc Oc)))) rfl trivial ?_
              refine zg_callV pok2 EWX_ok X 14 (vas := [zI 19, zI 0, zI 0]) (vr := []) (Y1 := ((tW a (FA K S V F R2.2.1) B K S V) ++ (cW c G CN NM MK TP PP CO KN) ++ (eW e E7c Lc Mc Nc Oc))) (Y2 := []) rfl rfl (Or.inl rfl) zj_X8_add rfl rfl rfl rfl (Nat.le_of_ble_eq_true rfl) rfl (zm_add (F := (FA K S V F R2.2.1)) (E := E7c) (by first | exact hE4 | (show 0 ≤ E7c 4 ∧ E7c 4 ≤ 40; omega))) ⟨by show 0 + 1 ≤ (f + 1); omega, by show 8 + (4 + 11) + 0 ≤ (lo + 25); omega, by show 0 + 0 ≤ 0; omega, by show 0 + 0 ≤ 0; omega⟩ (fun z9 Y9 hz => ?_)
              obtain ⟨rfl, E8d, Ad, Pd, Qd, rfl, h5_E8d, h4a_E8d, h4b_E8d⟩ := hz
              have E8d5 : E8d 5 = E7c 5 := h5_E8d
              have hE4 : 0 ≤ E8d 4 ∧ E8d 4 ≤ 40 := ⟨h4a_E8d, h4b_E8d⟩
              have hE5 : 0 ≤ E8d 5 ∧ E8d 5 ≤ 20 := by rw [h5_E8d]; exact hE5
              refine zg_blk pok2 X 2 [] (S' := (10, [(4, zI ((i : Int) + 1)), (0, zR (e 0)), (1, zR (a 2)), (2, zR (c 0)), (3, zI (d : Int))], [], ((tW a (FA K S V F R2.2.1) B K S V) ++ (cW c G CN NM MK TP PP CO KN) ++ (eW e E8d Ad Pd Qd Oc)))) rfl trivial ?_
              have ih9 := ih (i + 1) R2.2.1 R2.2.2 E8d Ad Pd Qd Oc hb2 (by show E8d 5 = _; omega) hl2 (by omega) (by omega) (by show 0 ≤ E8d 4 ∧ E8d 4 ≤ 40; omega) (by omega) (fun R9 t9 h9 => hk R9 (t2 + t9 + 1) (fun T => by
                rw [show T + (t2 + t9 + 1) = (T + t9 + t2) + 1 by omega, sP_and, if_pos hw9, hs2, if_pos z2, show T + t9 + t2 = (T + t2) + t9 by omega]
                exact h9 _))
              rw [show (((i + 1 : Nat)) : Int) = (i : Int) + 1 by omega] at ih9
              refine zg_lv _ ?_ ih9
              intro q hq
              simp only [List.mem_cons, List.not_mem_nil, or_false] at hq ⊢
              rcases hq with rfl | rfl | rfl | rfl | rfl <;> simp
            · refine zg_blk pok2 X 4 [] (S' := (42, [(0, zR (e 0)), (1, zR (a 2)), (2, zR (c 0)), (3, zI (d : Int)), (4, zI (i : Int))], [zI 0, zI 0, zI 19, zR (e 0)], ((tW a F7c B K S V) ++ (cW c G CN NM MK TP PP CO KN) ++ (eW e E7c Lc Mc Nc Oc)))) rfl trivial ?_
              refine zg_callV pok2 EWX_ok X 14 (vas := [zI 19, zI 0, zI 0]) (vr := []) (Y1 := ((tW a F7c B K S V) ++ (cW c G CN NM MK TP PP CO KN) ++ (eW e E7c Lc Mc Nc Oc))) (Y2 := []) rfl rfl (Or.inl rfl) zj_X8_add rfl rfl rfl rfl (Nat.le_of_ble_eq_true rfl) rfl (zm_add (F := F7c) (E := E7c) (by first | exact hE4 | (show 0 ≤ E7c 4 ∧ E7c 4 ≤ 40; omega))) ⟨by show 0 + 1 ≤ (f + 1); omega, by show 8 + (4 + 11) + 0 ≤ (lo + 25); omega, by show 0 + 0 ≤ 0; omega, by show 0 + 0 ≤ 0; omega⟩ (fun z9 Y9 hz => ?_)
              obtain ⟨rfl, E8d, Ad, Pd, Qd, rfl, h5_E8d, h4a_E8d, h4b_E8d⟩ := hz
              have E8d5 : E8d 5 = E7c 5 := h5_E8d
              have hE4 : 0 ≤ E8d 4 ∧ E8d 4 ≤ 40 := ⟨h4a_E8d, h4b_E8d⟩
              have hE5 : 0 ≤ E8d 5 ∧ E8d 5 ≤ 20 := by rw [h5_E8d]; exact hE5
              refine zg_blk pok2 X 2 [] (S' := (10, [(4, zI ((i : Int) + 1)), (0, zR (e 0)), (1, zR (a 2)), (2, zR (c 0)), (3, zI (d : Int))], [], ((tW a F7c B K S V) ++ (cW c G CN NM MK TP PP CO KN) ++ (eW e E8d Ad Pd Qd Oc)))) rfl trivial ?_
              obtain ⟨t9, ht9⟩ := hk ((R2.1, R2.2.1, 0) : SR) (t2 + 1) (fun T => by
                rw [show T + (t2 + 1) = (T + t2) + 1 by omega, sP_and, if_pos hw9, hs2, if_neg z2])
              have l9 := fin9 F7c E8d Ad Pd Qd Oc ((i : Int) + 1) ((R2.1, R2.2.1, 0) : SR) t9 (by omega) ht9 hn2 z2 hfd (by show 0 ≤ E8d 5 ∧ E8d 5 ≤ 20; omega) (by show 0 ≤ E8d 4 ∧ E8d 4 ≤ 40; omega)
              refine zg_lv _ ?_ l9
              intro q hq
              simp only [List.mem_cons, List.not_mem_nil, or_false] at hq ⊢
              rcases hq with rfl | rfl | rfl | rfl | rfl <;> simp
        · have hw9 : ¬ (K j = 2 ∧ V j = 19) := hw9
          refine zg_if X 51 rfl rfl (by unfold zin; omega) (fun g3 => ?_) (fun g3 => ?_)
          · simp only [x_cnd] at g3
            refine zg_retv X hR rfl rfl (Nat.zero_le _) (Nat.zero_le _) ?_
            obtain ⟨t9, ht9⟩ := hk ((0, j, o2) : SR) 1 (fun T => by rw [sP_and, if_neg hw9])
            exact ⟨rfl, ((0, j, o2) : SR), t9, _, _, _, _, _, _, ht9, (show ¬ (0 : Int) = 99 by decide), Or.inl ⟨rfl, rfl, hj, h5, by show o < o2; omega, h20⟩, by omega, hE4, rfl⟩
          · exact absurd (show ¬ (0 : Int) = (0 : Int) from g3) (by decide)
  refine zg_blk pok2 X 4 [] (S' := (4, [(0, zR (e 0)), (1, zR (a 2)), (2, zR (c 0)), (3, zI (d : Int))], [zI (d : Int), zR (c 0), zR (a 2), zR (e 0)], ((tW a (FA K S V F idx) B K S V) ++ (cW c G CN NM MK TP PP CO KN) ++ (eW e E E1 E2 E3 E4)))) rfl trivial ?_
  refine zg_callV pok2 EWX_ok X 14 (vas := [zR (a 2), zR (c 0), zI (d : Int)]) (vr := []) (Y1 := ((tW a (FA K S V F idx) B K S V) ++ (cW c G CN NM MK TP PP CO KN) ++ (eW e E E1 E2 E3 E4))) (Y2 := []) rfl rfl (Or.inl rfl) zj_X8_readOne rfl rfl rfl rfl (Nat.le_of_ble_eq_true rfl) rfl (hro idx (o) E E1 E2 E3 E4 hi (show E 5 = _ by omega) (by omega) (show 0 ≤ E 4 ∧ E 4 ≤ 40 by omega)) ⟨by show f + 1 ≤ (f + 1); omega, by show 8 + (6 + 11) + lo ≤ (lo + 25); omega, by show 0 + 0 ≤ 0; omega, by show 0 + 0 ≤ 0; omega⟩ (fun z9 Y9 hz => ?_)
  obtain ⟨rfl, R1, t1, F7b, E7b, Lb, Mb, Nb, Ob, hs1, hn1, hz, hE5, hE4, rfl⟩ := hz
  rcases hz with ⟨z1, hfe1, hb1, hc1, hd1, hl1⟩ | ⟨z1, hfd⟩
  · subst hfe1
    have tp1 := hTk R1.2.1 hb1
    refine zg_blk pok2 X 2 [] (S' := (10, [(4, zI 0), (0, zR (e 0)), (1, zR (a 2)), (2, zR (c 0)), (3, zI (d : Int))], [], ((tW a (FA K S V F R1.2.1) B K S V) ++ (cW c G CN NM MK TP PP CO KN) ++ (eW e E7b Lb Mb Nb Ob)))) rfl trivial ?_
    have l9 := loop 1000 0 R1.2.1 R1.2.2 E7b Lb Mb Nb Ob hb1 hc1 hl1 (by omega) hd1 hE4 (by omega) (fun R9 t9 h9 => ⟨t1 + t9 + 1, fun T => by
      rw [show T + (t1 + t9 + 1) = (T + t9 + t1) + 1 by omega, sP_all, hs1, if_pos z1, show T + t9 + t1 = (T + t1) + t9 by omega]
      exact h9 _⟩)
    refine zg_lv _ ?_ l9
    intro q hq
    simp only [List.mem_cons, List.not_mem_nil, or_false] at hq ⊢
    rcases hq with rfl | rfl | rfl | rfl | rfl <;> simp
  · refine zg_blk pok2 X 2 [] (S' := (10, [(4, zI 0), (0, zR (e 0)), (1, zR (a 2)), (2, zR (c 0)), (3, zI (d : Int))], [], ((tW a F7b B K S V) ++ (cW c G CN NM MK TP PP CO KN) ++ (eW e E7b Lb Mb Nb Ob)))) rfl trivial ?_
    have l9 := fin9 F7b E7b Lb Mb Nb Ob 0 ((R1.1, R1.2.1, 0) : SR) (t1 + 1) (by omega) (fun T => by rw [show T + (t1 + 1) = (T + t1) + 1 by omega, sP_all, hs1, if_neg z1]) hn1 z1 hfd hE5 hE4
    refine zg_lv _ ?_ l9
    intro q hq
    simp only [List.mem_cons, List.not_mem_nil, or_false] at hq ⊢
    rcases hq with rfl | rfl | rfl | rfl | rfl <;> simp
set_option maxHeartbeats 16000000 in
set_option maxRecDepth 4000 in
theorem zm_readCondition (hT : TT F K S V) (hI : INV CN NM x) (hra : RXP xs D cy l ex a c e F B K S V G CN NM MK TP PP CO KN mt2_X8_readAll 3 d f lo) : RXP xs D cy l ex a c e F B K S V G CN NM MK TP PP CO KN mt2_X8_readCondition 4 d (f + 1) (lo + 24) := by
  intro idx o E E1 E2 E3 E4 hi hEo ho hE4
  obtain ⟨mok, tok, ow⟩ := pok2.1 _ _ zj_X8_readCondition
  refine met_ofz EWX_ok mok tok ow (Nat.le_of_ble_eq_true rfl) (fun r p0 e0 s0 m0 ar0 be0 me0 c0 A0 Q0 X hR => ?_)
  have hI9 := hI
  have hE5 : 0 ≤ E 5 ∧ E 5 ≤ 20 := by omega
  obtain ⟨hF6, hF1a, hF1b, hTs, hTk⟩ := hT
  have t0 := hTk idx hi
  have hCN := hI.cn
  obtain ⟨hc0, hc1, hc2, hc3, hNM, hU, hx0, hx1⟩ := hI
  have fin9 : ∀ (F1 E E1 E2 E3 E4 : Nat → Int) (m9 : Int) (R : SR) (t0 : Nat), -1 ≤ m9 ∧ m9 < 1000 → (∀ T, sP K V CN NM (T + t0) 4 d idx o = R) → ¬ R.1 = 99 → ¬ R.1 = 0 → fd F1 R.1 (S R.2.1) → 0 ≤ E 5 ∧ E 5 ≤ 20 → 0 ≤ E 4 ∧ E 4 ≤ 40 → ZG D cy r mt2_X8_readCondition p0 l e0 (rmR ((f + 1), 0, 0, (lo + 24))) s0 m0 ar0 be0 me0 c0 A0 Q0 0 0 (10, [(0, zR (e 0)), (1, zR (a 2)), (2, zR (c 0)), (3, zI (d : Int)), (4, zI m9)], [], (tW a F1 B K S V ++ cW c G CN NM MK TP PP CO KN ++ eW e E E1 E2 E3 E4)) := by
    intro F1 E E1 E2 E3 E4 m9 R t0 hm9 hs hn99 hne hfd hE5 hE4
    refine zg_blk pok2 X 2 [] (S' := (14, [(0, zR (e 0)), (1, zR (a 2)), (2, zR (c 0)), (3, zI (d : Int)), (4, zI m9)], [zI 20, zI m9], ((tW a F1 B K S V) ++ (cW c G CN NM MK TP PP CO KN) ++ (eW e E E1 E2 E3 E4)))) rfl trivial ?_
    refine zg_icmp X 51 rfl rfl (by unfold zin; omega) (by unfold zin; omega) (fun g1 => ?_) (fun g1 => ?_)
    · simp only [x_cnd] at g1
      refine zg_retv X hR rfl rfl (Nat.zero_le _) (Nat.zero_le _) ?_
      exact ⟨rfl, R, t0, _, _, _, _, _, _, hs, hn99, Or.inr ⟨hne, hfd⟩, hE5, hE4, rfl⟩
    · simp only [x_ncd] at g1
      refine zg_blk pok2 X 2 [] (S' := (20, [(0, zR (e 0)), (1, zR (a 2)), (2, zR (c 0)), (3, zI (d : Int)), (4, zI m9)], [zI 18, zR (a 2)], ((tW a F1 B K S V) ++ (cW c G CN NM MK TP PP CO KN) ++ (eW e E E1 E2 E3 E4)))) rfl trivial ?_
      refine zg_callV pok2 EWX_ok X 2 (vas := [zI 18]) (vr := []) (Y1 := (tW a F1 B K S V)) (Y2 := ((cW c G CN NM MK TP PP CO KN) ++ (eW e E E1 E2 E3 E4))) rfl rfl (Or.inl rfl) zj_X10_isWord rfl rfl rfl rfl (Nat.le_of_ble_eq_true rfl) rfl (zm_isWordX hfd) ⟨by show 0 + 1 ≤ (f + 1); omega, by show 8 + (2 + 11) + 0 ≤ (lo + 24); omega, by show 0 + 0 ≤ 0; omega, by show 0 + 0 ≤ 0; omega⟩ (fun z9 Y9 hz => ?_)
      obtain ⟨rfl, rfl⟩ := hz
      refine zg_if X 51 rfl rfl (by unfold zin; omega) (fun g2 => ?_) (fun g2 => ?_)
      · simp only [x_cnd] at g2
        refine zg_retv X hR rfl rfl (Nat.zero_le _) (Nat.zero_le _) ?_
        exact ⟨rfl, R, t0, _, _, _, _, _, _, hs, hn99, Or.inr ⟨hne, hfd⟩, hE5, hE4, rfl⟩
      · exact absurd (show ¬ (0 : Int) = (0 : Int) from g2) (by decide)
  have loop : ∀ (q i j o2 : Nat) (E E1 E2 E3 E4 : Nat → Int), (j : Int) < F 1 → E 5 = (o2 : Int) → o2 ≤ 20 → i + 1 ≤ o2 → o < o2 → 0 ≤ E 4 ∧ E 4 ≤ 40 → 20 - i < q → (∀ (R9 : SR) (t9 : Nat), (∀ T, sP K V CN NM (T + t9) 2 d j o2 = R9) → ∃ t0, ∀ T, sP K V CN NM (T + t0) 4 d idx o = R9) → ZG D cy r mt2_X8_readCondition p0 l e0 (rmR ((f + 1), 0, 0, (lo + 24))) s0 m0 ar0 be0 me0 c0 A0 Q0 0 0 (10, [(0, zR (e 0)), (1, zR (a 2)), (2, zR (c 0)), (3, zI (d : Int)), (4, zI (i : Int))], [], (tW a (FA K S V F j) B K S V ++ cW c G CN NM MK TP PP CO KN ++ eW e E E1 E2 E3 E4)) := by
    intro q
    induction q with
    | zero => intro i j o2 E E1 E2 E3 E4 hj h5 h20 hio hoo hE4 hq; omega
    | succ q ih =>
      intro i j o2 E E1 E2 E3 E4 hj h5 h20 hio hoo hE4 hq hk
      have hE5 : 0 ≤ E 5 ∧ E 5 ≤ 20 := by omega
      have t0 := hTk j hj
      refine zg_blk pok2 X 2 [] (S' := (14, [(0, zR (e 0)), (1, zR (a 2)), (2, zR (c 0)), (3, zI (d : Int)), (4, zI (i : Int))], [zI 20, zI (i : Int)], ((tW a (FA K S V F j) B K S V) ++ (cW c G CN NM MK TP PP CO KN) ++ (eW e E E1 E2 E3 E4)))) rfl trivial ?_
      refine zg_icmp X 51 rfl rfl (by unfold zin; omega) (by unfold zin; omega) (fun g1 => ?_) (fun g1 => ?_)
      · simp only [x_cnd] at g1
        exfalso
        omega
      · simp only [x_ncd] at g1
        refine zg_blk pok2 X 2 [] (S' := (20, [(0, zR (e 0)), (1, zR (a 2)), (2, zR (c 0)), (3, zI (d : Int)), (4, zI (i : Int))], [zI 18, zR (a 2)], ((tW a (FA K S V F j) B K S V) ++ (cW c G CN NM MK TP PP CO KN) ++ (eW e E E1 E2 E3 E4)))) rfl trivial ?_
        refine zg_callV pok2 EWX_ok X 2 (vas := [zI 18]) (vr := []) (Y1 := (tW a (FA K S V F j) B K S V)) (Y2 := ((cW c G CN NM MK TP PP CO KN) ++ (eW e E E1 E2 E3 E4))) rfl rfl (Or.inl rfl) zj_X10_isWord rfl rfl rfl rfl (Nat.le_of_ble_eq_true rfl) rfl (zm_isWordA (idx := j) (by omega) ⟨hF6, hF1a, hF1b, hTs, hTk⟩ hj) ⟨by show 0 + 1 ≤ (f + 1); omega, by show 8 + (2 + 11) + 0 ≤ (lo + 24); omega, by show 0 + 0 ≤ 0; omega, by show 0 + 0 ≤ 0; omega⟩ (fun z9 Y9 hz => ?_)
        rcases hz with ⟨hw9, rfl, rfl⟩ | ⟨hw9, rfl, rfl⟩
        · have hw9 : K j = 2 ∧ V j = 18 := hw9
          refine zg_if X 51 rfl rfl (by unfold zin; omega) (fun g2 => ?_) (fun g2 => ?_)
          · exact absurd (show (1 : Int) = (0 : Int) from g2) (by decide)
          · simp only [x_ncd] at g2
            refine zg_blk pok2 X 1 [] (S' := (27, [(0, zR (e 0)), (1, zR (a 2)), (2, zR (c 0)), (3, zI (d : Int)), (4, zI (i : Int))], [zR (a 2)], ((tW a (FA K S V F j) B K S V) ++ (cW c G CN NM MK TP PP CO KN) ++ (eW e E E1 E2 E3 E4)))) rfl trivial ?_
            refine zg_callV pok2 EWX_ok X 2 (vas := []) (vr := []) (Y1 := (tW a (FA K S V F j) B K S V)) (Y2 := ((cW c G CN NM MK TP PP CO KN) ++ (eW e E E1 E2 E3 E4))) rfl rfl (Or.inl rfl) zj_X10_step rfl rfl rfl rfl (Nat.le_of_ble_eq_true rfl) rfl (zm_step (F := (FA K S V F j)) (show F 1 ≤ 941 by omega) (show -1 ≤ ((j : Nat) : Int) ∧ ((j : Nat) : Int) < 941 by omega) (show -2147483648 ≤ F 6 ∧ F 6 < 2147483648 by omega) (show 0 ≤ F 1 by omega)) ⟨by show 0 + 1 ≤ (f + 1); omega, by show 8 + (1 + 11) + 0 ≤ (lo + 24); omega, by show 0 + 0 ≤ 0; omega, by show 0 + 0 ≤ 0; omega⟩ (fun z9 Y9 hz => ?_)
            obtain ⟨rfl, rfl⟩ := hz
            have ip1 : (((j + 1) : Nat) : Int) < F 1 := by
              have h9 := hTs j hj (by omega) (by omega)
              omega
            have tp1 := hTk (j + 1) ip1
            rw [FA_step (idx := j) hF6 (by omega)]
            refine zg_cv (S2 := (30, [(0, zR (e 0)), (1, zR (a 2)), (2, zR (c 0)), (3, zI (d : Int)), (4, zI (i : Int))], [], ((tW a (FA K S V F (j + 1)) B K S V) ++ (cW c G CN NM MK TP PP CO KN) ++ (eW e E E1 E2 E3 E4)))) rfl ?_
            refine zg_blk pok2 X 4 [] (S' := (34, [(0, zR (e 0)), (1, zR (a 2)), (2, zR (c 0)), (3, zI (d : Int)), (4, zI (i : Int))], [zI (d : Int), zR (c 0), zR (a 2), zR (e 0)], ((tW a (FA K S V F (j + 1)) B K S V) ++ (cW c G CN NM MK TP PP CO KN) ++ (eW e E E1 E2 E3 E4)))) rfl trivial ?_
            refine zg_callV pok2 EWX_ok X 14 (vas := [zR (a 2), zR (c 0), zI (d : Int)]) (vr := []) (Y1 := ((tW a (FA K S V F (j + 1)) B K S V) ++ (cW c G CN NM MK TP PP CO KN) ++ (eW e E E1 E2 E3 E4))) (Y2 := []) rfl rfl (Or.inl rfl) zj_X8_readAll rfl rfl rfl rfl (Nat.le_of_ble_eq_true rfl) rfl (hra (j + 1) (o2) E E1 E2 E3 E4 ip1 (show E 5 = _ by omega) (by omega) (show 0 ≤ E 4 ∧ E 4 ≤ 40 by omega)) ⟨by show f + 1 ≤ (f + 1); omega, by show 8 + (5 + 11) + lo ≤ (lo + 24); omega, by show 0 + 0 ≤ 0; omega, by show 0 + 0 ≤ 0; omega⟩ (fun z9 Y9 hz => ?_)
            obtain ⟨rfl, R2, t2, F7c, E7c, Lc, Mc, Nc, Oc, hs2, hn2, hz, hE5, hE4, rfl⟩ := hz
            rcases hz with ⟨z2, hfe2, hb2, hc2, hd2, hl2⟩ | ⟨z2, hfd⟩
            · subst hfe2
              have tp2 := hTk R2.2.1 hb2
              refine zg_blk pok2 X 4 [] (S' := (42, [(0, zR (e 0)), (1, zR (a 2)), (2, zR (c 0)), (3, zI (d : Int)), (4, zI (i : Int))], [zI 0, zI 0, zI 18, zR (e 0)], ((tW a (FA K S V F R2.2.1) B K S V) ++ (cW c G CN NM MK TP PP CO KN) ++ (eW e E7c Lc Mc Nc Oc)))) rfl trivial ?_
              refine zg_callV pok2 EWX_ok X 14 (vas := [zI 18, zI 0, zI 0]) (vr := []) (Y1 := ((tW a (FA K S V F R2.2.1) B K S V) ++ (cW c G CN NM MK TP PP CO KN) ++ (eW e E7c Lc Mc Nc Oc))) (Y2 := []) rfl rfl (Or.inl rfl) zj_X8_add rfl rfl rfl rfl (Nat.le_of_ble_eq_true rfl) rfl (zm_add (F := (FA K S V F R2.2.1)) (E := E7c) (by first | exact hE4 | (show 0 ≤ E7c 4 ∧ E7c 4 ≤ 40; omega))) ⟨by show 0 + 1 ≤ (f + 1); omega, by show 8 + (4 + 11) + 0 ≤ (lo + 24); omega, by show 0 + 0 ≤ 0; omega, by show 0 + 0 ≤ 0; omega⟩ (fun z9 Y9 hz => ?_)
              obtain ⟨rfl, E8d, Ad, Pd, Qd, rfl, h5_E8d, h4a_E8d, h4b_E8d⟩ := hz
              have E8d5 : E8d 5 = E7c 5 := h5_E8d
              have hE4 : 0 ≤ E8d 4 ∧ E8d 4 ≤ 40 := ⟨h4a_E8d, h4b_E8d⟩
              have hE5 : 0 ≤ E8d 5 ∧ E8d 5 ≤ 20 := by rw [h5_E8d]; exact hE5
              refine zg_blk pok2 X 2 [] (S' := (10, [(4, zI ((i : Int) + 1)), (0, zR (e 0)), (1, zR (a 2)), (2, zR (c 0)), (3, zI (d : Int))], [], ((tW a (FA K S V F R2.2.1) B K S V) ++ (cW c G CN NM MK TP PP CO KN) ++ (eW e E8d Ad Pd Qd Oc)))) rfl trivial ?_
              have ih9 := ih (i + 1) R2.2.1 R2.2.2 E8d Ad Pd Qd Oc hb2 (by show E8d 5 = _; omega) hl2 (by omega) (by omega) (by show 0 ≤ E8d 4 ∧ E8d 4 ≤ 40; omega) (by omega) (fun R9 t9 h9 => hk R9 (t2 + t9 + 1) (fun T => by
                rw [show T + (t2 + t9 + 1) = (T + t9 + t2) + 1 by omega, sP_or, if_pos hw9, hs2, if_pos z2, show T + t9 + t2 = (T + t2) + t9 by omega]
                exact h9 _))
              rw [show (((i + 1 : Nat)) : Int) = (i : Int) + 1 by omega] at ih9
              refine zg_lv _ ?_ ih9
              intro q hq
              simp only [List.mem_cons, List.not_mem_nil, or_false] at hq ⊢
              rcases hq with rfl | rfl | rfl | rfl | rfl <;> simp
            · refine zg_blk pok2 X 4 [] (S' := (42, [(0, zR (e 0)), (1, zR (a 2)), (2, zR (c 0)), (3, zI (d : Int)), (4, zI (i : Int))], [zI 0, zI 0, zI 18, zR (e 0)], ((tW a F7c B K S V) ++ (cW c G CN NM MK TP PP CO KN) ++ (eW e E7c Lc Mc Nc Oc)))) rfl trivial ?_
              refine zg_callV pok2 EWX_ok X 14 (vas := [zI 18, zI 0, zI 0]) (vr := []) (Y1 := ((tW a F7c B K S V) ++ (cW c G CN NM MK TP PP CO KN) ++ (eW e E7c Lc Mc Nc Oc))) (Y2 := []) rfl rfl (Or.inl rfl) zj_X8_add rfl rfl rfl rfl (Nat.le_of_ble_eq_true rfl) rfl (zm_add (F := F7c) (E := E7c) (by first | exact hE4 | (show 0 ≤ E7c 4 ∧ E7c 4 ≤ 40; omega))) ⟨by show 0 + 1 ≤ (f + 1); omega, by show 8 + (4 + 11) + 0 ≤ (lo + 24); omega, by show 0 + 0 ≤ 0; omega, by show 0 + 0 ≤ 0; omega⟩ (fun z9 Y9 hz => ?_)
              obtain ⟨rfl, E8d, Ad, Pd, Qd, rfl, h5_E8d, h4a_E8d, h4b_E8d⟩ := hz
              have E8d5 : E8d 5 = E7c 5 := h5_E8d
              have hE4 : 0 ≤ E8d 4 ∧ E8d 4 ≤ 40 := ⟨h4a_E8d, h4b_E8d⟩
              have hE5 : 0 ≤ E8d 5 ∧ E8d 5 ≤ 20 := by rw [h5_E8d]; exact hE5
              refine zg_blk pok2 X 2 [] (S' := (10, [(4, zI ((i : Int) + 1)), (0, zR (e 0)), (1, zR (a 2)), (2, zR (c 0)), (3, zI (d : Int))], [], ((tW a F7c B K S V) ++ (cW c G CN NM MK TP PP CO KN) ++ (eW e E8d Ad Pd Qd Oc)))) rfl trivial ?_
              obtain ⟨t9, ht9⟩ := hk ((R2.1, R2.2.1, 0) : SR) (t2 + 1) (fun T => by
                rw [show T + (t2 + 1) = (T + t2) + 1 by omega, sP_or, if_pos hw9, hs2, if_neg z2])
              have l9 := fin9 F7c E8d Ad Pd Qd Oc ((i : Int) + 1) ((R2.1, R2.2.1, 0) : SR) t9 (by omega) ht9 hn2 z2 hfd (by show 0 ≤ E8d 5 ∧ E8d 5 ≤ 20; omega) (by show 0 ≤ E8d 4 ∧ E8d 4 ≤ 40; omega)
              refine zg_lv _ ?_ l9
              intro q hq
              simp only [List.mem_cons, List.not_mem_nil, or_false] at hq ⊢
              rcases hq with rfl | rfl | rfl | rfl | rfl <;> simp
        · have hw9 : ¬ (K j = 2 ∧ V j = 18) := hw9
          refine zg_if X 51 rfl rfl (by unfold zin; omega) (fun g3 => ?_) (fun g3 => ?_)
          · simp only [x_cnd] at g3
            refine zg_retv X hR rfl rfl (Nat.zero_le _) (Nat.zero_le _) ?_
            obtain ⟨t9, ht9⟩ := hk ((0, j, o2) : SR) 1 (fun T => by rw [sP_or, if_neg hw9])
            exact ⟨rfl, ((0, j, o2) : SR), t9, _, _, _, _, _, _, ht9, (show ¬ (0 : Int) = 99 by decide), Or.inl ⟨rfl, rfl, hj, h5, by show o < o2; omega, h20⟩, by omega, hE4, rfl⟩
          · exact absurd (show ¬ (0 : Int) = (0 : Int) from g3) (by decide)
  refine zg_blk pok2 X 4 [] (S' := (4, [(0, zR (e 0)), (1, zR (a 2)), (2, zR (c 0)), (3, zI (d : Int))], [zI (d : Int), zR (c 0), zR (a 2), zR (e 0)], ((tW a (FA K S V F idx) B K S V) ++ (cW c G CN NM MK TP PP CO KN) ++ (eW e E E1 E2 E3 E4)))) rfl trivial ?_
  refine zg_callV pok2 EWX_ok X 14 (vas := [zR (a 2), zR (c 0), zI (d : Int)]) (vr := []) (Y1 := ((tW a (FA K S V F idx) B K S V) ++ (cW c G CN NM MK TP PP CO KN) ++ (eW e E E1 E2 E3 E4))) (Y2 := []) rfl rfl (Or.inl rfl) zj_X8_readAll rfl rfl rfl rfl (Nat.le_of_ble_eq_true rfl) rfl (hra idx (o) E E1 E2 E3 E4 hi (show E 5 = _ by omega) (by omega) (show 0 ≤ E 4 ∧ E 4 ≤ 40 by omega)) ⟨by show f + 1 ≤ (f + 1); omega, by show 8 + (5 + 11) + lo ≤ (lo + 24); omega, by show 0 + 0 ≤ 0; omega, by show 0 + 0 ≤ 0; omega⟩ (fun z9 Y9 hz => ?_)
  obtain ⟨rfl, R1, t1, F7b, E7b, Lb, Mb, Nb, Ob, hs1, hn1, hz, hE5, hE4, rfl⟩ := hz
  rcases hz with ⟨z1, hfe1, hb1, hc1, hd1, hl1⟩ | ⟨z1, hfd⟩
  · subst hfe1
    have tp1 := hTk R1.2.1 hb1
    refine zg_blk pok2 X 2 [] (S' := (10, [(4, zI 0), (0, zR (e 0)), (1, zR (a 2)), (2, zR (c 0)), (3, zI (d : Int))], [], ((tW a (FA K S V F R1.2.1) B K S V) ++ (cW c G CN NM MK TP PP CO KN) ++ (eW e E7b Lb Mb Nb Ob)))) rfl trivial ?_
    have l9 := loop 1000 0 R1.2.1 R1.2.2 E7b Lb Mb Nb Ob hb1 hc1 hl1 (by omega) hd1 hE4 (by omega) (fun R9 t9 h9 => ⟨t1 + t9 + 1, fun T => by
      rw [show T + (t1 + t9 + 1) = (T + t9 + t1) + 1 by omega, sP_cond, hs1, if_pos z1, show T + t9 + t1 = (T + t1) + t9 by omega]
      exact h9 _⟩)
    refine zg_lv _ ?_ l9
    intro q hq
    simp only [List.mem_cons, List.not_mem_nil, or_false] at hq ⊢
    rcases hq with rfl | rfl | rfl | rfl | rfl <;> simp
  · refine zg_blk pok2 X 2 [] (S' := (10, [(4, zI 0), (0, zR (e 0)), (1, zR (a 2)), (2, zR (c 0)), (3, zI (d : Int))], [], ((tW a F7b B K S V) ++ (cW c G CN NM MK TP PP CO KN) ++ (eW e E7b Lb Mb Nb Ob)))) rfl trivial ?_
    have l9 := fin9 F7b E7b Lb Mb Nb Ob 0 ((R1.1, R1.2.1, 0) : SR) (t1 + 1) (by omega) (fun T => by rw [show T + (t1 + 1) = (T + t1) + 1 by omega, sP_cond, hs1, if_neg z1]) hn1 z1 hfd hE5 hE4
    refine zg_lv _ ?_ l9
    intro q hq
    simp only [List.mem_cons, List.not_mem_nil, or_false] at hq ⊢
    rcases hq with rfl | rfl | rfl | rfl | rfl <;> simp
set_option maxHeartbeats 16000000 in
set_option maxRecDepth 4000 in
theorem zm_readOne (hT : TT F K S V) (hI : INV CN NM x) {f9 lo9 : Nat} (hR9 : 1 ≤ f9 ∧ 21 ≤ lo9 ∧ (8 < d ∨ (f + 1 ≤ f9 ∧ lo + 24 ≤ lo9 ∧ f2 + 1 ≤ f9 ∧ lo2 + 25 ≤ lo9 ∧ 3 ≤ f9 ∧ 72 ≤ lo9))) (hd1 : d ≤ 9) (hrc : d ≤ 8 → RXP xs D cy l ex a c e F B K S V G CN NM MK TP PP CO KN mt2_X8_readCondition 4 (d + 1) f lo) (hro : d ≤ 8 → RXP xs D cy l ex a c e F B K S V G CN NM MK TP PP CO KN mt2_X8_readOne 0 (d + 1) f2 lo2) : RXP xs D cy l ex a c e F B K S V G CN NM MK TP PP CO KN mt2_X8_readOne 0 d f9 lo9 := by
  intro idx o E E1 E2 E3 E4 hi hEo ho hE4
  obtain ⟨mok, tok, ow⟩ := pok2.1 _ _ zj_X8_readOne
  refine met_ofz EWX_ok mok tok ow (Nat.le_of_ble_eq_true rfl) (fun r p0 e0 s0 m0 ar0 be0 me0 c0 A0 Q0 X hR => ?_)
  have hI9 := hI
  have hE5 : 0 ≤ E 5 ∧ E 5 ≤ 20 := by omega
  obtain ⟨hF6, hF1a, hF1b, hTs, hTk⟩ := hT
  have t0 := hTk idx hi
  have hCN := hI.cn
  obtain ⟨hc0, hc1, hc2, hc3, hNM, hU, hx0, hx1⟩ := hI
  refine zg_blk pok2 X 1 [] (S' := (1, [(0, zR (e 0)), (1, zR (a 2)), (2, zR (c 0)), (3, zI (d : Int))], [zR (a 2)], ((tW a (FA K S V F idx) B K S V) ++ (cW c G CN NM MK TP PP CO KN) ++ (eW e E E1 E2 E3 E4)))) rfl trivial ?_
  refine zg_callV pok2 EWX_ok X 2 (vas := []) (vr := []) (Y1 := (tW a (FA K S V F idx) B K S V)) (Y2 := ((cW c G CN NM MK TP PP CO KN) ++ (eW e E E1 E2 E3 E4))) rfl rfl (Or.inl rfl) zj_X10_plainWord rfl rfl rfl rfl (Nat.le_of_ble_eq_true rfl) rfl (zm_plainWordA (idx := idx) ⟨hF6, hF1a, hF1b, hTs, hTk⟩ hi) ⟨by show 0 + 1 ≤ f9; omega, by show 8 + (1 + 11) + 0 ≤ lo9; omega, by show 0 + 0 ≤ 0; omega, by show 0 + 0 ≤ 0; omega⟩ (fun z9 Y9 hz => ?_)
  rcases hz with ⟨hk0, rfl, rfl⟩ | ⟨hk0, rfl, rfl⟩
  · refine zg_blk pok2 X 4 [2] (S' := (12, [(4, zI (V idx)), (0, zR (e 0)), (1, zR (a 2)), (2, zR (c 0)), (3, zI (d : Int))], [zI 40, zI (K idx)], ((tW a (FA K S V F idx) B K S V) ++ (cW c G CN NM MK TP PP CO KN) ++ (eW e E E1 E2 E3 E4)))) rfl ⟨rfl, trivial⟩ ?_
    refine zg_icmp X 19 rfl rfl (by unfold zin; omega) (by unfold zin; omega) (fun g1 => ?_) (fun g1 => ?_)
    · simp only [x_cnd] at g1
      refine zg_blk pok2 X 3 [] (S' := (24, [(5, zI 0), (4, zI (V idx)), (0, zR (e 0)), (1, zR (a 2)), (2, zR (c 0)), (3, zI (d : Int))], [zI 0], ((tW a (FA K S V F idx) B K S V) ++ (cW c G CN NM MK TP PP CO KN) ++ (eW e E E1 E2 E3 E4)))) rfl trivial ?_
      refine zg_if X 47 rfl rfl (by unfold zin; omega) (fun g2 => ?_) (fun g2 => ?_)
      · exact absurd (show ¬ (0 : Int) = (0 : Int) from g2) (by decide)
      · simp only [x_ncd] at g2
        refine zg_blk pok2 X 2 [] (S' := (31, [(5, zI 0), (4, zI (V idx)), (0, zR (e 0)), (1, zR (a 2)), (2, zR (c 0)), (3, zI (d : Int))], [zI 20, zI (V idx)], ((tW a (FA K S V F idx) B K S V) ++ (cW c G CN NM MK TP PP CO KN) ++ (eW e E E1 E2 E3 E4)))) rfl trivial ?_
        refine zg_icmp X 41 rfl rfl (by unfold zin; omega) (by unfold zin; omega) (fun g3 => ?_) (fun g3 => ?_)
        · simp only [x_cnd] at g3
          refine zg_blk pok2 X 2 [] (S' := (43, [(5, zI 0), (4, zI (V idx)), (0, zR (e 0)), (1, zR (a 2)), (2, zR (c 0)), (3, zI (d : Int))], [zI 1, zR (a 2)], ((tW a (FA K S V F idx) B K S V) ++ (cW c G CN NM MK TP PP CO KN) ++ (eW e E E1 E2 E3 E4)))) rfl trivial ?_
          refine zg_callV pok2 EWX_ok X 2 (vas := [zI 1]) (vr := []) (Y1 := (tW a (FA K S V F idx) B K S V)) (Y2 := ((cW c G CN NM MK TP PP CO KN) ++ (eW e E E1 E2 E3 E4))) rfl rfl (Or.inl rfl) zj_X10_fail rfl rfl rfl rfl (Nat.le_of_ble_eq_true rfl) rfl (zm_fail (F := (FA K S V F idx)) (show -2147483648 ≤ F 6 ∧ F 6 < 2147483648 by omega)) ⟨by show 0 + 1 ≤ f9; omega, by show 8 + (2 + 11) + 0 ≤ lo9; omega, by show 0 + 0 ≤ 0; omega, by show 0 + 0 ≤ 0; omega⟩ (fun z9 Y9 hz => ?_)
          obtain ⟨rfl, rfl⟩ := hz
          have hfd := FA_fail (K := K) (S := S) (V := V) (F := F) (idx := idx) (m := 1) hF6 (by decide) (by decide)
          refine zg_retv X hR rfl rfl (Nat.zero_le _) (Nat.zero_le _) ?_
          exact ⟨rfl, ((1, idx, 0) : SR), 1, _, _, _, _, _, _, fun T => by rw [sP_one, if_pos (by omega)], show ¬ (1 : Int) = 99 by decide, Or.inr ⟨show ¬ (1 : Int) = 0 by decide, hfd⟩, by show 0 ≤ E 5 ∧ E 5 ≤ 20; omega, by show 0 ≤ E 4 ∧ E 4 ≤ 40; omega, rfl⟩
        · simp only [x_ncd] at g3
          refine zg_blk pok2 X 2 [] (S' := (38, [(5, zI 0), (4, zI (V idx)), (0, zR (e 0)), (1, zR (a 2)), (2, zR (c 0)), (3, zI (d : Int))], [zI 28, zI (V idx)], ((tW a (FA K S V F idx) B K S V) ++ (cW c G CN NM MK TP PP CO KN) ++ (eW e E E1 E2 E3 E4)))) rfl trivial ?_
          refine zg_icmp X 47 rfl rfl (by unfold zin; omega) (by unfold zin; omega) (fun g4 => ?_) (fun g4 => ?_)
          · simp only [x_cnd] at g4
            refine zg_blk pok2 X 3 [14] (S' := (53, [(5, zI 0), (4, zI (V idx)), (0, zR (e 0)), (1, zR (a 2)), (2, zR (c 0)), (3, zI (d : Int))], [zI 20, zI (E 5)], ((tW a (FA K S V F idx) B K S V) ++ (cW c G CN NM MK TP PP CO KN) ++ (eW e E E1 E2 E3 E4)))) rfl ⟨rfl, trivial⟩ ?_
            refine zg_icmp X 62 rfl rfl (by unfold zin; omega) (by unfold zin; omega) (fun g5 => ?_) (fun g5 => ?_)
            · simp only [x_cnd] at g5
              refine zg_blk pok2 X 2 [] (S' := (64, [(5, zI 0), (4, zI (V idx)), (0, zR (e 0)), (1, zR (a 2)), (2, zR (c 0)), (3, zI (d : Int))], [zI 4, zR (a 2)], ((tW a (FA K S V F idx) B K S V) ++ (cW c G CN NM MK TP PP CO KN) ++ (eW e E E1 E2 E3 E4)))) rfl trivial ?_
              refine zg_callV pok2 EWX_ok X 2 (vas := [zI 4]) (vr := []) (Y1 := (tW a (FA K S V F idx) B K S V)) (Y2 := ((cW c G CN NM MK TP PP CO KN) ++ (eW e E E1 E2 E3 E4))) rfl rfl (Or.inl rfl) zj_X10_fail rfl rfl rfl rfl (Nat.le_of_ble_eq_true rfl) rfl (zm_fail (F := (FA K S V F idx)) (show -2147483648 ≤ F 6 ∧ F 6 < 2147483648 by omega)) ⟨by show 0 + 1 ≤ f9; omega, by show 8 + (2 + 11) + 0 ≤ lo9; omega, by show 0 + 0 ≤ 0; omega, by show 0 + 0 ≤ 0; omega⟩ (fun z9 Y9 hz => ?_)
              obtain ⟨rfl, rfl⟩ := hz
              have hfd := FA_fail (K := K) (S := S) (V := V) (F := F) (idx := idx) (m := 4) hF6 (by decide) (by decide)
              refine zg_retv X hR rfl rfl (Nat.zero_le _) (Nat.zero_le _) ?_
              exact ⟨rfl, ((4, idx, 0) : SR), 1, _, _, _, _, _, _, fun T => by rw [sP_one, if_neg (by omega), if_pos (by omega)], show ¬ (4 : Int) = 99 by decide, Or.inr ⟨show ¬ (4 : Int) = 0 by decide, hfd⟩, by show 0 ≤ E 5 ∧ E 5 ≤ 20; omega, by show 0 ≤ E 4 ∧ E 4 ≤ 40; omega, rfl⟩
            · simp only [x_ncd] at g5
              refine zg_blk pok2 X 2 [] (S' := (59, [(5, zI 0), (4, zI (V idx)), (0, zR (e 0)), (1, zR (a 2)), (2, zR (c 0)), (3, zI (d : Int))], [zI 8, zI (d : Int)], ((tW a (FA K S V F idx) B K S V) ++ (cW c G CN NM MK TP PP CO KN) ++ (eW e E E1 E2 E3 E4)))) rfl trivial ?_
              refine zg_icmp X 68 rfl rfl (by unfold zin; omega) (by unfold zin; omega) (fun g6 => ?_) (fun g6 => ?_)
              · simp only [x_cnd] at g6
                refine zg_blk pok2 X 7 [14, 14] (S' := (79, [(5, zI 0), (4, zI (V idx)), (0, zR (e 0)), (1, zR (a 2)), (2, zR (c 0)), (3, zI (d : Int))], [zR (a 2)], ((tW a (FA K S V F idx) B K S V) ++ (cW c G CN NM MK TP PP CO KN) ++ (eW e (zup E 5 ((E 5) + 1)) E1 E2 E3 E4)))) rfl ⟨rfl, rfl, rfl, rfl, trivial⟩ ?_
                refine zg_callV pok2 EWX_ok X 2 (vas := []) (vr := []) (Y1 := (tW a (FA K S V F idx) B K S V)) (Y2 := ((cW c G CN NM MK TP PP CO KN) ++ (eW e (zup E 5 ((E 5) + 1)) E1 E2 E3 E4))) rfl rfl (Or.inl rfl) zj_X10_step rfl rfl rfl rfl (Nat.le_of_ble_eq_true rfl) rfl (zm_step (F := (FA K S V F idx)) (show F 1 ≤ 941 by omega) (show -1 ≤ ((idx : Nat) : Int) ∧ ((idx : Nat) : Int) < 941 by omega) (show -2147483648 ≤ F 6 ∧ F 6 < 2147483648 by omega) (show 0 ≤ F 1 by omega)) ⟨by show 0 + 1 ≤ f9; omega, by show 8 + (1 + 11) + 0 ≤ lo9; omega, by show 0 + 0 ≤ 0; omega, by show 0 + 0 ≤ 0; omega⟩ (fun z9 Y9 hz => ?_)
                obtain ⟨rfl, rfl⟩ := hz
                have ip1 : (((idx + 1) : Nat) : Int) < F 1 := by
                  have h9 := hTs idx hi (by omega) (by omega)
                  omega
                have tp1 := hTk (idx + 1) ip1
                rw [FA_step (idx := idx) hF6 (by omega)]
                refine zg_cv (S2 := (82, [(5, zI 0), (4, zI (V idx)), (0, zR (e 0)), (1, zR (a 2)), (2, zR (c 0)), (3, zI (d : Int))], [], ((tW a (FA K S V F (idx + 1)) B K S V) ++ (cW c G CN NM MK TP PP CO KN) ++ (eW e (zup E 5 ((E 5) + 1)) E1 E2 E3 E4)))) rfl ?_
                refine zg_blk pok2 X 1 [] (S' := (84, [(5, zI 0), (4, zI (V idx)), (0, zR (e 0)), (1, zR (a 2)), (2, zR (c 0)), (3, zI (d : Int))], [zI 0], ((tW a (FA K S V F (idx + 1)) B K S V) ++ (cW c G CN NM MK TP PP CO KN) ++ (eW e (zup E 5 ((E 5) + 1)) E1 E2 E3 E4)))) rfl trivial ?_
                refine zg_if X 105 rfl rfl (by unfold zin; omega) (fun g7 => ?_) (fun g7 => ?_)
                · simp only [x_cnd] at g7
                  refine zg_blk pok2 X 2 [] (S' := (109, [(5, zI 0), (4, zI (V idx)), (0, zR (e 0)), (1, zR (a 2)), (2, zR (c 0)), (3, zI (d : Int))], [zI 20, zI (V idx)], ((tW a (FA K S V F (idx + 1)) B K S V) ++ (cW c G CN NM MK TP PP CO KN) ++ (eW e (zup E 5 ((E 5) + 1)) E1 E2 E3 E4)))) rfl trivial ?_
                  refine zg_icmp X 132 rfl rfl (by unfold zin; omega) (by unfold zin; omega) (fun g8 => ?_) (fun g8 => ?_)
                  · simp only [x_cnd] at g8
                    refine zg_blk pok2 X 4 [] (S' := (137, [(5, zI 0), (4, zI (V idx)), (0, zR (e 0)), (1, zR (a 2)), (2, zR (c 0)), (3, zI (d : Int))], [zI (V idx), zR (c 0), zR (a 2), zR (e 0)], ((tW a (FA K S V F (idx + 1)) B K S V) ++ (cW c G CN NM MK TP PP CO KN) ++ (eW e (zup E 5 ((E 5) + 1)) E1 E2 E3 E4)))) rfl trivial ?_
                    refine zg_callV pok2 EWX_ok X 14 (vas := [zR (a 2), zR (c 0), zI (V idx)]) (vr := []) (Y1 := ((tW a (FA K S V F (idx + 1)) B K S V) ++ (cW c G CN NM MK TP PP CO KN) ++ (eW e (zup E 5 ((E 5) + 1)) E1 E2 E3 E4))) (Y2 := []) rfl rfl (Or.inl rfl) zj_X8_readPlain rfl rfl rfl rfl (Nat.le_of_ble_eq_true rfl) rfl (zm_readPlain (w9 := V idx) (idx := (idx + 1)) (E := (zup E 5 ((E 5) + 1))) (by omega) ⟨hF6, hF1a, hF1b, hTs, hTk⟩ ip1 hI9 (show 0 ≤ E 4 ∧ E 4 ≤ 40 by omega)) ⟨by show 2 + 1 ≤ f9; omega, by show 8 + (5 + 11) + 47 ≤ lo9; omega, by show 0 + 0 ≤ 0; omega, by show 0 + 0 ≤ 0; omega⟩ (fun z9 Y9 hz => ?_)
                    obtain ⟨rfl, F7c, E7c, Lc, Mc, Nc, Oc, rfl, h5l, hE4, hz⟩ := hz
                    have h5l : E7c 5 = (E 5) + 1 := h5l
                    rcases hz with ⟨z0, hfe, hbl⟩ | ⟨z0, hfd⟩
                    · subst hfe
                      refine zg_retv X hR rfl rfl (Nat.zero_le _) (Nat.zero_le _) ?_
                      exact ⟨rfl, ((0, (pLeaf K V CN NM (V idx) (idx + 1)).2, o + 1) : SR), 1, _, _, _, _, _, _, fun T => by rw [sP_one, if_neg (by omega), if_neg (by omega), if_neg (by omega), if_neg (by omega), sLeaf_p, if_pos z0], show ¬ (0 : Int) = 99 by decide, Or.inl ⟨rfl, rfl, hbl, by show E7c 5 = ((o + 1 : Nat) : Int); omega, Nat.lt_succ_self o, by show o + 1 ≤ 20; omega⟩, by show 0 ≤ E7c 5 ∧ E7c 5 ≤ 20; omega, by show 0 ≤ E7c 4 ∧ E7c 4 ≤ 40; omega, rfl⟩
                    · refine zg_retv X hR rfl rfl (Nat.zero_le _) (Nat.zero_le _) ?_
                      have hpl : ¬ (pLeaf K V CN NM (V idx) (idx + 1)).1 = 99 := by
                        unfold pLeaf tdF nmF
                        repeat (first | (show ¬ (0 : Int) = 99; decide) | (show ¬ (1 : Int) = 99; decide) | (show ¬ (2 : Int) = 99; decide) | (show ¬ (3 : Int) = 99; decide) | split)
                      exact ⟨rfl, (((pLeaf K V CN NM (V idx) (idx + 1)).1, (pLeaf K V CN NM (V idx) (idx + 1)).2, 0) : SR), 1, _, _, _, _, _, _, fun T => by rw [sP_one, if_neg (by omega), if_neg (by omega), if_neg (by omega), if_neg (by omega), sLeaf_p, if_neg z0], hpl, Or.inr ⟨z0, hfd⟩, by show 0 ≤ E7c 5 ∧ E7c 5 ≤ 20; omega, by show 0 ≤ E7c 4 ∧ E7c 4 ≤ 40; omega, rfl⟩
                  · simp only [x_ncd] at g8
                    refine zg_blk pok2 X 6 [] (S' := (118, [(5, zI 0), (4, zI (V idx)), (0, zR (e 0)), (1, zR (a 2)), (2, zR (c 0)), (3, zI (d : Int))], [zI ((d : Int) + 1), zR (c 0), zR (a 2), zR (e 0)], ((tW a (FA K S V F (idx + 1)) B K S V) ++ (cW c G CN NM MK TP PP CO KN) ++ (eW e (zup E 5 ((E 5) + 1)) E1 E2 E3 E4)))) rfl trivial ?_
                    rw [show (d : Int) + 1 = ((d + 1 : Nat) : Int) by omega]
                    refine zg_callV pok2 EWX_ok X 14 (vas := [zR (a 2), zR (c 0), zI ((d + 1 : Nat) : Int)]) (vr := []) (Y1 := ((tW a (FA K S V F (idx + 1)) B K S V) ++ (cW c G CN NM MK TP PP CO KN) ++ (eW e (zup E 5 ((E 5) + 1)) E1 E2 E3 E4))) (Y2 := []) rfl rfl (Or.inl rfl) zj_X8_readOne rfl rfl rfl rfl (Nat.le_of_ble_eq_true rfl) rfl ((hro (by omega)) (idx + 1) (o + 1) (zup E 5 ((E 5) + 1)) E1 E2 E3 E4 ip1 (show (E 5) + 1 = _ by omega) (by omega) (show 0 ≤ E 4 ∧ E 4 ≤ 40 by omega)) ⟨by show f2 + 1 ≤ f9; omega, by show 8 + (6 + 11) + lo2 ≤ lo9; omega, by show 0 + 0 ≤ 0; omega, by show 0 + 0 ≤ 0; omega⟩ (fun z9 Y9 hz => ?_)
                    obtain ⟨rfl, R2, t2, F7c, E7c, Lc, Mc, Nc, Oc, hs2, hn2, hz, hE5, hE4, rfl⟩ := hz
                    rcases hz with ⟨z2, hfe2, hb2, hc2, hd2, hl2⟩ | ⟨z2, hfd⟩
                    · subst hfe2
                      have tp2 := hTk R2.2.1 hb2
                      refine zg_blk pok2 X 4 [] (S' := (126, [(5, zI 0), (4, zI (V idx)), (0, zR (e 0)), (1, zR (a 2)), (2, zR (c 0)), (3, zI (d : Int))], [zI 0, zI 0, zI 20, zR (e 0)], ((tW a (FA K S V F R2.2.1) B K S V) ++ (cW c G CN NM MK TP PP CO KN) ++ (eW e E7c Lc Mc Nc Oc)))) rfl trivial ?_
                      refine zg_callV pok2 EWX_ok X 14 (vas := [zI 20, zI 0, zI 0]) (vr := []) (Y1 := ((tW a (FA K S V F R2.2.1) B K S V) ++ (cW c G CN NM MK TP PP CO KN) ++ (eW e E7c Lc Mc Nc Oc))) (Y2 := []) rfl rfl (Or.inl rfl) zj_X8_add rfl rfl rfl rfl (Nat.le_of_ble_eq_true rfl) rfl (zm_add (F := (FA K S V F R2.2.1)) (E := E7c) (by first | exact hE4 | (show 0 ≤ E7c 4 ∧ E7c 4 ≤ 40; omega))) ⟨by show 0 + 1 ≤ f9; omega, by show 8 + (4 + 11) + 0 ≤ lo9; omega, by show 0 + 0 ≤ 0; omega, by show 0 + 0 ≤ 0; omega⟩ (fun z9 Y9 hz => ?_)
                      obtain ⟨rfl, E8d, Ad, Pd, Qd, rfl, h5_E8d, h4a_E8d, h4b_E8d⟩ := hz
                      have E8d5 : E8d 5 = E7c 5 := h5_E8d
                      have hE4 : 0 ≤ E8d 4 ∧ E8d 4 ≤ 40 := ⟨h4a_E8d, h4b_E8d⟩
                      have hE5 : 0 ≤ E8d 5 ∧ E8d 5 ≤ 20 := by rw [h5_E8d]; exact hE5
                      refine zg_blk pok2 X 1 [] (S' := (140, [(5, zI 0), (4, zI (V idx)), (0, zR (e 0)), (1, zR (a 2)), (2, zR (c 0)), (3, zI (d : Int))], [], ((tW a (FA K S V F R2.2.1) B K S V) ++ (cW c G CN NM MK TP PP CO KN) ++ (eW e E8d Ad Pd Qd Oc)))) rfl trivial ?_
                      refine zg_retv X hR rfl rfl (Nat.zero_le _) (Nat.zero_le _) ?_
                      exact ⟨rfl, (R2 : SR), t2 + 1, _, _, _, _, _, _, fun T => by rw [show T + (t2 + 1) = (T + t2) + 1 by omega, sP_one, if_neg (by omega), if_neg (by omega), if_neg (by omega), if_pos (by omega), hs2], hn2, Or.inl ⟨z2, rfl, hb2, by show E8d 5 = _; omega, by omega, hl2⟩, by show 0 ≤ E8d 5 ∧ E8d 5 ≤ 20; omega, by show 0 ≤ E8d 4 ∧ E8d 4 ≤ 40; omega, rfl⟩
                    · refine zg_blk pok2 X 4 [] (S' := (126, [(5, zI 0), (4, zI (V idx)), (0, zR (e 0)), (1, zR (a 2)), (2, zR (c 0)), (3, zI (d : Int))], [zI 0, zI 0, zI 20, zR (e 0)], ((tW a F7c B K S V) ++ (cW c G CN NM MK TP PP CO KN) ++ (eW e E7c Lc Mc Nc Oc)))) rfl trivial ?_
                      refine zg_callV pok2 EWX_ok X 14 (vas := [zI 20, zI 0, zI 0]) (vr := []) (Y1 := ((tW a F7c B K S V) ++ (cW c G CN NM MK TP PP CO KN) ++ (eW e E7c Lc Mc Nc Oc))) (Y2 := []) rfl rfl (Or.inl rfl) zj_X8_add rfl rfl rfl rfl (Nat.le_of_ble_eq_true rfl) rfl (zm_add (F := F7c) (E := E7c) (by first | exact hE4 | (show 0 ≤ E7c 4 ∧ E7c 4 ≤ 40; omega))) ⟨by show 0 + 1 ≤ f9; omega, by show 8 + (4 + 11) + 0 ≤ lo9; omega, by show 0 + 0 ≤ 0; omega, by show 0 + 0 ≤ 0; omega⟩ (fun z9 Y9 hz => ?_)
                      obtain ⟨rfl, E8d, Ad, Pd, Qd, rfl, h5_E8d, h4a_E8d, h4b_E8d⟩ := hz
                      have E8d5 : E8d 5 = E7c 5 := h5_E8d
                      have hE4 : 0 ≤ E8d 4 ∧ E8d 4 ≤ 40 := ⟨h4a_E8d, h4b_E8d⟩
                      have hE5 : 0 ≤ E8d 5 ∧ E8d 5 ≤ 20 := by rw [h5_E8d]; exact hE5
                      refine zg_blk pok2 X 1 [] (S' := (140, [(5, zI 0), (4, zI (V idx)), (0, zR (e 0)), (1, zR (a 2)), (2, zR (c 0)), (3, zI (d : Int))], [], ((tW a F7c B K S V) ++ (cW c G CN NM MK TP PP CO KN) ++ (eW e E8d Ad Pd Qd Oc)))) rfl trivial ?_
                      refine zg_retv X hR rfl rfl (Nat.zero_le _) (Nat.zero_le _) ?_
                      exact ⟨rfl, (R2 : SR), t2 + 1, _, _, _, _, _, _, fun T => by rw [show T + (t2 + 1) = (T + t2) + 1 by omega, sP_one, if_neg (by omega), if_neg (by omega), if_neg (by omega), if_pos (by omega), hs2], hn2, Or.inr ⟨z2, hfd⟩, by show 0 ≤ E8d 5 ∧ E8d 5 ≤ 20; omega, by show 0 ≤ E8d 4 ∧ E8d 4 ≤ 40; omega, rfl⟩
                · exact absurd (show ¬ (0 : Int) = (0 : Int) from g7) (by decide)
              · simp only [x_ncd] at g6
                refine zg_blk pok2 X 2 [] (S' := (64, [(5, zI 0), (4, zI (V idx)), (0, zR (e 0)), (1, zR (a 2)), (2, zR (c 0)), (3, zI (d : Int))], [zI 4, zR (a 2)], ((tW a (FA K S V F idx) B K S V) ++ (cW c G CN NM MK TP PP CO KN) ++ (eW e E E1 E2 E3 E4)))) rfl trivial ?_
                refine zg_callV pok2 EWX_ok X 2 (vas := [zI 4]) (vr := []) (Y1 := (tW a (FA K S V F idx) B K S V)) (Y2 := ((cW c G CN NM MK TP PP CO KN) ++ (eW e E E1 E2 E3 E4))) rfl rfl (Or.inl rfl) zj_X10_fail rfl rfl rfl rfl (Nat.le_of_ble_eq_true rfl) rfl (zm_fail (F := (FA K S V F idx)) (show -2147483648 ≤ F 6 ∧ F 6 < 2147483648 by omega)) ⟨by show 0 + 1 ≤ f9; omega, by show 8 + (2 + 11) + 0 ≤ lo9; omega, by show 0 + 0 ≤ 0; omega, by show 0 + 0 ≤ 0; omega⟩ (fun z9 Y9 hz => ?_)
                obtain ⟨rfl, rfl⟩ := hz
                have hfd := FA_fail (K := K) (S := S) (V := V) (F := F) (idx := idx) (m := 4) hF6 (by decide) (by decide)
                refine zg_retv X hR rfl rfl (Nat.zero_le _) (Nat.zero_le _) ?_
                exact ⟨rfl, ((4, idx, 0) : SR), 1, _, _, _, _, _, _, fun T => by rw [sP_one, if_neg (by omega), if_pos (by omega)], show ¬ (4 : Int) = 99 by decide, Or.inr ⟨show ¬ (4 : Int) = 0 by decide, hfd⟩, by show 0 ≤ E 5 ∧ E 5 ≤ 20; omega, by show 0 ≤ E 4 ∧ E 4 ≤ 40; omega, rfl⟩
          · simp only [x_ncd] at g4
            refine zg_blk pok2 X 2 [] (S' := (43, [(5, zI 0), (4, zI (V idx)), (0, zR (e 0)), (1, zR (a 2)), (2, zR (c 0)), (3, zI (d : Int))], [zI 1, zR (a 2)], ((tW a (FA K S V F idx) B K S V) ++ (cW c G CN NM MK TP PP CO KN) ++ (eW e E E1 E2 E3 E4)))) rfl trivial ?_
            refine zg_callV pok2 EWX_ok X 2 (vas := [zI 1]) (vr := []) (Y1 := (tW a (FA K S V F idx) B K S V)) (Y2 := ((cW c G CN NM MK TP PP CO KN) ++ (eW e E E1 E2 E3 E4))) rfl rfl (Or.inl rfl) zj_X10_fail rfl rfl rfl rfl (Nat.le_of_ble_eq_true rfl) rfl (zm_fail (F := (FA K S V F idx)) (show -2147483648 ≤ F 6 ∧ F 6 < 2147483648 by omega)) ⟨by show 0 + 1 ≤ f9; omega, by show 8 + (2 + 11) + 0 ≤ lo9; omega, by show 0 + 0 ≤ 0; omega, by show 0 + 0 ≤ 0; omega⟩ (fun z9 Y9 hz => ?_)
            obtain ⟨rfl, rfl⟩ := hz
            have hfd := FA_fail (K := K) (S := S) (V := V) (F := F) (idx := idx) (m := 1) hF6 (by decide) (by decide)
            refine zg_retv X hR rfl rfl (Nat.zero_le _) (Nat.zero_le _) ?_
            exact ⟨rfl, ((1, idx, 0) : SR), 1, _, _, _, _, _, _, fun T => by rw [sP_one, if_pos (by omega)], show ¬ (1 : Int) = 99 by decide, Or.inr ⟨show ¬ (1 : Int) = 0 by decide, hfd⟩, by show 0 ≤ E 5 ∧ E 5 ≤ 20; omega, by show 0 ≤ E 4 ∧ E 4 ≤ 40; omega, rfl⟩
    · simp only [x_ncd] at g1
      refine zg_blk pok2 X 4 [] (S' := (24, [(5, zI 1), (4, zI (V idx)), (0, zR (e 0)), (1, zR (a 2)), (2, zR (c 0)), (3, zI (d : Int))], [zI 1], ((tW a (FA K S V F idx) B K S V) ++ (cW c G CN NM MK TP PP CO KN) ++ (eW e E E1 E2 E3 E4)))) rfl trivial ?_
      refine zg_if X 47 rfl rfl (by unfold zin; omega) (fun g9 => ?_) (fun g9 => ?_)
      · simp only [x_cnd] at g9
        refine zg_blk pok2 X 3 [14] (S' := (53, [(5, zI 1), (4, zI (V idx)), (0, zR (e 0)), (1, zR (a 2)), (2, zR (c 0)), (3, zI (d : Int))], [zI 20, zI (E 5)], ((tW a (FA K S V F idx) B K S V) ++ (cW c G CN NM MK TP PP CO KN) ++ (eW e E E1 E2 E3 E4)))) rfl ⟨rfl, trivial⟩ ?_
        refine zg_icmp X 62 rfl rfl (by unfold zin; omega) (by unfold zin; omega) (fun g10 => ?_) (fun g10 => ?_)
        · simp only [x_cnd] at g10
          refine zg_blk pok2 X 2 [] (S' := (64, [(5, zI 1), (4, zI (V idx)), (0, zR (e 0)), (1, zR (a 2)), (2, zR (c 0)), (3, zI (d : Int))], [zI 4, zR (a 2)], ((tW a (FA K S V F idx) B K S V) ++ (cW c G CN NM MK TP PP CO KN) ++ (eW e E E1 E2 E3 E4)))) rfl trivial ?_
          refine zg_callV pok2 EWX_ok X 2 (vas := [zI 4]) (vr := []) (Y1 := (tW a (FA K S V F idx) B K S V)) (Y2 := ((cW c G CN NM MK TP PP CO KN) ++ (eW e E E1 E2 E3 E4))) rfl rfl (Or.inl rfl) zj_X10_fail rfl rfl rfl rfl (Nat.le_of_ble_eq_true rfl) rfl (zm_fail (F := (FA K S V F idx)) (show -2147483648 ≤ F 6 ∧ F 6 < 2147483648 by omega)) ⟨by show 0 + 1 ≤ f9; omega, by show 8 + (2 + 11) + 0 ≤ lo9; omega, by show 0 + 0 ≤ 0; omega, by show 0 + 0 ≤ 0; omega⟩ (fun z9 Y9 hz => ?_)
          obtain ⟨rfl, rfl⟩ := hz
          have hfd := FA_fail (K := K) (S := S) (V := V) (F := F) (idx := idx) (m := 4) hF6 (by decide) (by decide)
          refine zg_retv X hR rfl rfl (Nat.zero_le _) (Nat.zero_le _) ?_
          exact ⟨rfl, ((4, idx, 0) : SR), 1, _, _, _, _, _, _, fun T => by rw [sP_one, if_neg (by omega), if_pos (by omega)], show ¬ (4 : Int) = 99 by decide, Or.inr ⟨show ¬ (4 : Int) = 0 by decide, hfd⟩, by show 0 ≤ E 5 ∧ E 5 ≤ 20; omega, by show 0 ≤ E 4 ∧ E 4 ≤ 40; omega, rfl⟩
        · simp only [x_ncd] at g10
          refine zg_blk pok2 X 2 [] (S' := (59, [(5, zI 1), (4, zI (V idx)), (0, zR (e 0)), (1, zR (a 2)), (2, zR (c 0)), (3, zI (d : Int))], [zI 8, zI (d : Int)], ((tW a (FA K S V F idx) B K S V) ++ (cW c G CN NM MK TP PP CO KN) ++ (eW e E E1 E2 E3 E4)))) rfl trivial ?_
          refine zg_icmp X 68 rfl rfl (by unfold zin; omega) (by unfold zin; omega) (fun g11 => ?_) (fun g11 => ?_)
          · simp only [x_cnd] at g11
            refine zg_blk pok2 X 7 [14, 14] (S' := (79, [(5, zI 1), (4, zI (V idx)), (0, zR (e 0)), (1, zR (a 2)), (2, zR (c 0)), (3, zI (d : Int))], [zR (a 2)], ((tW a (FA K S V F idx) B K S V) ++ (cW c G CN NM MK TP PP CO KN) ++ (eW e (zup E 5 ((E 5) + 1)) E1 E2 E3 E4)))) rfl ⟨rfl, rfl, rfl, rfl, trivial⟩ ?_
            refine zg_callV pok2 EWX_ok X 2 (vas := []) (vr := []) (Y1 := (tW a (FA K S V F idx) B K S V)) (Y2 := ((cW c G CN NM MK TP PP CO KN) ++ (eW e (zup E 5 ((E 5) + 1)) E1 E2 E3 E4))) rfl rfl (Or.inl rfl) zj_X10_step rfl rfl rfl rfl (Nat.le_of_ble_eq_true rfl) rfl (zm_step (F := (FA K S V F idx)) (show F 1 ≤ 941 by omega) (show -1 ≤ ((idx : Nat) : Int) ∧ ((idx : Nat) : Int) < 941 by omega) (show -2147483648 ≤ F 6 ∧ F 6 < 2147483648 by omega) (show 0 ≤ F 1 by omega)) ⟨by show 0 + 1 ≤ f9; omega, by show 8 + (1 + 11) + 0 ≤ lo9; omega, by show 0 + 0 ≤ 0; omega, by show 0 + 0 ≤ 0; omega⟩ (fun z9 Y9 hz => ?_)
            obtain ⟨rfl, rfl⟩ := hz
            have ip1 : (((idx + 1) : Nat) : Int) < F 1 := by
              have h9 := hTs idx hi (by omega) (by omega)
              omega
            have tp1 := hTk (idx + 1) ip1
            rw [FA_step (idx := idx) hF6 (by omega)]
            refine zg_cv (S2 := (82, [(5, zI 1), (4, zI (V idx)), (0, zR (e 0)), (1, zR (a 2)), (2, zR (c 0)), (3, zI (d : Int))], [], ((tW a (FA K S V F (idx + 1)) B K S V) ++ (cW c G CN NM MK TP PP CO KN) ++ (eW e (zup E 5 ((E 5) + 1)) E1 E2 E3 E4)))) rfl ?_
            refine zg_blk pok2 X 1 [] (S' := (84, [(5, zI 1), (4, zI (V idx)), (0, zR (e 0)), (1, zR (a 2)), (2, zR (c 0)), (3, zI (d : Int))], [zI 1], ((tW a (FA K S V F (idx + 1)) B K S V) ++ (cW c G CN NM MK TP PP CO KN) ++ (eW e (zup E 5 ((E 5) + 1)) E1 E2 E3 E4)))) rfl trivial ?_
            refine zg_if X 105 rfl rfl (by unfold zin; omega) (fun g12 => ?_) (fun g12 => ?_)
            · exact absurd (show (1 : Int) = (0 : Int) from g12) (by decide)
            · simp only [x_ncd] at g12
              refine zg_blk pok2 X 6 [] (S' := (93, [(5, zI 1), (4, zI (V idx)), (0, zR (e 0)), (1, zR (a 2)), (2, zR (c 0)), (3, zI (d : Int))], [zI ((d : Int) + 1), zR (c 0), zR (a 2), zR (e 0)], ((tW a (FA K S V F (idx + 1)) B K S V) ++ (cW c G CN NM MK TP PP CO KN) ++ (eW e (zup E 5 ((E 5) + 1)) E1 E2 E3 E4)))) rfl trivial ?_
              have hop : K idx = 40 := by omega
              rw [show (d : Int) + 1 = ((d + 1 : Nat) : Int) by omega]
              refine zg_callV pok2 EWX_ok X 14 (vas := [zR (a 2), zR (c 0), zI ((d + 1 : Nat) : Int)]) (vr := []) (Y1 := ((tW a (FA K S V F (idx + 1)) B K S V) ++ (cW c G CN NM MK TP PP CO KN) ++ (eW e (zup E 5 ((E 5) + 1)) E1 E2 E3 E4))) (Y2 := []) rfl rfl (Or.inl rfl) zj_X8_readCondition rfl rfl rfl rfl (Nat.le_of_ble_eq_true rfl) rfl ((hrc (by omega)) (idx + 1) (o + 1) (zup E 5 ((E 5) + 1)) E1 E2 E3 E4 ip1 (show (E 5) + 1 = _ by omega) (by omega) (show 0 ≤ E 4 ∧ E 4 ≤ 40 by omega)) ⟨by show f + 1 ≤ f9; omega, by show 8 + (5 + 11) + lo ≤ lo9; omega, by show 0 + 0 ≤ 0; omega, by show 0 + 0 ≤ 0; omega⟩ (fun z9 Y9 hz => ?_)
              obtain ⟨rfl, R2, t2, F7c, E7c, Lc, Mc, Nc, Oc, hs2, hn2, hz, hE5, hE4, rfl⟩ := hz
              rcases hz with ⟨z2, hfe2, hb2, hc2, hd2, hl2⟩ | ⟨z2, hfd⟩
              · subst hfe2
                have tp2 := hTk R2.2.1 hb2
                refine zg_blk pok2 X 2 [] (S' := (99, [(5, zI 1), (4, zI (V idx)), (0, zR (e 0)), (1, zR (a 2)), (2, zR (c 0)), (3, zI (d : Int))], [zI 41, zR (a 2)], ((tW a (FA K S V F R2.2.1) B K S V) ++ (cW c G CN NM MK TP PP CO KN) ++ (eW e E7c Lc Mc Nc Oc)))) rfl trivial ?_
                refine zg_callV pok2 EWX_ok X 2 (vas := [zI 41]) (vr := []) (Y1 := (tW a (FA K S V F R2.2.1) B K S V)) (Y2 := ((cW c G CN NM MK TP PP CO KN) ++ (eW e E7c Lc Mc Nc Oc))) rfl rfl (Or.inl rfl) zj_X10_takeSign rfl rfl rfl rfl (Nat.le_of_ble_eq_true rfl) rfl (zm_takeSignA (z1 := 41) (idx := R2.2.1) (by omega) ⟨hF6, hF1a, hF1b, hTs, hTk⟩ hb2) ⟨by show 1 + 1 ≤ f9; omega, by show 8 + (2 + 11) + 21 ≤ lo9; omega, by show 0 + 0 ≤ 0; omega, by show 0 + 0 ≤ 0; omega⟩ (fun z9 Y9 hz => ?_)
                rcases hz with ⟨rfl, ⟨hsg, rfl⟩ | ⟨hsg, F8d, hfd, rfl⟩⟩
                · have ip4 : (((R2.2.1 + 1) : Nat) : Int) < F 1 := by
                    have h9 := hTs R2.2.1 hb2 (by omega) (by omega)
                    omega
                  have tp4 := hTk (R2.2.1 + 1) ip4
                  refine zg_blk pok2 X 1 [] (S' := (140, [(5, zI 1), (4, zI (V idx)), (0, zR (e 0)), (1, zR (a 2)), (2, zR (c 0)), (3, zI (d : Int))], [], ((tW a (FA K S V F (R2.2.1 + 1)) B K S V) ++ (cW c G CN NM MK TP PP CO KN) ++ (eW e E7c Lc Mc Nc Oc)))) rfl trivial ?_
                  refine zg_retv X hR rfl rfl (Nat.zero_le _) (Nat.zero_le _) ?_
                  exact ⟨rfl, ((0, R2.2.1 + 1, R2.2.2) : SR), t2 + 1, _, _, _, _, _, _, fun T => by rw [show T + (t2 + 1) = (T + t2) + 1 by omega, sP_one, if_neg (by omega), if_neg (by omega), if_pos hop, hs2, if_pos z2, if_pos hsg], show ¬ (0 : Int) = 99 by decide, Or.inl ⟨rfl, rfl, ip4, by show E7c 5 = _; omega, by show o < R2.2.2; omega, hl2⟩, by show 0 ≤ E7c 5 ∧ E7c 5 ≤ 20; omega, by show 0 ≤ E7c 4 ∧ E7c 4 ≤ 40; omega, rfl⟩
                · refine zg_blk pok2 X 1 [] (S' := (140, [(5, zI 1), (4, zI (V idx)), (0, zR (e 0)), (1, zR (a 2)), (2, zR (c 0)), (3, zI (d : Int))], [], ((tW a F8d B K S V) ++ (cW c G CN NM MK TP PP CO KN) ++ (eW e E7c Lc Mc Nc Oc)))) rfl trivial ?_
                  refine zg_retv X hR rfl rfl (Nat.zero_le _) (Nat.zero_le _) ?_
                  exact ⟨rfl, ((1, R2.2.1, 0) : SR), t2 + 1, _, _, _, _, _, _, fun T => by rw [show T + (t2 + 1) = (T + t2) + 1 by omega, sP_one, if_neg (by omega), if_neg (by omega), if_pos hop, hs2, if_pos z2, if_neg hsg], show ¬ (1 : Int) = 99 by decide, Or.inr ⟨show ¬ (1 : Int) = 0 by decide, hfd⟩, by show 0 ≤ E7c 5 ∧ E7c 5 ≤ 20; omega, by show 0 ≤ E7c 4 ∧ E7c 4 ≤ 40; omega, rfl⟩
              · refine zg_blk pok2 X 2 [] (S' := (99, [(5, zI 1), (4, zI (V idx)), (0, zR (e 0)), (1, zR (a 2)), (2, zR (c 0)), (3, zI (d : Int))], [zI 41, zR (a 2)], ((tW a F7c B K S V) ++ (cW c G CN NM MK TP PP CO KN) ++ (eW e E7c Lc Mc Nc Oc)))) rfl trivial ?_
                refine zg_callV pok2 EWX_ok X 2 (vas := [zI 41]) (vr := []) (Y1 := (tW a F7c B K S V)) (Y2 := ((cW c G CN NM MK TP PP CO KN) ++ (eW e E7c Lc Mc Nc Oc))) rfl rfl (Or.inl rfl) zj_X10_takeSign rfl rfl rfl rfl (Nat.le_of_ble_eq_true rfl) rfl (zm_takeSignX (z1 := 41) hfd (by omega)) ⟨by show 1 + 1 ≤ f9; omega, by show 8 + (2 + 11) + 21 ≤ lo9; omega, by show 0 + 0 ≤ 0; omega, by show 0 + 0 ≤ 0; omega⟩ (fun z9 Y9 hz => ?_)
                obtain ⟨rfl, F8d, hfd, rfl⟩ := hz
                refine zg_blk pok2 X 1 [] (S' := (140, [(5, zI 1), (4, zI (V idx)), (0, zR (e 0)), (1, zR (a 2)), (2, zR (c 0)), (3, zI (d : Int))], [], ((tW a F8d B K S V) ++ (cW c G CN NM MK TP PP CO KN) ++ (eW e E7c Lc Mc Nc Oc)))) rfl trivial ?_
                refine zg_retv X hR rfl rfl (Nat.zero_le _) (Nat.zero_le _) ?_
                exact ⟨rfl, ((R2.1, R2.2.1, 0) : SR), t2 + 1, _, _, _, _, _, _, fun T => by rw [show T + (t2 + 1) = (T + t2) + 1 by omega, sP_one, if_neg (by omega), if_neg (by omega), if_pos hop, hs2, if_neg z2], hn2, Or.inr ⟨z2, hfd⟩, by show 0 ≤ E7c 5 ∧ E7c 5 ≤ 20; omega, by show 0 ≤ E7c 4 ∧ E7c 4 ≤ 40; omega, rfl⟩
          · simp only [x_ncd] at g11
            refine zg_blk pok2 X 2 [] (S' := (64, [(5, zI 1), (4, zI (V idx)), (0, zR (e 0)), (1, zR (a 2)), (2, zR (c 0)), (3, zI (d : Int))], [zI 4, zR (a 2)], ((tW a (FA K S V F idx) B K S V) ++ (cW c G CN NM MK TP PP CO KN) ++ (eW e E E1 E2 E3 E4)))) rfl trivial ?_
            refine zg_callV pok2 EWX_ok X 2 (vas := [zI 4]) (vr := []) (Y1 := (tW a (FA K S V F idx) B K S V)) (Y2 := ((cW c G CN NM MK TP PP CO KN) ++ (eW e E E1 E2 E3 E4))) rfl rfl (Or.inl rfl) zj_X10_fail rfl rfl rfl rfl (Nat.le_of_ble_eq_true rfl) rfl (zm_fail (F := (FA K S V F idx)) (show -2147483648 ≤ F 6 ∧ F 6 < 2147483648 by omega)) ⟨by show 0 + 1 ≤ f9; omega, by show 8 + (2 + 11) + 0 ≤ lo9; omega, by show 0 + 0 ≤ 0; omega, by show 0 + 0 ≤ 0; omega⟩ (fun z9 Y9 hz => ?_)
            obtain ⟨rfl, rfl⟩ := hz
            have hfd := FA_fail (K := K) (S := S) (V := V) (F := F) (idx := idx) (m := 4) hF6 (by decide) (by decide)
            refine zg_retv X hR rfl rfl (Nat.zero_le _) (Nat.zero_le _) ?_
            exact ⟨rfl, ((4, idx, 0) : SR), 1, _, _, _, _, _, _, fun T => by rw [sP_one, if_neg (by omega), if_pos (by omega)], show ¬ (4 : Int) = 99 by decide, Or.inr ⟨show ¬ (4 : Int) = 0 by decide, hfd⟩, by show 0 ≤ E 5 ∧ E 5 ≤ 20; omega, by show 0 ≤ E 4 ∧ E 4 ≤ 40; omega, rfl⟩
      · exact absurd (show (1 : Int) = (0 : Int) from g9) (by decide)
  · refine zg_blk pok2 X 4 [2] (S' := (12, [(4, zI (-1)), (0, zR (e 0)), (1, zR (a 2)), (2, zR (c 0)), (3, zI (d : Int))], [zI 40, zI (K idx)], ((tW a (FA K S V F idx) B K S V) ++ (cW c G CN NM MK TP PP CO KN) ++ (eW e E E1 E2 E3 E4)))) rfl ⟨rfl, trivial⟩ ?_
    refine zg_icmp X 19 rfl rfl (by unfold zin; omega) (by unfold zin; omega) (fun g13 => ?_) (fun g13 => ?_)
    · simp only [x_cnd] at g13
      refine zg_blk pok2 X 3 [] (S' := (24, [(5, zI 0), (4, zI (-1)), (0, zR (e 0)), (1, zR (a 2)), (2, zR (c 0)), (3, zI (d : Int))], [zI 0], ((tW a (FA K S V F idx) B K S V) ++ (cW c G CN NM MK TP PP CO KN) ++ (eW e E E1 E2 E3 E4)))) rfl trivial ?_
      refine zg_if X 47 rfl rfl (by unfold zin; omega) (fun g14 => ?_) (fun g14 => ?_)
      · exact absurd (show ¬ (0 : Int) = (0 : Int) from g14) (by decide)
      · simp only [x_ncd] at g14
        refine zg_blk pok2 X 2 [] (S' := (31, [(5, zI 0), (4, zI (-1)), (0, zR (e 0)), (1, zR (a 2)), (2, zR (c 0)), (3, zI (d : Int))], [zI 20, zI (-1)], ((tW a (FA K S V F idx) B K S V) ++ (cW c G CN NM MK TP PP CO KN) ++ (eW e E E1 E2 E3 E4)))) rfl trivial ?_
        refine zg_icmp X 41 rfl rfl (by unfold zin; omega) (by unfold zin; omega) (fun g15 => ?_) (fun g15 => ?_)
        · simp only [x_cnd] at g15
          refine zg_blk pok2 X 2 [] (S' := (43, [(5, zI 0), (4, zI (-1)), (0, zR (e 0)), (1, zR (a 2)), (2, zR (c 0)), (3, zI (d : Int))], [zI 1, zR (a 2)], ((tW a (FA K S V F idx) B K S V) ++ (cW c G CN NM MK TP PP CO KN) ++ (eW e E E1 E2 E3 E4)))) rfl trivial ?_
          refine zg_callV pok2 EWX_ok X 2 (vas := [zI 1]) (vr := []) (Y1 := (tW a (FA K S V F idx) B K S V)) (Y2 := ((cW c G CN NM MK TP PP CO KN) ++ (eW e E E1 E2 E3 E4))) rfl rfl (Or.inl rfl) zj_X10_fail rfl rfl rfl rfl (Nat.le_of_ble_eq_true rfl) rfl (zm_fail (F := (FA K S V F idx)) (show -2147483648 ≤ F 6 ∧ F 6 < 2147483648 by omega)) ⟨by show 0 + 1 ≤ f9; omega, by show 8 + (2 + 11) + 0 ≤ lo9; omega, by show 0 + 0 ≤ 0; omega, by show 0 + 0 ≤ 0; omega⟩ (fun z9 Y9 hz => ?_)
          obtain ⟨rfl, rfl⟩ := hz
          have hfd := FA_fail (K := K) (S := S) (V := V) (F := F) (idx := idx) (m := 1) hF6 (by decide) (by decide)
          refine zg_retv X hR rfl rfl (Nat.zero_le _) (Nat.zero_le _) ?_
          exact ⟨rfl, ((1, idx, 0) : SR), 1, _, _, _, _, _, _, fun T => by rw [sP_one, if_pos (by omega)], show ¬ (1 : Int) = 99 by decide, Or.inr ⟨show ¬ (1 : Int) = 0 by decide, hfd⟩, by show 0 ≤ E 5 ∧ E 5 ≤ 20; omega, by show 0 ≤ E 4 ∧ E 4 ≤ 40; omega, rfl⟩
        · exact absurd (show (20 : Int) ≤ (-1 : Int) from g15) (by decide)
    · simp only [x_ncd] at g13
      refine zg_blk pok2 X 4 [] (S' := (24, [(5, zI 1), (4, zI (-1)), (0, zR (e 0)), (1, zR (a 2)), (2, zR (c 0)), (3, zI (d : Int))], [zI 1], ((tW a (FA K S V F idx) B K S V) ++ (cW c G CN NM MK TP PP CO KN) ++ (eW e E E1 E2 E3 E4)))) rfl trivial ?_
      refine zg_if X 47 rfl rfl (by unfold zin; omega) (fun g16 => ?_) (fun g16 => ?_)
      · simp only [x_cnd] at g16
        refine zg_blk pok2 X 3 [14] (S' := (53, [(5, zI 1), (4, zI (-1)), (0, zR (e 0)), (1, zR (a 2)), (2, zR (c 0)), (3, zI (d : Int))], [zI 20, zI (E 5)], ((tW a (FA K S V F idx) B K S V) ++ (cW c G CN NM MK TP PP CO KN) ++ (eW e E E1 E2 E3 E4)))) rfl ⟨rfl, trivial⟩ ?_
        refine zg_icmp X 62 rfl rfl (by unfold zin; omega) (by unfold zin; omega) (fun g17 => ?_) (fun g17 => ?_)
        · simp only [x_cnd] at g17
          refine zg_blk pok2 X 2 [] (S' := (64, [(5, zI 1), (4, zI (-1)), (0, zR (e 0)), (1, zR (a 2)), (2, zR (c 0)), (3, zI (d : Int))], [zI 4, zR (a 2)], ((tW a (FA K S V F idx) B K S V) ++ (cW c G CN NM MK TP PP CO KN) ++ (eW e E E1 E2 E3 E4)))) rfl trivial ?_
          refine zg_callV pok2 EWX_ok X 2 (vas := [zI 4]) (vr := []) (Y1 := (tW a (FA K S V F idx) B K S V)) (Y2 := ((cW c G CN NM MK TP PP CO KN) ++ (eW e E E1 E2 E3 E4))) rfl rfl (Or.inl rfl) zj_X10_fail rfl rfl rfl rfl (Nat.le_of_ble_eq_true rfl) rfl (zm_fail (F := (FA K S V F idx)) (show -2147483648 ≤ F 6 ∧ F 6 < 2147483648 by omega)) ⟨by show 0 + 1 ≤ f9; omega, by show 8 + (2 + 11) + 0 ≤ lo9; omega, by show 0 + 0 ≤ 0; omega, by show 0 + 0 ≤ 0; omega⟩ (fun z9 Y9 hz => ?_)
          obtain ⟨rfl, rfl⟩ := hz
          have hfd := FA_fail (K := K) (S := S) (V := V) (F := F) (idx := idx) (m := 4) hF6 (by decide) (by decide)
          refine zg_retv X hR rfl rfl (Nat.zero_le _) (Nat.zero_le _) ?_
          exact ⟨rfl, ((4, idx, 0) : SR), 1, _, _, _, _, _, _, fun T => by rw [sP_one, if_neg (by omega), if_pos (by omega)], show ¬ (4 : Int) = 99 by decide, Or.inr ⟨show ¬ (4 : Int) = 0 by decide, hfd⟩, by show 0 ≤ E 5 ∧ E 5 ≤ 20; omega, by show 0 ≤ E 4 ∧ E 4 ≤ 40; omega, rfl⟩
        · simp only [x_ncd] at g17
          refine zg_blk pok2 X 2 [] (S' := (59, [(5, zI 1), (4, zI (-1)), (0, zR (e 0)), (1, zR (a 2)), (2, zR (c 0)), (3, zI (d : Int))], [zI 8, zI (d : Int)], ((tW a (FA K S V F idx) B K S V) ++ (cW c G CN NM MK TP PP CO KN) ++ (eW e E E1 E2 E3 E4)))) rfl trivial ?_
          refine zg_icmp X 68 rfl rfl (by unfold zin; omega) (by unfold zin; omega) (fun g18 => ?_) (fun g18 => ?_)
          · simp only [x_cnd] at g18
            refine zg_blk pok2 X 7 [14, 14] (S' := (79, [(5, zI 1), (4, zI (-1)), (0, zR (e 0)), (1, zR (a 2)), (2, zR (c 0)), (3, zI (d : Int))], [zR (a 2)], ((tW a (FA K S V F idx) B K S V) ++ (cW c G CN NM MK TP PP CO KN) ++ (eW e (zup E 5 ((E 5) + 1)) E1 E2 E3 E4)))) rfl ⟨rfl, rfl, rfl, rfl, trivial⟩ ?_
            refine zg_callV pok2 EWX_ok X 2 (vas := []) (vr := []) (Y1 := (tW a (FA K S V F idx) B K S V)) (Y2 := ((cW c G CN NM MK TP PP CO KN) ++ (eW e (zup E 5 ((E 5) + 1)) E1 E2 E3 E4))) rfl rfl (Or.inl rfl) zj_X10_step rfl rfl rfl rfl (Nat.le_of_ble_eq_true rfl) rfl (zm_step (F := (FA K S V F idx)) (show F 1 ≤ 941 by omega) (show -1 ≤ ((idx : Nat) : Int) ∧ ((idx : Nat) : Int) < 941 by omega) (show -2147483648 ≤ F 6 ∧ F 6 < 2147483648 by omega) (show 0 ≤ F 1 by omega)) ⟨by show 0 + 1 ≤ f9; omega, by show 8 + (1 + 11) + 0 ≤ lo9; omega, by show 0 + 0 ≤ 0; omega, by show 0 + 0 ≤ 0; omega⟩ (fun z9 Y9 hz => ?_)
            obtain ⟨rfl, rfl⟩ := hz
            have ip1 : (((idx + 1) : Nat) : Int) < F 1 := by
              have h9 := hTs idx hi (by omega) (by omega)
              omega
            have tp1 := hTk (idx + 1) ip1
            rw [FA_step (idx := idx) hF6 (by omega)]
            refine zg_cv (S2 := (82, [(5, zI 1), (4, zI (-1)), (0, zR (e 0)), (1, zR (a 2)), (2, zR (c 0)), (3, zI (d : Int))], [], ((tW a (FA K S V F (idx + 1)) B K S V) ++ (cW c G CN NM MK TP PP CO KN) ++ (eW e (zup E 5 ((E 5) + 1)) E1 E2 E3 E4)))) rfl ?_
            refine zg_blk pok2 X 1 [] (S' := (84, [(5, zI 1), (4, zI (-1)), (0, zR (e 0)), (1, zR (a 2)), (2, zR (c 0)), (3, zI (d : Int))], [zI 1], ((tW a (FA K S V F (idx + 1)) B K S V) ++ (cW c G CN NM MK TP PP CO KN) ++ (eW e (zup E 5 ((E 5) + 1)) E1 E2 E3 E4)))) rfl trivial ?_
            refine zg_if X 105 rfl rfl (by unfold zin; omega) (fun g19 => ?_) (fun g19 => ?_)
            · exact absurd (show (1 : Int) = (0 : Int) from g19) (by decide)
            · simp only [x_ncd] at g19
              refine zg_blk pok2 X 6 [] (S' := (93, [(5, zI 1), (4, zI (-1)), (0, zR (e 0)), (1, zR (a 2)), (2, zR (c 0)), (3, zI (d : Int))], [zI ((d : Int) + 1), zR (c 0), zR (a 2), zR (e 0)], ((tW a (FA K S V F (idx + 1)) B K S V) ++ (cW c G CN NM MK TP PP CO KN) ++ (eW e (zup E 5 ((E 5) + 1)) E1 E2 E3 E4)))) rfl trivial ?_
              have hop : K idx = 40 := by omega
              rw [show (d : Int) + 1 = ((d + 1 : Nat) : Int) by omega]
              refine zg_callV pok2 EWX_ok X 14 (vas := [zR (a 2), zR (c 0), zI ((d + 1 : Nat) : Int)]) (vr := []) (Y1 := ((tW a (FA K S V F (idx + 1)) B K S V) ++ (cW c G CN NM MK TP PP CO KN) ++ (eW e (zup E 5 ((E 5) + 1)) E1 E2 E3 E4))) (Y2 := []) rfl rfl (Or.inl rfl) zj_X8_readCondition rfl rfl rfl rfl (Nat.le_of_ble_eq_true rfl) rfl ((hrc (by omega)) (idx + 1) (o + 1) (zup E 5 ((E 5) + 1)) E1 E2 E3 E4 ip1 (show (E 5) + 1 = _ by omega) (by omega) (show 0 ≤ E 4 ∧ E 4 ≤ 40 by omega)) ⟨by show f + 1 ≤ f9; omega, by show 8 + (5 + 11) + lo ≤ lo9; omega, by show 0 + 0 ≤ 0; omega, by show 0 + 0 ≤ 0; omega⟩ (fun z9 Y9 hz => ?_)
              obtain ⟨rfl, R2, t2, F7c, E7c, Lc, Mc, Nc, Oc, hs2, hn2, hz, hE5, hE4, rfl⟩ := hz
              rcases hz with ⟨z2, hfe2, hb2, hc2, hd2, hl2⟩ | ⟨z2, hfd⟩
              · subst hfe2
                have tp2 := hTk R2.2.1 hb2
                refine zg_blk pok2 X 2 [] (S' := (99, [(5, zI 1), (4, zI (-1)), (0, zR (e 0)), (1, zR (a 2)), (2, zR (c 0)), (3, zI (d : Int))], [zI 41, zR (a 2)], ((tW a (FA K S V F R2.2.1) B K S V) ++ (cW c G CN NM MK TP PP CO KN) ++ (eW e E7c Lc Mc Nc Oc)))) rfl trivial ?_
                refine zg_callV pok2 EWX_ok X 2 (vas := [zI 41]) (vr := []) (Y1 := (tW a (FA K S V F R2.2.1) B K S V)) (Y2 := ((cW c G CN NM MK TP PP CO KN) ++ (eW e E7c Lc Mc Nc Oc))) rfl rfl (Or.inl rfl) zj_X10_takeSign rfl rfl rfl rfl (Nat.le_of_ble_eq_true rfl) rfl (zm_takeSignA (z1 := 41) (idx := R2.2.1) (by omega) ⟨hF6, hF1a, hF1b, hTs, hTk⟩ hb2) ⟨by show 1 + 1 ≤ f9; omega, by show 8 + (2 + 11) + 21 ≤ lo9; omega, by show 0 + 0 ≤ 0; omega, by show 0 + 0 ≤ 0; omega⟩ (fun z9 Y9 hz => ?_)
                rcases hz with ⟨rfl, ⟨hsg, rfl⟩ | ⟨hsg, F8d, hfd, rfl⟩⟩
                · have ip4 : (((R2.2.1 + 1) : Nat) : Int) < F 1 := by
                    have h9 := hTs R2.2.1 hb2 (by omega) (by omega)
                    omega
                  have tp4 := hTk (R2.2.1 + 1) ip4
                  refine zg_blk pok2 X 1 [] (S' := (140, [(5, zI 1), (4, zI (-1)), (0, zR (e 0)), (1, zR (a 2)), (2, zR (c 0)), (3, zI (d : Int))], [], ((tW a (FA K S V F (R2.2.1 + 1)) B K S V) ++ (cW c G CN NM MK TP PP CO KN) ++ (eW e E7c Lc Mc Nc Oc)))) rfl trivial ?_
                  refine zg_retv X hR rfl rfl (Nat.zero_le _) (Nat.zero_le _) ?_
                  exact ⟨rfl, ((0, R2.2.1 + 1, R2.2.2) : SR), t2 + 1, _, _, _, _, _, _, fun T => by rw [show T + (t2 + 1) = (T + t2) + 1 by omega, sP_one, if_neg (by omega), if_neg (by omega), if_pos hop, hs2, if_pos z2, if_pos hsg], show ¬ (0 : Int) = 99 by decide, Or.inl ⟨rfl, rfl, ip4, by show E7c 5 = _; omega, by show o < R2.2.2; omega, hl2⟩, by show 0 ≤ E7c 5 ∧ E7c 5 ≤ 20; omega, by show 0 ≤ E7c 4 ∧ E7c 4 ≤ 40; omega, rfl⟩
                · refine zg_blk pok2 X 1 [] (S' := (140, [(5, zI 1), (4, zI (-1)), (0, zR (e 0)), (1, zR (a 2)), (2, zR (c 0)), (3, zI (d : Int))], [], ((tW a F8d B K S V) ++ (cW c G CN NM MK TP PP CO KN) ++ (eW e E7c Lc Mc Nc Oc)))) rfl trivial ?_
                  refine zg_retv X hR rfl rfl (Nat.zero_le _) (Nat.zero_le _) ?_
                  exact ⟨rfl, ((1, R2.2.1, 0) : SR), t2 + 1, _, _, _, _, _, _, fun T => by rw [show T + (t2 + 1) = (T + t2) + 1 by omega, sP_one, if_neg (by omega), if_neg (by omega), if_pos hop, hs2, if_pos z2, if_neg hsg], show ¬ (1 : Int) = 99 by decide, Or.inr ⟨show ¬ (1 : Int) = 0 by decide, hfd⟩, by show 0 ≤ E7c 5 ∧ E7c 5 ≤ 20; omega, by show 0 ≤ E7c 4 ∧ E7c 4 ≤ 40; omega, rfl⟩
              · refine zg_blk pok2 X 2 [] (S' := (99, [(5, zI 1), (4, zI (-1)), (0, zR (e 0)), (1, zR (a 2)), (2, zR (c 0)), (3, zI (d : Int))], [zI 41, zR (a 2)], ((tW a F7c B K S V) ++ (cW c G CN NM MK TP PP CO KN) ++ (eW e E7c Lc Mc Nc Oc)))) rfl trivial ?_
                refine zg_callV pok2 EWX_ok X 2 (vas := [zI 41]) (vr := []) (Y1 := (tW a F7c B K S V)) (Y2 := ((cW c G CN NM MK TP PP CO KN) ++ (eW e E7c Lc Mc Nc Oc))) rfl rfl (Or.inl rfl) zj_X10_takeSign rfl rfl rfl rfl (Nat.le_of_ble_eq_true rfl) rfl (zm_takeSignX (z1 := 41) hfd (by omega)) ⟨by show 1 + 1 ≤ f9; omega, by show 8 + (2 + 11) + 21 ≤ lo9; omega, by show 0 + 0 ≤ 0; omega, by show 0 + 0 ≤ 0; omega⟩ (fun z9 Y9 hz => ?_)
                obtain ⟨rfl, F8d, hfd, rfl⟩ := hz
                refine zg_blk pok2 X 1 [] (S' := (140, [(5, zI 1), (4, zI (-1)), (0, zR (e 0)), (1, zR (a 2)), (2, zR (c 0)), (3, zI (d : Int))], [], ((tW a F8d B K S V) ++ (cW c G CN NM MK TP PP CO KN) ++ (eW e E7c Lc Mc Nc Oc)))) rfl trivial ?_
                refine zg_retv X hR rfl rfl (Nat.zero_le _) (Nat.zero_le _) ?_
                exact ⟨rfl, ((R2.1, R2.2.1, 0) : SR), t2 + 1, _, _, _, _, _, _, fun T => by rw [show T + (t2 + 1) = (T + t2) + 1 by omega, sP_one, if_neg (by omega), if_neg (by omega), if_pos hop, hs2, if_neg z2], hn2, Or.inr ⟨z2, hfd⟩, by show 0 ≤ E7c 5 ∧ E7c 5 ≤ 20; omega, by show 0 ≤ E7c 4 ∧ E7c 4 ≤ 40; omega, rfl⟩
          · simp only [x_ncd] at g18
            refine zg_blk pok2 X 2 [] (S' := (64, [(5, zI 1), (4, zI (-1)), (0, zR (e 0)), (1, zR (a 2)), (2, zR (c 0)), (3, zI (d : Int))], [zI 4, zR (a 2)], ((tW a (FA K S V F idx) B K S V) ++ (cW c G CN NM MK TP PP CO KN) ++ (eW e E E1 E2 E3 E4)))) rfl trivial ?_
            refine zg_callV pok2 EWX_ok X 2 (vas := [zI 4]) (vr := []) (Y1 := (tW a (FA K S V F idx) B K S V)) (Y2 := ((cW c G CN NM MK TP PP CO KN) ++ (eW e E E1 E2 E3 E4))) rfl rfl (Or.inl rfl) zj_X10_fail rfl rfl rfl rfl (Nat.le_of_ble_eq_true rfl) rfl (zm_fail (F := (FA K S V F idx)) (show -2147483648 ≤ F 6 ∧ F 6 < 2147483648 by omega)) ⟨by show 0 + 1 ≤ f9; omega, by show 8 + (2 + 11) + 0 ≤ lo9; omega, by show 0 + 0 ≤ 0; omega, by show 0 + 0 ≤ 0; omega⟩ (fun z9 Y9 hz => ?_)
            obtain ⟨rfl, rfl⟩ := hz
            have hfd := FA_fail (K := K) (S := S) (V := V) (F := F) (idx := idx) (m := 4) hF6 (by decide) (by decide)
            refine zg_retv X hR rfl rfl (Nat.zero_le _) (Nat.zero_le _) ?_
            exact ⟨rfl, ((4, idx, 0) : SR), 1, _, _, _, _, _, _, fun T => by rw [sP_one, if_neg (by omega), if_pos (by omega)], show ¬ (4 : Int) = 99 by decide, Or.inr ⟨show ¬ (4 : Int) = 0 by decide, hfd⟩, by show 0 ≤ E 5 ∧ E 5 ≤ 20; omega, by show 0 ≤ E 4 ∧ E 4 ≤ 40; omega, rfl⟩
      · exact absurd (show (1 : Int) = (0 : Int) from g16) (by decide)
end CD9
