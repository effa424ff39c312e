/-! what cells hold behind a call, from an exact contract; from one fact of a book to the next -/
theorem vc9 : ∃ r, vwCl[9]? = some r ∧ r.2.2 = 11 := ⟨_, rfl, by decide⟩
theorem vc8 : ∃ r, vwCl[8]? = some r ∧ r.2.2 = 2 := ⟨_, rfl, by decide⟩
theorem vc11 : ∃ r, vwCl[11]? = some r ∧ r.2.2 = 53 := ⟨_, rfl, by decide⟩
section BA1
variable {cy : Nat → ClassId} {D : va_G} {H : Heap} {AK AK1 : List (Nat × Nat)} {ks ks1 : List Nat} {wp wp1 r9 : va_W} {wr : WR} {Y2 : ZW}
theorem txt_after {a : Nat → Nat} {F0 B K S V F9 B9 K9 S9 V9 : Nat → Int} (hp1 : hpool T2 cy AK1 ks1 wp1) (hu : Unch wr ks wp ks1 wp1) (hP1 : va_P D vwCl wp1 H) (ha : allz cy ks wp [1, 2, 3, 4, 5, 6] (tW a F0 B K S V)) (hr : va_P D vwCl (zw cy (tW a F9 B9 K9 S9 V9 ++ Y2) ++ r9) H) :
    (c_cu ks1 wp1 3 4 = some (.int (Int32.ofInt (F9 1))) ∧ c_cu ks1 wp1 3 5 = some (.int (Int32.ofInt (F9 2))) ∧ c_cu ks1 wp1 3 6 = some (.int (Int32.ofInt (F9 3))) ∧ c_cu ks1 wp1 3 7 = some (.int (Int32.ofInt (F9 4))) ∧ c_cu ks1 wp1 3 8 = some (.long (Int64.ofInt (F9 5))) ∧ c_cu ks1 wp1 3 9 = some (.int (Int32.ofInt (F9 6)))) ∧
    ∀ j, j < 941 → c_cu ks1 wp1 4 j = some (.int (Int32.ofInt (K9 j))) ∧ c_cu ks1 wp1 5 j = some (.int (Int32.ofInt (S9 j))) ∧ c_cu ks1 wp1 6 j = some (.long (Int64.ofInt (V9 j))) := by
  obtain ⟨r9, v9, n9⟩ := vc9
  have z3 := ha.2.2.1
  have z4 := ha.2.2.2.1
  have z5 := ha.2.2.2.2.1
  have z6 := ha.2.2.2.2.2.1
  refine ⟨⟨aft_ob (κ := 3) (v := zI (F9 1)) hp1 hu (by decide) hP1 rfl v9 (by omega) (by decide) z3 (hr 2 _ rfl) rfl, aft_ob (κ := 3) (v := zI (F9 2)) hp1 hu (by decide) hP1 rfl v9 (by omega) (by decide) z3 (hr 2 _ rfl) rfl, aft_ob (κ := 3) (v := zI (F9 3)) hp1 hu (by decide) hP1 rfl v9 (by omega) (by decide) z3 (hr 2 _ rfl) rfl, aft_ob (κ := 3) (v := zI (F9 4)) hp1 hu (by decide) hP1 rfl v9 (by omega) (by decide) z3 (hr 2 _ rfl) rfl, aft_ob (κ := 3) (v := zL (F9 5)) hp1 hu (by decide) hP1 rfl v9 (by omega) (by decide) z3 (hr 2 _ rfl) rfl, aft_ob (κ := 3) (v := zI (F9 6)) hp1 hu (by decide) hP1 rfl v9 (by omega) (by decide) z3 (hr 2 _ rfl) rfl⟩, fun j hj => ⟨?_, ?_, ?_⟩⟩
  · exact aft_ar (κ := 4) (t := 0) hp1 hu (by decide) hP1 rfl (by decide) hj z4 (hr 3 _ rfl)
  · exact aft_ar (κ := 5) (t := 0) hp1 hu (by decide) hP1 rfl (by decide) hj z5 (hr 4 _ rfl)
  · exact aft_al (κ := 6) hp1 hu (by decide) hP1 rfl hj z6 (hr 5 _ rfl)
theorem ref_after {m : Nat → Nat} {F9 B9 SS9 HH9 NR9 RV9 : Nat → Int} (hp1 : hpool T2 cy AK1 ks1 wp1) (hu : Unch wr ks wp ks1 wp1) (hP1 : va_P D vwCl wp1 H) {y : ZE} (ha : hasz cy ks wp 25 (m 0, y)) (hr : va_P D vwCl (zw cy (rW m F9 B9 SS9 HH9 NR9 RV9 ++ Y2) ++ r9) H) :
    c_cu ks1 wp1 25 3 = some (.int (Int32.ofInt (F9 3))) ∧ c_cu ks1 wp1 25 4 = some (.int (Int32.ofInt (F9 4))) ∧ c_cu ks1 wp1 25 5 = some (.int (Int32.ofInt (F9 5))) ∧ c_cu ks1 wp1 25 11 = some (.int (Int32.ofInt (F9 11))) ∧ c_cu ks1 wp1 25 12 = some (.int (Int32.ofInt (F9 12))) ∧ c_cu ks1 wp1 25 14 = some (.int (Int32.ofInt (F9 14))) ∧ c_cu ks1 wp1 25 15 = some (.int (Int32.ofInt (F9 15))) ∧ c_cu ks1 wp1 25 40 = some (.int (Int32.ofInt (F9 40))) ∧ c_cu ks1 wp1 25 17 = some (.long (Int64.ofInt (F9 17))) := by
  obtain ⟨r9, v9, n9⟩ := vc11
  exact ⟨aft_ob (κ := 25) (v := zI (F9 3)) hp1 hu (by decide) hP1 rfl v9 (by omega) (by decide) ha (hr 0 _ rfl) rfl, aft_ob (κ := 25) (v := zI (F9 4)) hp1 hu (by decide) hP1 rfl v9 (by omega) (by decide) ha (hr 0 _ rfl) rfl, aft_ob (κ := 25) (v := zI (F9 5)) hp1 hu (by decide) hP1 rfl v9 (by omega) (by decide) ha (hr 0 _ rfl) rfl, aft_ob (κ := 25) (v := zI (F9 11)) hp1 hu (by decide) hP1 rfl v9 (by omega) (by decide) ha (hr 0 _ rfl) rfl, aft_ob (κ := 25) (v := zI (F9 12)) hp1 hu (by decide) hP1 rfl v9 (by omega) (by decide) ha (hr 0 _ rfl) rfl, aft_ob (κ := 25) (v := zI (F9 14)) hp1 hu (by decide) hP1 rfl v9 (by omega) (by decide) ha (hr 0 _ rfl) rfl, aft_ob (κ := 25) (v := zI (F9 15)) hp1 hu (by decide) hP1 rfl v9 (by omega) (by decide) ha (hr 0 _ rfl) rfl, aft_ob (κ := 25) (v := zI (F9 40)) hp1 hu (by decide) hP1 rfl v9 (by omega) (by decide) ha (hr 0 _ rfl) rfl, aft_ob (κ := 25) (v := zL (F9 17)) hp1 hu (by decide) hP1 rfl v9 (by omega) (by decide) ha (hr 0 _ rfl) rfl⟩
end BA1
section BA2
variable {cu cu1 : CUt} {n : Int} {k : Nat} {B P F0 F9 K S V K9 S9 V9 : Nat → Int}
/-- behind open -/
theorem open_f107 (hn : 0 ≤ n ∧ n ≤ 940) (hO : OpenT (tb B n) n 400 k P K9 S9 V9) (hB : ∀ j, j < 940 → cint cu1 26 j = B j) (e1 : F9 1 = (k : Int) + 1) (e2 : F9 2 = 0) (e3 : F9 3 = K9 0) (e4 : F9 4 = S9 0) (e5 : F9 5 = V9 0) (e6 : F9 6 = 0)
    (hc : (cu1 3 4 = some (.int (Int32.ofInt (F9 1))) ∧ cu1 3 5 = some (.int (Int32.ofInt (F9 2))) ∧ cu1 3 6 = some (.int (Int32.ofInt (F9 3))) ∧ cu1 3 7 = some (.int (Int32.ofInt (F9 4))) ∧ cu1 3 8 = some (.long (Int64.ofInt (F9 5))) ∧ cu1 3 9 = some (.int (Int32.ofInt (F9 6)))) ∧ ∀ j, j < 941 → cu1 4 j = some (.int (Int32.ofInt (K9 j))) ∧ cu1 5 j = some (.int (Int32.ofInt (S9 j))) ∧ cu1 6 j = some (.long (Int64.ofInt (V9 j)))) : f107 cu1 n := by
  obtain ⟨⟨c4, c5, c6, c7, c8, c9⟩, hj⟩ := hc
  have hk := hO.2.2.2.2.1
  have tr : ∀ j, j ≤ k → 0 ≤ K9 j ∧ K9 j < 63 ∧ (K9 j = 1 ∨ K9 j = 2 ∨ K9 j = 3 → zin64 (V9 j)) ∧ (K9 j = 2 → 0 ≤ V9 j ∧ V9 j < 29) ∧ (K9 j = 3 → 0 ≤ V9 j ∧ V9 j < 1000) ∧ 0 ≤ S9 j ∧ S9 j ≤ 940 := fun j h => by
    have hp := hO.2.2.2.2.2 j h
    exact tok_rng hn ⟨by decide, by decide⟩ hp.1 hp.2 (hO.2.1 j h)
  have hb : tb (cB cu1) n = tb B n := tb_same hn.2 (fun j h => by unfold cB; rw [if_pos h]; exact hB j h)
  refine ⟨⟨k, P, ⟨hn, ?_⟩, by rw [← e1]; exact cint_of c4 ⟨by omega, by omega⟩⟩, by rw [← e2]; exact cint_of c5 ⟨by omega, by omega⟩, ?_, ?_, ?_, by rw [← e6]; exact cint_of c9 ⟨by omega, by omega⟩⟩
  · rw [hb]
    refine OpenT_val hO (fun j h => ?_) (fun j h => ?_) (fun j h hv => ?_)
    · have := tr j h
      unfold cK
      rw [if_pos (by omega)]
      exact cint_of (hj j (by omega)).1 ⟨by omega, by omega⟩
    · have := tr j h
      unfold cK
      rw [if_pos (by omega)]
      exact cint_of (hj j (by omega)).2.1 ⟨by omega, by omega⟩
    · unfold cV
      rw [if_pos (by omega)]
      exact clong_of (hj j (by omega)).2.2 ((tr j h).2.2.1 hv)
  · unfold cint
    rw [c6, (hj 0 (by decide)).1, e3]
  · unfold cint
    rw [c7, (hj 0 (by decide)).2.1, e4]
  · unfold clong
    rw [c8, (hj 0 (by decide)).2.2, e5]
/-- in front of read -/
theorem use_f107 (h : f107 cu n) (e : cint cu 3 4 = F0 1 ∧ cint cu 3 5 = F0 2 ∧ cint cu 3 6 = F0 3 ∧ cint cu 3 7 = F0 4 ∧ clong cu 3 8 = F0 5 ∧ cint cu 3 9 = F0 6) (hr : ∀ j, j < 941 → cint cu 4 j = K j ∧ cint cu 5 j = S j ∧ clong cu 6 j = V j) : ∃ (k : Nat) (P : Nat → Int), bText (cB cu) n k P K S V ∧ TT F0 K S V ∧ FA K S V F0 0 = F0 ∧ ((0 : Nat) : Int) < F0 1 := by
  obtain ⟨⟨k, P, ⟨hn, hO⟩, h4⟩, h5, h6, h7, h8, h9⟩ := h
  obtain ⟨e1, e2, e3, e4, e5, e6⟩ := e
  have hk := hO.2.2.2.2.1
  have hO' : OpenT (tb (cB cu) n) n 400 k P K S V := by
    refine OpenT_val hO (fun j hj => ?_) (fun j hj => ?_) (fun j hj _ => ?_)
    · unfold cK; rw [if_pos (by omega)]; exact (hr j (by omega)).1.symm
    · unfold cK; rw [if_pos (by omega)]; exact (hr j (by omega)).2.1.symm
    · unfold cV; rw [if_pos (by omega)]; exact (hr j (by omega)).2.2.symm
  have r0 := hr 0 (by decide)
  exact ⟨k, P, ⟨hn, hO'⟩, TT_of hn ⟨by decide, by decide⟩ hO' (by omega) (by omega), FA_self (by omega) (by rw [← e3, h6]; exact r0.1) (by rw [← e4, h7]; exact r0.2.1) (by rw [← e5, h8]; exact r0.2.2), by omega⟩
end BA2
section BA3
variable {B SS NR F F9 : Nat → Int} {n f t : Int}
/-- the first token -/
theorem b109_next (h : b108 B SS NR f n) (hrt : RTok (tb B n) n 400 0 F9) (e4 : zin (F9 4) → F 4 = F9 4) (e11 : zin (F9 11) → F 11 = F9 11) (e12 : zin (F9 12) → F 12 = F9 12) (e14 : zin (F9 14) → F 14 = F9 14) (e17 : zin64 (F9 17) → F 17 = F9 17) : b109 B SS NR F n f 0 := by
  obtain ⟨k, P, K, S, V, CN, NM, x, R, t0, hT, hC, hrun, hR, hf⟩ := h
  have hO := hT.2
  have hA : rAt P K S V F9 0 := tok_match (F := F9) (by rw [hO.1]; omega) (by rw [hO.1]; exact hT.1.1) (hO.2.1 0 (Nat.zero_le _)) (by rw [hO.1]; exact hrt)
  exact ⟨k, P, K, S, V, CN, NM, x, R, t0, 0, 0, hT, hC, rAt_wr hT (Nat.zero_le _) hA e4 e11 e12 e14 e17, Nat.zero_le _, rfl, by decide, hrun, hR, hf⟩
end BA3
