/-! hooks: lines told apart, cells told apart, bytes -/
/-- bytes known: one or two more (κ the row, id the fact) -/
def h_small (E : EB) (CF : List CFt) (κ : Nat) (p : BV) : Bool := h_in E (f_cf CF κ none p) 0 7
def h_o7 (κ id : Nat) (E : EB) (CF : List CFt) (L : List SFt) : List SFt := match L with
  | [] => []
  | f :: r => (match f.2 with
    | [m] => if (Nat.beq f.1 id && h_small E CF κ m) = true then (id, [if h_small E CF κ (f_off m 1) = true then f_off m 2 else f_off m 1]) :: h_o7 κ id E CF r else h_o7 κ id E CF r
    | _ => h_o7 κ id E CF r)
def hk_o7 (κ id : Nat) : HKt := fun S => match S.2.2.2.1 with
  | (n, E, CF, SF) => some [(n, E, CF, h_o7 κ id E CF ((id, [bI 0]) :: SF) ++ ((id, [bI 0]) :: SF))]
/-- up to a number that is not more: the cell's number and d -/
def hk_o7e (id κ k : Nat) (d : Int) : HKt := fun S => match S.2.2.2.1 with
  | (n, E, CF, SF) => (match f_cf CF κ none (bI (k : Int)) with
    | some L => if (f_isI L && SF.any (fun f => match f.2 with | [m] => Nat.beq f.1 id && g_leq E SF 6 (f_off L d) m | _ => false)) = true then some [(n, E, CF, (id, [f_off L d]) :: SF)] else some [(n, E, CF, SF)]
    | none => some [(n, E, CF, SF)])
/-- the byte at a local's place -/
def hk_o7a (κ id li : Nat) : HKt := fun S => match f_find S.2.1 li, S.2.2.2.1 with
  | some i, (n, E, CF, SF) => (match f_iv E i with
    | some (l, h) => if (decide (0 ≤ l) && (decide (h < 940) && ((f_cf CF κ none i).isNone && SF.any (fun f => match f.2 with | [m] => Nat.beq f.1 id && g_leq E SF 6 (f_off i 1) m | _ => false)))) = true then some [(n + 1, (n, 0, 7) :: E, (κ, none, i, bV n 0) :: CF, SF)] else some [(n, E, CF, SF)]
    | none => none)
  | _, _ => none
section HK3
variable {T : TBt} {cy : Nat → ClassId} {I : IN} {ks : List Nat} {wp : va_W} {F : FS}
/-- a place of a row of ints -/
theorem cell_int {κ n z t9 : Nat} {lo hi : Int} (hF : HS T FPX cy I ks wp F) (hu : κ < T.2.1) (hT : T.1[κ]? = some (.inl (t9, n, [(n, .inl (lo, hi))]))) (hz : z < n) : ∃ (i q : Nat) (e : va_E) (y : Int32), ks[i]? = some κ ∧ wp[i]? = some (q, e) ∧ cval e z = some (.int y) ∧ cint (c_cu ks wp) κ z = y.toInt ∧ lo ≤ y.toInt ∧ y.toInt ≤ hi := by
  obtain ⟨i, hi9⟩ := hF.1.2.2.2.2 κ hu
  obtain ⟨q, e, d, g1, g2, g3, -⟩ := hF.1.2.1 i κ hi9
  rw [hT] at g2
  cases g2
  obtain ⟨v, v1, y, rfl, v2, v3⟩ := g3.2 z (.inl (lo, hi)) hz (by show k_seg _ _ = _; simp only [k_seg, decide_eq_true hz, if_true])
  refine ⟨i, q, e, y, hi9, g1, v1, ?_, v2, v3⟩
  unfold cint
  rw [c_cu_one hF.1 hu hi9 g1, v1]
theorem hk_two_ok {κ k : Nat} {l1 h1 l2 h2 : Int} : HKP T FPX cy (hk_two κ k l1 h1 l2 h2) := by
  intro S L h I ks wp lv vs _ _ _ hF
  obtain ⟨pc, lo, st, ⟨n, E, CF, SF⟩, q⟩ := S
  unfold hk_two at h
  simp only at h hF
  split at h
  · rename_i v hv9
    split at h
    · rename_i a b hiv
      split at h
      · rename_i q
        simp only [Bool.and_eq_true, decide_eq_true_eq] at q
        cases h
        obtain ⟨i, q9, e, z, x, g1, g2, g3, g4, g5, g6⟩ := hF.2.2.1 _ (f_cf_in hv9)
        simp only at g6
        obtain ⟨y, rfl, y1, y2⟩ := hv_int hF.2.1 g6 hiv
        have hy := hv_ev g6
        rcases (show y.toInt ≤ h1 ∨ l2 ≤ y.toInt by omega) with hc | hc
        · obtain ⟨E1, e1, e2, -⟩ := f_clamp_ev (lo := l1) (hi := h1) hF.2.1 hy ⟨_, hiv⟩ (by omega) hc
          refine ⟨(n, E1, CF, SF), List.mem_append_left _ (List.mem_map.mpr ⟨E1, by rw [e1]; exact List.mem_cons_self, rfl⟩), I, hxt.rf, rfl, hF.1, e2, hF.2.2.1, hF.2.2.2⟩
        · obtain ⟨E1, e1, e2, -⟩ := f_clamp_ev (lo := l2) (hi := h2) hF.2.1 hy ⟨_, hiv⟩ hc (by omega)
          refine ⟨(n, E1, CF, SF), List.mem_append_right _ (List.mem_map.mpr ⟨E1, by rw [e1]; exact List.mem_cons_self, rfl⟩), I, hxt.rf, rfl, hF.1, e2, hF.2.2.1, hF.2.2.2⟩
      · cases h
    · cases h
  · cases h
/-- one value of a name added behind -/
theorem hxt_app {I : IN} (x : List Int) : hxt I (I.1 ++ x, I.2) := ⟨⟨x, rfl⟩, ⟨[], by simp⟩, rfl⟩
theorem at_app {ν x : List Int} {n k : Nat} {y : Int} (hn : ν.length = n) (h : x[k]? = some y) : (ν ++ x)[n + k]? = some y := by
  rw [List.getElem?_append_right (by omega), hn, Nat.add_sub_cancel_left]
  exact h
theorem hk_cases_ok {a0 b0 a1 b1 a2 b2 : Int} (hu : 12 < T.2.1) (h10 : T.1[10]? = some (.inl (0, 40, [(40, .inl (a0, b0))]))) (h11 : T.1[11]? = some (.inl (0, 40, [(40, .inl (a1, b1))]))) (h12 : T.1[12]? = some (.inl (0, 40, [(40, .inl (a2, b2))]))) : HKP T FPX cy hk_cases := by
  intro S L h I ks wp lv vs _ hlo _ hF
  obtain ⟨pc, lo, st, ⟨n, E, CF, SF⟩, q⟩ := S
  unfold hk_cases at h
  simp only at h hF hlo
  split at h
  · rename_i i n9 E9 CF9 SF9 hi heq
    cases heq
    split at h
    · rename_i q
      simp only [Bool.and_eq_true] at q
      obtain ⟨q1, q2⟩ := q
      cases h
      obtain ⟨k9, v, e1, g1⟩ := f_find_ok hlo hi
      simp only [h_in] at q2
      split at q2
      · rename_i l h9 hiv
        simp only [Bool.and_eq_true, decide_eq_true_eq] at q2
        obtain ⟨y, rfl, y1, y2⟩ := hv_int hF.2.1 g1 hiv
        have hy := hv_ev g1
        obtain ⟨zs, z1, z2⟩ := hF.2.2.2 _ (f_sin_ok q1)
        obtain ⟨z, rfl, hrow⟩ := z2
        simp only [f_evs, hy, ev_off hy, Option.some.injEq, List.cons.injEq, and_true] at z1
        obtain ⟨ez, -⟩ := z1
        have hz40 : z < 40 := by omega
        obtain ⟨i10, p10, c10, y10, w1, w2, w3, w4, -⟩ := cell_int hF (show 10 < T.2.1 by omega) h10 hz40
        obtain ⟨i11, p11, c11, y11, r1, r2, r3, r4, -⟩ := cell_int hF (show 11 < T.2.1 by omega) h11 hz40
        obtain ⟨i12, p12, c12, y12, s1, s2, s3, s4, -⟩ := cell_int hF hu h12 hz40
        rw [w4, r4, s4] at hrow
        obtain ⟨c, c1, c2, c3, c4⟩ := rowOK_in hrow
        have hn : I.1.length = n := hF.2.1.1
        let J : IN := (I.1 ++ [y10.toInt, y11.toInt, y12.toInt], I.2)
        have hIJ : hxt I J := hxt_app _
        have hEJ : henv J.1 (n + 3) ((n + 2, c.2.2.2.2.1, c.2.2.2.2.2) :: (n + 1, c.2.2.1, c.2.2.2.1) :: (n, c.1, c.2.1) :: E) := by
          have b1 := henv_cons hF.2.1 c2.1 c2.2
          have b2 := henv_cons b1 c3.1 c3.2
          have b3 := henv_cons b2 c4.1 c4.2
          have e9 : J.1 = I.1 ++ [y10.toInt] ++ [y11.toInt] ++ [y12.toInt] := by show I.1 ++ _ = _; simp
          rw [e9]
          exact b3
        have hF' := hF.xt hIJ rfl hEJ
        have hiz : f_ev J.1 i = some (z : Int) := by rw [← ez]; exact ev_xt hIJ hy
        refine ⟨_, List.mem_map.mpr ⟨c, c1, rfl⟩, J, hIJ, rfl, hF'.1, hF'.2.1, fun f hf => ?_, hF'.2.2.2⟩
        rcases List.mem_cons.mp hf with rfl | hf
        · exact ⟨i10, p10, c10, z, .int y10, w1, w2, (show 10 < T.2.1 by omega), hiz, w3, y10, y10.toInt, rfl, at_app (k := 0) hn rfl, by omega⟩
        · rcases List.mem_cons.mp hf with rfl | hf
          · exact ⟨i11, p11, c11, z, .int y11, r1, r2, (show 11 < T.2.1 by omega), hiz, r3, y11, y11.toInt, rfl, at_app (k := 1) hn rfl, by omega⟩
          · rcases List.mem_cons.mp hf with rfl | hf
            · exact ⟨i12, p12, c12, z, .int y12, s1, s2, hu, hiz, s3, y12, y12.toInt, rfl, at_app (k := 2) hn rfl, by omega⟩
            · exact hF'.2.2.1 f hf
      · cases q2
    · cases h
      exact ⟨_, List.mem_cons_self, I, hxt.rf, rfl, hF⟩
  · cases h
end HK3
