/-! hooks of a book: the reading is at its end; both faults are one (written by wip/p5/mk5.py) -/
def o_has (SF : List SFt) (id : Nat) (as : List BV) : Bool := SF.any (fun f => Nat.beq f.1 id && bvs_eq f.2 as)
theorem o_has_ok {SF : List SFt} {id : Nat} {as : List BV} (h : o_has SF id as = true) : (id, as) ∈ SF := by
  obtain ⟨f, hf, h1⟩ := List.any_eq_true.mp h
  simp only [Bool.and_eq_true] at h1
  obtain ⟨i, bs⟩ := f
  have e1 := beq3 h1.1
  have e2 := bvs_eq_ok h1.2
  simp only at e1 e2
  subst e1
  subst e2
  exact hf
def o_f2 : List SFt → Nat → Option (BV × BV)
  | [], _ => none
  | (i, as) :: r, id => if Nat.beq i id = true then (match as with
    | [a, b] => some (a, b)
    | _ => none) else o_f2 r id
def o_cf (κ j : Nat) (a : BV) (q : Option BV × FS) : Option BV × FS := (q.1, (q.2.1, q.2.2.1, (κ, none, bI (j : Int), a) :: q.2.2.2.1.filter (fun c => !(Nat.beq c.1 κ && (c.2.1.isNone && bv_eq c.2.2.1 (bI (j : Int))))), q.2.2.2.2))
theorem tokM.stop {kd val : Int} {F : Nat → Int} (h : tokM kd val F) : F 11 = 0 ↔ kd = 0 := by
  rcases h with ⟨h0, h⟩ | ⟨h0, h⟩ | ⟨h0, h, -⟩ | ⟨h0, h, -⟩ | ⟨h0, h, -⟩ | ⟨h0, h1, h, -⟩ <;> omega
theorem bRun_s {K V CN NM : Nat → Int} {t n i : Nat} : bRun K V CN NM (t + 1) n i = (if K i = 0 then (0, i) else if (bLine K V CN NM t n i).1 = 0 then (if K (bLine K V CN NM t n i).2 = 59 then bRun K V CN NM t (n + 1) ((bLine K V CN NM t n i).2 + 1) else (1, (bLine K V CN NM t n i).2)) else bLine K V CN NM t n i) := rfl
section HT9
variable {cy : Nat → ClassId}
theorem HS_cf {I : IN} {ks : List Nat} {wp : va_W} {q : Option BV × FS} {κ j : Nat} {a : BV} (h : HS T2 FPX cy I ks wp q.2) (hf : hcf T2 I ks wp (κ, none, bI (j : Int), a)) : HS T2 FPX cy I ks wp (o_cf κ j a q).2 := by
  obtain ⟨h1, h2, h3, h4⟩ := h
  refine ⟨h1, h2, fun g hg => ?_, h4⟩
  rcases List.mem_cons.mp hg with rfl | hg
  · exact hf
  · exact h3 g (List.mem_filter.mp hg).1
theorem evs2 {ν : List Int} {a b : BV} {zs : List Int} (h : f_evs ν [a, b] = some zs) : ∃ x y, f_ev ν a = some x ∧ f_ev ν b = some y ∧ zs = [x, y] := by
  simp only [f_evs] at h
  cases h1 : f_ev ν a with
  | none => rw [h1] at h; simp at h
  | some x =>
    cases h2 : f_ev ν b with
    | none => rw [h1, h2] at h; simp at h
    | some y =>
      rw [h1, h2] at h
      simp only [Option.some.injEq] at h
      exact ⟨x, y, rfl, rfl, h.symm⟩
/-- the reading is at its end: both have the same fault -/
def hk_stop : HKt := fun S => match S.2.2.2.1 with
  | (n, E, CF, SF) => (match o_f2 SF 109, f_cf CF 25 none (bI 11) with
    | some (af, at_), some ak => if (o_has SF 109 [af, at_] && (f_isI ak && (h_in E (some ak) 0 0 && (f_isI af && h_in E (some af) 0 4)))) = true then some [(o_cf 25 15 af (none, (n, E, CF, SF))).2] else none
    | _, _ => none)
def hk_fe : HKt := fun S => match S.2.2.2.1 with
  | (n, E, CF, SF) => (match f_cf CF 0 none (bI 14), f_cf CF 25 none (bI 15) with
    | some a, some b => if (bv_eq a b && f_isI a) = true then some [(n, E, CF, (106, []) :: SF)] else some [(n, E, CF, SF)]
    | _, _ => some [(n, E, CF, SF)])
theorem hk_stop_ok (E109 : ∀ (cu : CUt) (zs : List Int), FPX 109 cu zs ↔ ∃ f t, zs = [f, t] ∧ f109 cu f t) : HKP T2 FPX cy hk_stop := by
  intro S L h I ks wp lv vs ha _ _ hF
  obtain ⟨pc, lo, st, ⟨n, E, CF, SF⟩, q⟩ := S
  unfold hk_stop at h
  simp only at h hF
  split at h
  · rename_i af at_ ak e1 e11
    split at h
    · rename_i q9
      simp only [Bool.and_eq_true] at q9
      obtain ⟨q1, q2, q3, q4, q5⟩ := q9
      cases h
      obtain ⟨zs, z1, z2⟩ := hF.2.2.2 _ (o_has_ok q1)
      obtain ⟨f, t, rfl, g15, g5x, kk, P, K, S9, V, CN, NM, x9, R, t0, i9, j, hT, hC, hA, hj, ht, hi, hrun, hR, hf⟩ := (E109 _ _).mp z2
      obtain ⟨f', t', w1, w2, w3⟩ := evs2 z1
      simp only [List.cons.injEq, and_true] at w3
      obtain ⟨rfl, rfl⟩ := w3
      have y11 := int_at (z := 11) hF (by decide) e11 q2
      have h11 := in_iv hF.2.1 q3 y11
      have hfr := in_iv hF.2.1 q5 w1
      have hK : K j = 0 := by
        have h9 := hA.2.1.stop
        have h8 : cR (c_cu ks wp) 11 = cint (c_cu ks wp) 25 11 := rfl
        omega
      have hr0 := hrun 1
      rw [show 1 + t0 = t0 + 1 by omega, bRun_s, if_pos hK] at hr0
      have hf0 : f = 0 := by rw [← hf, ← hr0]
      obtain ⟨d2, lo2, hi2, b1, b2, b3⟩ := t2_25f
      obtain ⟨j2, p2, f2, v2, t1, t2, t3, t4, x2, rfl, t5, t6⟩ := cell_any hF (by decide) b1 b2 b3
      have c2 : cint (c_cu ks wp) 25 15 = x2.toInt := by unfold cint; rw [t4]
      exact ⟨_, List.mem_cons_self, I, hxt.rf, rfl, HS_cf (q := (none, (n, E, CF, SF))) hF (⟨j2, p2, f2, 15, .int x2, t1, t2, (by show 25 < 51; omega), rfl, t3, (hv_ev_iff q4).mpr ⟨x2, rfl, by rw [w1]; exact congrArg some (by omega)⟩⟩)⟩
    · cases h
  · cases h
theorem hk_fe_ok : HKP T2 FPX cy hk_fe := by
  intro S L h I ks wp lv vs ha _ _ hF
  obtain ⟨pc, lo, st, ⟨n, E, CF, SF⟩, q⟩ := S
  unfold hk_fe at h
  simp only at h hF
  split at h
  · rename_i a b e1 e2
    split at h
    · rename_i q9
      simp only [Bool.and_eq_true] at q9
      obtain ⟨q1, q2⟩ := q9
      have q1 := bv_eq_ok q1
      subst q1
      cases h
      have y1 := int_at (z := 14) hF (by decide) e1 q2
      have y2 := int_at (z := 15) hF (by decide) e2 q2
      rw [y1] at y2
      exact ⟨_, List.mem_cons_self, I, hxt.rf, rfl, hs_add hF ⟨[], rfl, rfl, Option.some.inj y2⟩⟩
    · cases h
      exact ⟨_, List.mem_cons_self, I, hxt.rf, rfl, hF⟩
  · cases h
    exact ⟨_, List.mem_cons_self, I, hxt.rf, rfl, hF⟩
end HT9
