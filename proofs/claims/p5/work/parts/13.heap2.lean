/-! stores into rows, lengths, what is made, rows copied -/
section HEAP2
variable {ν : Nat → Int} {b : Nat} {cy : Nat → ClassId} {C : List AC} {ws pool : va_W} {D : va_G} {A : Nat → Prop} {H0 : Heap}
variable {p : Program} {l : Launch} {e : Env} {R : Room} {s : State} {m : MethodId} {args : Array Value} {below : List Frame} {meth : Method} {c : Code} {H : Heap} {locs : List Loc} {cells slots : Nat} {Q : State → Prop}
variable {cc : ByteArray} {pc nL : Nat} {ls : Array Slot} {rest : List Value} {own : String}
def e_rfits (C : List AC) (t : Nat) (a : AV) : Bool := match a with
  | .inr (.inr (.inr (.inl none))) => true
  | .inr (.inr (.inr (.inl (some i)))) => (match C[i]? with | some (.inr (ci, _)) => Nat.beq ci (e_acls t) | _ => false)
  | _ => false
/-- may a row of this kind hold it -/
def e_afits (E : EV) (C : List AC) (t : Nat) (a : AV) : Bool := match t with
  | 0 => (match e_iv E a with | some _ => true | none => false)
  | 1 => (match e_iv E a with | some (lo, hi) => decide (-128 ≤ lo) && decide (hi ≤ 127) | none => false)
  | 2 => (match e_iv E a with | some (lo, hi) => decide (0 ≤ lo) && decide (hi ≤ 1) | none => false)
  | 3 => e_isL a
  | _ => e_rfits C t a
def e_aop (ins : Instr) (t : Nat) : Bool := match ins with
  | .iastore => Nat.beq t 0
  | .bastore => Nat.beq t 1 || Nat.beq t 2
  | .lastore => Nat.beq t 3
  | .aastore => Nat.ble 4 t
  | _ => false
theorem vwCl_acls : ∀ t, 4 ≤ t → t < 6 → ∃ r : vw_C, vwCl[e_acls t]? = some r ∧ e_aty t = .object r.1 := by
  intro t h1 h2
  rcases (show t = 4 ∨ t = 5 by omega) with rfl | rfl
  · exact ⟨(RX7, TX7, 10), rfl, rfl⟩
  · exact ⟨(RX8, TX8, 6), rfl, rfl⟩
theorem h_ast {E : EV} {ins : Instr} {i q t n k : Nat} {d a : AV} {x : List (Nat × AV)} {j : Int32} {v : Value} (hx9 : p.tables.exec = Jvm.exec) (hb : c.code = cc) (hK : va_K D vwCl (atys cy) s) (hW : Wd D cy A H0 pool ν b C ws H locs) (hE : genv ν E)
    (hi : C[i]? = some (.inl (t, n, d, x))) (hq : (alw ws)[i]? = some q) (ht : t < 6) (hj : j.toInt = (k : Int)) (hk : k < n) (hn : n < 2147483648) (ha : gv ν (alw ws) b a v)
    (hf : e_afits E C t a = true) (hins : e_aop ins t = true) (hd : decode cc pc = .ok (ins, 1))
    (kk : ∀ ws' H' locs', alw ws' = alw ws → Wd D cy A H0 pool ν b (C.set i (.inl (t, n, d, e_put d x k a))) ws' H' locs' → W p l e R s m args below meth c H' locs' cells slots Q (F0 m (pc + 1) ls rest)) : W p l e R s m args below meth c H locs cells slots Q (F0 m pc ls (v :: .int j :: .ref q :: rest)) := by
  obtain ⟨q', e', h1, h2, h3⟩ := gW_at hW.1 hi
  rw [hq] at h2
  cases h2
  obtain ⟨hin, hcl⟩ := en_in hj hk hn
  have hT := atys_at cy t ht
  have cont : ∀ {e1 : va_E}, gC ν (alw ws) b cy (.inl (t, n, d, e_put d x k a)) e1 → ∀ (H1 : Heap) (locs1 : List Loc), va_P D vwCl ((pool ++ ws).set (pool.length + i) (q, e1)) H1 → va_D A ((pool ++ ws).set (pool.length + i) (q, e1)) → va_S A H0 H1 locs1 → W p l e R s m args below meth c H1 locs1 cells slots Q (F0 m (pc + 1) ls rest) := by
    intro e1 hC H1 locs1 g1 g2 g3
    rw [pw_set] at g1 g2
    exact kk _ H1 locs1 (alw_set h1) ⟨gW_set hW.1 h1 hC, g1, g2, g3⟩
  rcases h3 with ⟨g0, f, rfl, g2⟩ | ⟨g0, f, rfl, g2⟩ | ⟨g0, f, rfl, g2⟩
  · have hu : ∀ y : Int32, v = .int y → gC ν (alw ws) b cy (.inl (t, n, d, e_put d x k a)) (.inl (cy t, n, .inl (upd f k y))) := by
      intro y hy
      refine Or.inl ⟨g0, _, rfl, fun j hj => ?_⟩
      rw [e_get_put]
      by_cases e9 : j = k
      · rw [if_pos e9, e9, pk_us, ← hy]; exact ha
      · rw [if_neg e9, pk_un e9]; exact g2 j hj
    rcases (show t = 0 ∨ t = 1 ∨ t = 2 by omega) with rfl | rfl | rfl
    · simp only [e_afits] at hf
      split at hf
      · rename_i qq hq9
        obtain ⟨y, rfl, -⟩ := gv_int hE ha hq9
        cases ins <;> simp [e_aop] at hins
        exact va_iast hx9 hb hK hW.2.1 hW.2.2.1 hW.2.2.2 (pool.length + i) 0 (pw_at h1) hT hin hd (cont (by rw [hcl]; exact hu y rfl))
      · cases hf
    · simp only [e_afits] at hf
      split at hf
      · rename_i lo hi9 hq9
        simp only [Bool.and_eq_true, decide_eq_true_eq] at hf
        obtain ⟨y, rfl, y1, y2⟩ := gv_int hE ha hq9
        have e8 : vp_nar .byte y = y := (vp_nar_byte y).trans (en_i8 (by omega) (by omega))
        cases ins <;> simp [e_aop] at hins
        exact va_bast hx9 hb hK hW.2.1 hW.2.2.1 hW.2.2.2 (pool.length + i) 1 (pw_at h1) hT hin hd (cont (by rw [hcl, e8]; exact hu y rfl))
      · cases hf
    · simp only [e_afits] at hf
      split at hf
      · rename_i lo hi9 hq9
        simp only [Bool.and_eq_true, decide_eq_true_eq] at hf
        obtain ⟨y, rfl, y1, y2⟩ := gv_int hE ha hq9
        have e8 : vp_nar .boolean y = y := by
          rcases en_b01 (x := y) (by omega) (by omega) with rfl | rfl <;> decide
        cases ins <;> simp [e_aop] at hins
        exact va_zast hx9 hb hK hW.2.1 hW.2.2.1 hW.2.2.2 (pool.length + i) 2 (pw_at h1) hT hin hd (cont (by rw [hcl, e8]; exact hu y rfl))
      · cases hf
  · subst g0
    simp only [e_afits] at hf
    obtain ⟨y, rfl⟩ := gv_isL ha hf
    cases ins <;> simp [e_aop] at hins
    refine va_last hx9 hb hK hW.2.1 hW.2.2.1 hW.2.2.2 (pool.length + i) 3 (pw_at h1) hT hin hd (cont ?_)
    rw [hcl]
    refine Or.inr (Or.inl ⟨rfl, _, rfl, fun j hj => ?_⟩)
    rw [e_get_put]
    by_cases e9 : j = k
    · rw [if_pos e9, e9, pk_uLs]; exact ha
    · rw [if_neg e9, pk_uLn e9]; exact g2 j hj
  · obtain ⟨r, hr1, hr2⟩ := vwCl_acls t g0 ht
    have hu : ∀ y : Option Nat, v = va_rf y → gC ν (alw ws) b cy (.inl (t, n, d, e_put d x k a)) (.inl (cy t, n, .inr (.inr (.inr (.inr (va_up f k y)))))) := by
      intro y hy
      refine Or.inr (Or.inr ⟨g0, _, rfl, fun j hj => ?_⟩)
      rw [e_get_put]
      unfold va_up
      by_cases e9 : j = k
      · rw [if_pos e9, if_pos e9, ← hy]; exact ha
      · rw [if_neg e9, if_neg e9]; exact g2 j hj
    rw [hr2] at hT
    have hins2 : ins = .aastore := by
      cases ins <;> simp [e_aop] at hins <;> first | rfl | omega
    subst hins2
    have hf2 : e_rfits C t a = true := by
      rcases (show t = 4 ∨ t = 5 by omega) with rfl | rfl <;> exact hf
    unfold e_rfits at hf2
    split at hf2
    · have hv : v = .null := ha
      subst hv
      exact va_astqN hx9 hb hK hW.2.1 hW.2.2.1 hW.2.2.2 (pool.length + i) t (pw_at h1) hT hin hd (cont (by rw [hcl]; exact hu none rfl))
    · rename_i i2
      split at hf2
      · rename_i ci fs hci
        have := Nat.eq_of_beq_eq_true hf2
        subst this
        obtain ⟨q2, e2, k1, k2, vs2, rfl, -⟩ := gW_at hW.1 hci
        have hv : v = .ref q2 := gv_ref ha k2
        subst hv
        exact va_astq hx9 hb hK hW.2.1 hW.2.2.1 hW.2.2.2 (pool.length + i) t (pool.length + i2) (e_acls t) (pw_at h1) hT (pw_at k1) hr1 hin hd (cont (by rw [hcl]; exact hu (some q2) rfl))
      · cases hf2
    · cases hf2
theorem h_alen {i q t n : Nat} {d : AV} {x : List (Nat × AV)} (hx9 : p.tables.exec = Jvm.exec) (hb : c.code = cc) (hK : va_K D vwCl (atys cy) s) (hW : Wd D cy A H0 pool ν b C ws H locs)
    (hi : C[i]? = some (.inl (t, n, d, x))) (hq : (alw ws)[i]? = some q) (ht : t < 6) (hn : n < 2147483648) (hd : decode cc pc = .ok (.arraylength, 1))
    (kk : ∀ v, gv ν (alw ws) b (aI (n : Int)) v → W p l e R s m args below meth c H locs cells slots Q (F0 m (pc + 1) ls (v :: rest))) : W p l e R s m args below meth c H locs cells slots Q (F0 m pc ls (.ref q :: rest)) := by
  obtain ⟨q', e', h1, h2, h3⟩ := gW_at hW.1 hi
  rw [hq] at h2
  cases h2
  have hT := atys_at cy t ht
  have g : gv ν (alw ws) b (aI (n : Int)) (.int (Int32.ofNat n)) := by
    have := nI_toInt (n := n) hn
    exact ⟨_, rfl, by rw [show Int32.ofNat n = nI n from rfl, this]; omega, by rw [show Int32.ofNat n = nI n from rfl, this]; omega⟩
  rcases h3 with ⟨g0, f, rfl, g2⟩ | ⟨g0, f, rfl, g2⟩ | ⟨g0, f, rfl, g2⟩
  · exact va_alen hx9 hb hK hW.2.1 (pool.length + i) t (pw_at h1) hT rfl hd (kk _ g)
  · exact va_alen hx9 hb hK hW.2.1 (pool.length + i) t (pw_at h1) hT rfl hd (kk _ g)
  · exact va_alen hx9 hb hK hW.2.1 (pool.length + i) t (pw_at h1) hT rfl hd (kk _ g)
end HEAP2
