/-! a step outside: a local that is what fits, asked twice -/
def h_ftq (E : EB) (l m r : BV) (L : List SFt) : Option EB := match L with
  | [] => some E
  | g :: s => (match g.1, g.2 with
    | 43, [l', m', v] => if (bv_eq l' l && bv_eq m' m) = true then (match f_iv E v, f_iv E r with
      | some (a, b), some _ => (match f_clamp E r a b with
        | some E1 => h_ftq E1 l m r s
        | none => none)
      | _, _ => h_ftq E l m r s) else h_ftq E l m r s
    | _, _ => h_ftq E l m r s)
def h_ft (E : EB) (SF : List SFt) (r : BV) (L : List SFt) : Option EB := match L with
  | [] => some E
  | f :: s => (match f.1, f.2 with
    | 43, [l, m, r'] => if bv_eq r' r = true then (match h_ftq E l m r SF with
      | some E1 => h_ft E1 SF r s
      | none => none) else h_ft E SF r s
    | _, _ => h_ft E SF r s)
def ox_ild (M : MT) (S : SB) (ins : Instr) (len : Nat) : Option (List SB) := match f_mst M S ins len with
  | some (pc, lo, r :: st, (n, E, CF, SF), q) => (match h_ft E SF r SF with
    | some E1 => some [(pc, lo, r :: st, (n, E1, CF, SF), q)]
    | none => some [])
  | _ => none
section OX3
variable {T : TBt} {OW : List String} {EW : EWt} {D : va_G} {cy : Nat → ClassId} {I0 : IN} {ks0 : List Nat} {wp0 : va_W} {wr : WR} {M : MT} {own : String} {I : IN}
variable {p : Program} {l : Launch} {e : Env} {R : Room} {s : State} {m : MethodId} {args : Array Value} {below : List Frame} {meth : Method} {c : Code} {A : Nat → Prop} {Q : State → Prop} {rm : RMt} {cb sb : Nat}
theorem sf_ft {cu : CUt} {l m v : BV} (h : hsf FPX I cu (43, [l, m, v])) : ∃ x y, f_ev I.1 l = some x ∧ f_ev I.1 m = some y ∧ f_ev I.1 v = some (ftP (cint cu 27) x y (cint cu 27 2).toNat : Int) := by
  obtain ⟨zs, z1, x, y, rfl, -⟩ := h
  exact ⟨x, y, evs_three z1⟩
theorem h_ftq_ok {n : Nat} {cu : CUt} {l m r : BV} {x y : Int} (hl : f_ev I.1 l = some x) (hm : f_ev I.1 m = some y) (hr9 : f_ev I.1 r = some (ftP (cint cu 27) x y (cint cu 27 2).toNat : Int)) : ∀ (L : List SFt) (E : EB), henv I.1 n E → (∀ f ∈ L, hsf FPX I cu f) → ∃ E1, h_ftq E l m r L = some E1 ∧ henv I.1 n E1 := by
  intro L
  induction L with
  | nil => intro E hE _; exact ⟨E, rfl, hE⟩
  | cons f s ih =>
    obtain ⟨id, as⟩ := f
    intro E hE hS
    have hr : ∀ f ∈ s, hsf FPX I cu f := fun f hf => hS f (List.mem_cons_of_mem _ hf)
    unfold h_ftq
    simp only
    split
    · rename_i l' m' v
      split
      · rename_i e0
        simp only [Bool.and_eq_true] at e0
        split
        · rename_i a b q0 hv9 hrv
          obtain ⟨x', y', g1, g2, g3⟩ := sf_ft (hS _ List.mem_cons_self)
          rw [bv_eq_ok e0.1, hl] at g1
          rw [bv_eq_ok e0.2, hm] at g2
          cases g1
          cases g2
          have w := ev_iv hE g3 hv9
          obtain ⟨E1, e1, e2, -⟩ := f_clamp_ev (lo := a) (hi := b) hE hr9 ⟨_, hrv⟩ w.1 w.2
          rw [e1]
          exact ih E1 e2 hr
        · exact ih E hE hr
      · exact ih E hE hr
    · exact ih E hE hr
theorem h_ft_ok {n : Nat} {cu : CUt} {r : BV} {SF : List SFt} (hSF : ∀ f ∈ SF, hsf FPX I cu f) : ∀ (L : List SFt) (E : EB), henv I.1 n E → (∀ f ∈ L, hsf FPX I cu f) → ∃ E1, h_ft E SF r L = some E1 ∧ henv I.1 n E1 := by
  intro L
  induction L with
  | nil => intro E hE _; exact ⟨E, rfl, hE⟩
  | cons f s ih =>
    obtain ⟨id, as⟩ := f
    intro E hE hS
    have hr : ∀ f ∈ s, hsf FPX I cu f := fun f hf => hS f (List.mem_cons_of_mem _ hf)
    unfold h_ft
    simp only
    split
    · rename_i l m r'
      split
      · rename_i e0
        obtain ⟨x', y', g1, g2, g3⟩ := sf_ft (hS _ List.mem_cons_self)
        rw [bv_eq_ok e0] at g3
        obtain ⟨E1, e1, e2⟩ := h_ftq_ok g1 g2 g3 SF E hE hSF
        rw [e1]
        exact ih E1 e2 hr
      · exact ih E hE hr
    · exact ih E hE hr
theorem s_ild {S : SB} {x : List SB} {ins : Instr} {len : Nat} (X : Cx OW EW D cy I0.2.2 M own p R s m args meth c A rm cb sb) (h : ox_ild M S ins len = some x) (hd : decode (mC M) S.1 = .ok (ins, len))
    (k : ∀ S' ∈ x, Sf T FPX D cy I0 ks0 wp0 wr M p l e R s m args below meth c A Q cb sb S') : Sf T FPX D cy I0 ks0 wp0 wr M p l e R s m args below meth c A Q cb sb S := by
  unfold ox_ild at h
  split at h
  · rename_i pc lo r st n E CF SF q hm
    refine s_mov X hm hd ?_
    obtain ⟨rw0, nc, ns⟩ := q
    intro I H locs ls lv vs ks wp raw a1 a2 a3 a4 a5 a6 a7 a8 a9 a10
    obtain ⟨E1, e1, e2⟩ := h_ft_ok (r := r) a4.2.2.2 SF E a4.2.1 a4.2.2.2
    rw [e1] at h
    cases h
    exact k _ List.mem_cons_self I H locs ls lv vs ks wp raw a1 a2 a3 (a4.env hxt.rf rfl e2) a5 a6 a7 a8 a9 a10
  · cases h
end OX3
