/-! steps outside: a place of a row of ints written with what stands in a like place of another row -/
def f_cpt (x x2 : List (Nat × BT)) (n2 z : Nat) (w : Int) : Bool := decide (0 ≤ w) && (decide (w.toNat < n2) && (match k_seg x2 w.toNat, k_seg x z with | some (.inl (a, b)), some (.inl (c, d)) => decide (c ≤ a) && decide (b ≤ d) | _, _ => false))
def f_cpok (T : TBt) (x : List (Nat × BT)) (l h : Nat) (i v : BV) (f : CFt) : Bool := match T.1[f.1]?, f.2.2.1, i with
  | some (.inl (_, n2, x2)), .inr (.inl (k2, c2)), .inr (.inl (k, c)) => Nat.beq k2 k && (bv_eq f.2.2.2 v && (List.range (h + 1)).all (fun z => Nat.blt z l || f_cpt x x2 n2 z ((z : Int) + (c2 - c))))
  | _, _, _ => false
def ox_cpy (T : TBt) (RT : List (List (Nat × RES))) (M : MT) (wr : WR) (S : SB) (ins : Instr) (len : Nat) : Option (List SB) := match f_hst T RT M wr S ins len with
  | some S' => some [S']
  | none => (match S with
    | (pc, lo, st, F, rw, nc, ns) => (match ins, st with
      | .iastore, v :: i :: a :: st' => (match f_kd T F.2.1 a with
        | some (κ, nn, nm, .inl (t, n, x)) => (match f_pl F.2.1 i n with
          | some (l, h) => if (Nat.beq t 0 && (decide (n < 65536) && (Nat.beq len 1 && (f_isI v && (f_wr wr κ l h && F.2.2.1.any (f_cpok T x l h i v)))))) = true then some [(pc + 1, lo, st', f_store T κ nn nm i v F, rw, nc, ns)] else none
          | none => none)
        | _ => none)
      | _, _ => none))
section OX4
variable {T : TBt} {FP : Nat → CUt → List Int → Prop} {RT : List (List (Nat × RES))} {P : List MT} {OW : List String} {EW : EWt} {D : va_G} {cy : Nat → ClassId} {I0 : IN} {ks0 : List Nat} {wp0 : va_W} {wr : WR} {M : MT} {own : String}
variable {p : Program} {l : Launch} {e : Env} {R : Room} {s : State} {m : MethodId} {args : Array Value} {below : List Frame} {meth : Method} {c : Code} {A : Nat → Prop} {Q : State → Prop} {rm : RMt} {cb sb : Nat}
theorem f_cpok_ok {I : IN} {ks : List Nat} {wp : va_W} {F : FS} {x : List (Nat × BT)} {l1 h1 z : Nat} {i v : BV} {y : Int32} (hF : HS T FP cy I ks wp F) (h : F.2.2.1.any (f_cpok T x l1 h1 i v) = true) (hi : f_ev I.1 i = some (z : Int)) (hv9 : hv I v (.int y)) (hvI : f_isI v = true) (z1 : l1 ≤ z) (z2 : z ≤ h1) : ∀ t, k_seg x z = some t → ht I.2.1 t (.int y) := by
  intro t ht9
  obtain ⟨f, hf, h9⟩ := List.any_eq_true.mp h
  clear h
  have h := h9
  clear h9
  unfold f_cpok at h
  split at h
  · rename_i t2 n2 x2 k2 c2 k c hT hp
    simp only [Bool.and_eq_true] at h
    obtain ⟨q1, q2, q3⟩ := h
    have q1 := beq3 q1
    subst q1
    have q2 := bv_eq_ok q2
    have q3 := List.all_eq_true.mp q3 z (List.mem_range.mpr (by omega))
    simp only [Bool.or_eq_true] at q3
    rcases q3 with q3 | q3
    · have := Nat.le_of_ble_eq_true q3
      omega
    · unfold f_cpt at q3
      simp only [Bool.and_eq_true, decide_eq_true_eq] at q3
      obtain ⟨w1, w2, w3⟩ := q3
      obtain ⟨i9, q9, e9, z9, x9, g1, g2, g3, g4, g5, g6⟩ := hF.2.2.1 f hf
      rw [hp] at g4
      have ez : (z9 : Int) = (z : Int) + (c2 - c) := by
        simp only [f_ev] at hi g4
        split at hi
        · rename_i y0 hy
          rw [hy] at g4
          simp only [Option.some.injEq] at hi g4
          omega
        · cases hi
      have ez2 : ((z : Int) + (c2 - c)).toNat = z9 := by omega
      rw [ez2] at w2 w3
      rw [ht9] at w3
      split at w3
      · rename_i a b c9 d9 hs ht2
        cases ht2
        simp only [Bool.and_eq_true, decide_eq_true_eq] at w3
        obtain ⟨qq, ee, dd, r1, r2, r3, r4⟩ := hF.1.2.1 i9 f.1 g1
        rw [g2] at r1
        cases r1
        rw [hT] at r2
        cases r2
        obtain ⟨v9, u1, u2⟩ := r3.2 z9 _ w2 hs
        rw [g5] at u1
        cases u1
        obtain ⟨y9, rfl, y1, y2⟩ := u2
        rw [q2] at g6
        have e1 := hv_ev hv9
        have e2 := hv_ev g6
        rw [e1] at e2
        have e3 := Option.some.inj e2
        exact ⟨y, rfl, by omega, by omega⟩
      · cases w3
  · cases h
theorem s_cpy {S : SB} {x : List SB} {ins : Instr} {len : Nat} (hFP : FPOK T FP) (hSU : SUOK T) (hP : POK2 P RT OW) (X : Cx OW EW D cy I0.2.2 M own p R s m args meth c A rm cb sb) (h : ox_cpy T RT M wr S ins len = some x) (hd : decode (mC M) S.1 = .ok (ins, len))
    (k : ∀ S' ∈ x, Sf T FP D cy I0 ks0 wp0 wr M p l e R s m args below meth c A Q cb sb S') : Sf T FP D cy I0 ks0 wp0 wr M p l e R s m args below meth c A Q cb sb S := by
  unfold ox_cpy at h
  split at h
  · rename_i S' h1
    cases h
    exact s_hst hFP hSU hP X h1 hd (k _ List.mem_cons_self)
  · obtain ⟨pc, lo, st, F, rw0, nc, ns⟩ := S
    obtain ⟨x1, x2, x3, x4, x5, x6, x7, x8, x9, x10, x11⟩ := X
    intro I H locs ls lv vs ks wp raw a1 a2 a3 a4 a5 a6 a7 a8 a9 a10
    simp only at h a2 a3 a4 a5 hd ⊢
    split at h
    · rename_i v i a st'
      split at h
      · rename_i κ nn nm t n x9 hkd
        split at h
        · rename_i l1 h1 hpl
          split at h
          · rename_i q
            simp only [Bool.and_eq_true, decide_eq_true_eq] at q
            obtain ⟨q1, q2, q3, q5, q7, q6⟩ := q
            have q1 := beq3 q1
            subst q1
            have q3 := beq3 q3
            subst q3
            cases h
            obtain ⟨v0, vs1, rfl, g1, g2⟩ := hvs_cons a3
            obtain ⟨v1, vs2, rfl, g3, g4⟩ := hvs_cons g2
            obtain ⟨v2, vs3, rfl, g5, g6⟩ := hvs_cons g4
            obtain ⟨qa, i0, e0, rfl, hki, hwi, hty0, hT, rfl⟩ := kd_ok a4 g5 hkd
            obtain ⟨j, z, rfl, jz, zn, zl, zh, jev⟩ := f_pl_ok a4.2.1 g3 hpl
            obtain ⟨y, rfl⟩ := hv_isI g1 q5
            refine b_ast (x := x9) x1 x2 x7 a6 a7 a8 (wr_at hwi) hty0.1 (by omega) jz zn (by omega) (Or.inl (Or.inl ⟨rfl, y, rfl⟩)) rfl hd (fun e1 s1 s2 s3 H1 locs1 w1 w2 w3 => ?_)
            rw [wr_set hwi] at w1 w2
            have hty1 := ktyped_ast hty0 s1 s2 s3 (fun t' h9 => f_cpok_ok a4 q6 jev g1 q5 zl zh t' h9)
            exact k _ List.mem_cons_self I H1 locs1 ls lv _ ks _ raw a1 a2 g6 (store_ok hFP hSU a4 hki hwi g5 jev s2 g1 s3 hT hty1) a5 w1 w2 w3 a9 (a10.set hki hwi s3 (f_wr_ok q7 zl zh))
          · cases h
        · cases h
      · cases h
    · cases h
end OX4
