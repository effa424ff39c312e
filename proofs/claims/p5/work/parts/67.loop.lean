/-! the law's loop -/
theorem law_run : f_run GGL SPL.length WRL 7 none CUTL MKL [] 3000 true 0 RML mt_law (e_suf tbl 33) (33, LO7 0, [], (7, E7, [], FA6), none, 0, 0) = some [] := by
  have h := law_ok
  unfold law_chk at h
  rw [← ln_spl] at h
  split at h
  · rename_i e0
    exact e0
  · cases h
theorem tok_law : TOK OW2 mt_law := by
  refine ⟨fun q hq => ?_, fun h => absurd h (by decide)⟩
  have h1 := List.all_eq_true.mp tdl q hq
  split at h1
  · rename_i r hr
    have h1 := of_decide_eq_true h1
    show decode code q.1 = _
    rw [hr, h1]
  · cases h1
theorem dl_23 : decode code 23 = .ok (.iload 4, 2) := by decide +kernel
theorem dl_25 : decode code 25 = .ok (.aload_n 0, 1) := by decide +kernel
theorem dl_26 : decode code 26 = .ok (.arraylength, 1) := by decide +kernel
theorem dl_27 : decode code 27 = .ok (.bipush 6, 2) := by decide +kernel
theorem dl_29 : decode code 29 = .ok (.isub, 1) := by decide +kernel
theorem dl_30 : decode code 30 = .ok (.if_icmp .gt 1439, 3) := by decide +kernel
theorem dl_1469 : decode code 1469 = .ok (.iconst 1, 1) := by decide +kernel
theorem dl_1470 : decode code 1470 = .ok (.ireturn, 1) := by decide +kernel
theorem hlv_5 {I : IN} {d : Int} {lv : List (Nat × Value)} (h : hlv I (LO7 d) lv) : ∃ v0 v1 v2 v3 v4, lv = [(0, v0), (1, v1), (2, v2), (3, v3), (4, v4)] ∧ hv I (bX 0) v0 ∧ hv I (bP 0 true none) v1 ∧ hv I (bP 25 true none) v2 ∧ hv I (bP 24 true none) v3 ∧ hv I (bV 0 d) v4 := by
  unfold LO7 at h
  match lv, h with
  | [(a0, v0), (a1, v1), (a2, v2), (a3, v3), (a4, v4)], ⟨⟨e0, g0⟩, ⟨e1, g1⟩, ⟨e2, g2⟩, ⟨e3, g3⟩, ⟨e4, g4⟩, _⟩ =>
    simp only at e0 e1 e2 e3 e4 g0 g1 g2 g3 g4
    subst e0
    subst e1
    subst e2
    subst e3
    subst e4
    exact ⟨v0, v1, v2, v3, v4, rfl, g0, g1, g2, g3, g4⟩
section LOOP
variable {D : va_G} {cy : Nat → ClassId} {xs : Nat → Int32} {ex : Nat → Nat}
variable {p : Program} {l : Launch} {e : Env} {s : State} {m : MethodId} {args : Array Value} {below : List Frame} {meth : Method} {c : Code} {A : Nat → Prop} {Q : State → Prop}
/-- the names of a round -/
abbrev nm7 (xs : Nat → Int32) (i : Nat) : List Int := [(i : Int), (xs (i + 1)).toInt, (xs (i + 2)).toInt, (xs (i + 3)).toInt, (xs (i + 4)).toInt, (xs (i + 5)).toInt, (xs i).toInt]
theorem nm7_env {i : Nat} (h : i ≤ 3066) : henv (nm7 xs i) 7 E7 := by
  refine ⟨rfl, fun k q hk => ?_⟩
  have r := fun j => fb_rng (xs j)
  unfold E7 at hk
  match k, hk with
  | 0, hk => cases hk; exact ⟨_, rfl, by omega, by omega⟩
  | 1, hk => cases hk; have := r (i + 1); exact ⟨_, rfl, this.1, Int.le_of_lt_add_one this.2⟩
  | 2, hk => cases hk; have := r (i + 2); exact ⟨_, rfl, this.1, Int.le_of_lt_add_one this.2⟩
  | 3, hk => cases hk; have := r (i + 3); exact ⟨_, rfl, this.1, Int.le_of_lt_add_one this.2⟩
  | 4, hk => cases hk; have := r (i + 4); exact ⟨_, rfl, this.1, Int.le_of_lt_add_one this.2⟩
  | 5, hk => cases hk; have := r (i + 5); exact ⟨_, rfl, this.1, Int.le_of_lt_add_one this.2⟩
  | 6, hk => cases hk; have := r i; exact ⟨_, rfl, this.1, Int.le_of_lt_add_one this.2⟩
  | k + 7, hk => simp [f_lk, Nat.beq] at hk
theorem FA6_nil : ∀ f ∈ FA6, f.2 = [] := by
  intro f hf
  simp only [FA6, List.mem_cons, List.not_mem_nil, or_false] at hf
  rcases hf with rfl | rfl | rfl | rfl | rfl | rfl | rfl | rfl | rfl | rfl | rfl | rfl | rfl | rfl | rfl | rfl <;> rfl
/-- facts of the cells alone -/
theorem HS_any {I : IN} {ks : List Nat} {wp : va_W} {n n' : Nat} {E E' : EB} {ν : List Int} (h : HS T2 FPX cy I ks wp (n, E, [], FA6)) (hE : henv ν n' E') : HS T2 FPX cy (ν, I.2.1, I.2.2) ks wp (n', E', [], FA6) := by
  obtain ⟨h1, h2, h3, h4⟩ := h
  refine ⟨h1, hE, (fun f hf => (by cases hf)), fun f hf => ?_⟩
  obtain ⟨zs, z1, z2⟩ := h4 f hf
  rw [FA6_nil f hf] at z1
  exact ⟨zs, by rw [FA6_nil f hf]; exact z1, z2⟩
set_option maxHeartbeats 2000000 in
theorem law_loop (hSP : SPA xs D cy l SPL.length) (hHP : HPM xs D cy l) (hx : p.tables.exec = Jvm.exec) (hb : c.code = code) (hml : c.maxLocals = 7) (hown : s.vm.findClass RL = some m.cls) (hbig : ∀ w ∈ BIG, w.before args s = true) (hKK : KK D cy s) (hA : ∀ q, s.heap.size ≤ q → A q) (hEW : EWX xs ex A s) (hL : ex 1 ≤ 3072)
    (hret : ∀ (H : Heap) (locs : List Loc) (ls : Array Slot), va_S A s.heap H locs → W p l e room_1 s m args below meth c H locs 601024 7293034 Q (F0 m 1470 ls [.int 1])) :
    ∀ (n j : Nat), j + n = 513 → ∀ (AK : List (Nat × Nat)) (ks : List Nat) (wp : va_W) (H : Heap) (locs : List Loc) (ls : Array Slot) (v1 v2 v3 : Value) (n0 : Nat) (E0 : EB) (ν0 : List Int), lv_has ls 7 [(0, .ref (ex 0)), (1, v1), (2, v2), (3, v3), (4, .int (nI (6 * j)))] → hv (ν0, AK, ex) (bP 0 true none) v1 → hv (ν0, AK, ex) (bP 25 true none) v2 → hv (ν0, AK, ex) (bP 24 true none) v3 → HS T2 FPX cy (ν0, AK, ex) ks wp (n0, E0, [], FA6) → va_P D vwCl wp H → va_D A wp → va_S A s.heap H locs →
      W p l e room_1 s m args below meth c H locs (66 + 1000 * j) (7071 + 14000 * j) Q (F0 m 23 ls []) := by
  intro n
  induction n with
  | zero =>
    intro j hj AK ks wp H locs ls v1 v2 v3 n0 E0 ν0 hlv g1 g2 g3 hF hP hD hS
    -- behind the last round: the loop's end
    obtain ⟨⟨w1, w2, w3⟩, -⟩ := hEW
    refine lv_iload hx hb dl_23 (lv_at hlv 4 rfl) ?_
    refine lv_aload_n hx hb dl_25 rfl (lv_at hlv 0 rfl) ?_
    refine va_slen hx hb w1 w2 w3 hS dl_26 ?_
    refine lv_bipush (v := 6) hx hb dl_27 (by decide) ?_
    refine lv_isub hx hb dl_29 ?_
    have e6 : (Int32.ofNat (ex 1) - 6).toInt = (ex 1 : Int) - 6 := pk_sub_toInt (a := ex 1) (b := 6) (by omega) (by omega)
    have ej : (nI (6 * j)).toInt = ((6 * j : Nat) : Int) := nI_toInt (by omega)
    refine lv_icmp_gt hx hb dl_30 (tgt := 1469) (by decide) (fun _ => ?_) (fun h => absurd ((fa_lt _ _).mpr (by rw [e6, ej]; omega)) h)
    refine lv_iconst (v := 1) hx hb dl_1469 (by decide) ?_
    exact W.widen (k := 601024) (n := 7293034) (by omega) (by omega) (hret H locs ls hS)
  | succ n ih =>
    intro j hj AK ks wp H locs ls v1 v2 v3 n0 E0 ν0 hlv g1 g2 g3 hF hP hD hS
    have hEW0 := hEW
    obtain ⟨⟨w1, w2, w3⟩, -⟩ := hEW
    refine lv_iload hx hb dl_23 (lv_at hlv 4 rfl) ?_
    refine lv_aload_n hx hb dl_25 rfl (lv_at hlv 0 rfl) ?_
    refine va_slen hx hb w1 w2 w3 hS dl_26 ?_
    refine lv_bipush (v := 6) hx hb dl_27 (by decide) ?_
    refine lv_isub hx hb dl_29 ?_
    have e6 : (Int32.ofNat (ex 1) - 6).toInt = (ex 1 : Int) - 6 := pk_sub_toInt (a := ex 1) (b := 6) (by omega) (by omega)
    have ej : (nI (6 * j)).toInt = ((6 * j : Nat) : Int) := nI_toInt (by omega)
    refine lv_icmp_gt hx hb dl_30 (tgt := 1469) (by decide) (fun _ => ?_) (fun h => ?_)
    · refine lv_iconst (v := 1) hx hb dl_1469 (by decide) ?_
      exact W.widen (k := 601024) (n := 7293034) (by omega) (by omega) (hret H locs ls hS)
    · have hle : 6 * j + 6 ≤ ex 1 := by
        have h1 := (fa_le _ _).mp (fa_of_nlt h)
        rw [e6, ej] at h1
        omega
      have hj2 : j ≤ 511 := by omega
      have hI0 : IXL xs (nm7 xs (6 * j), AK, ex) := ⟨6 * j, rfl, hle, by show ex 1 < 65536; omega, rfl, fun k k1 k2 => by
        rcases (show k = 1 ∨ k = 2 ∨ k = 3 ∨ k = 4 ∨ k = 5 by omega) with rfl | rfl | rfl | rfl | rfl <;> rfl⟩
      have X : Cx OW2 (EWX xs) D cy ex mt_law RL p room_1 s m args meth c A RML (66 + 1000 * j) (7071 + 14000 * j) := ⟨hx, hb, hml, rfl, hown, hbig, hKK, hA, tok_law, hEW0, by show 2000 ≤ 2048; omega, by show 66 + 1000 * j + 1000 ≤ 601024; omega, by show 7071 + 14000 * j + 14000 ≤ 7293034; omega, by show 80000 ≤ 84000; omega⟩
      have hv4 : hv (nm7 xs (6 * j), AK, ex) (bV 0 0) (.int (nI (6 * j))) := ⟨_, _, rfl, rfl, by rw [ej]; omega⟩
      refine f_sound (G := GGL) (IX := IXL xs) pok2 EWX_ok FPX0 fpok2 suok2 hkok (fun I J hxt9 h9 => IXL.xt hxt9 h9) (oxlok4 (SP := SPL) (DM := DML) (lim := 294) (fun j sp hj hs => hSP j sp (by rw [ln_spl]; exact hj) hs) hHP) (fun i sp hi hs => hSP i sp hi hs) 3000 true 0 RML mt_law (e_suf tbl 33) _ [] law_run (fun q hq => tok_law.1 q (e_suf_in q hq)) (nm7 xs (6 * j), AK, ex) ks wp RL p e room_1 s m args below meth c A Q (66 + 1000 * j) (7071 + 14000 * j) hI0 X (fun o ho => (by cases ho)) (fun _ => ⟨Nat.le_refl 7, (fun mm h9 => (by cases h9)), ?_⟩) (nm7 xs (6 * j), AK, ex) H locs ls [(0, .ref (ex 0)), (1, v1), (2, v2), (3, v3), (4, .int (nI (6 * j)))] [] ks wp [] hlv ⟨⟨rfl, rfl⟩, ⟨rfl, g1.1, fun k h9 => by cases h9⟩, ⟨rfl, g2.1, fun k h9 => by cases h9⟩, ⟨rfl, g3.1, fun k h9 => by cases h9⟩, ⟨rfl, hv4⟩, trivial⟩ trivial (HS_any hF (nm7_env (by omega))) rfl (by rw [List.append_nil]; exact hP) (by rw [List.append_nil]; exact hD) hS hxt.rf Unch.rf
      intro ct hct I2 H' locs' ls' lv' vs' ks' wp' d1 d2 d3 d4 d5 d6 d7 d8 d9 d10 d11 d12
      have hct := List.mem_singleton.mp hct
      subst hct
      simp only at d5 d6 d7 ⊢
      have hn := hvs_nil d6
      subst hn
      obtain ⟨u0, u1, u2, u3, u4, rfl, k0, k1, k2, k3, k4⟩ := hlv_5 d5
      obtain ⟨ν2, AK2, ex2⟩ := I2
      simp only at d2
      subst d2
      have k0 : u0 = .ref (ex2 0) := k0
      subst k0
      obtain ⟨y, z, rfl, z1, z2⟩ := k4
      have z3 := d1 0 (by omega)
      rw [z1] at z3
      have z3 : z = ((6 * j : Nat) : Int) := Option.some.inj z3
      have ey : y = nI (6 * (j + 1)) := (fa_eq _ _).mpr (by rw [nI_toInt (by omega)]; omega)
      subst ey
      have := ih (j + 1) (by omega) AK2 ks' wp' H' locs' ls' u1 u2 u3 7 E7 ν2 d4 k1 k2 k3 d7 d8 d9 d10
      rw [show 66 + 1000 * (j + 1) = 66 + 1000 * j + 1000 by omega, show 7071 + 14000 * (j + 1) = 7071 + 14000 * j + 14000 by omega] at this
      exact this
end LOOP
