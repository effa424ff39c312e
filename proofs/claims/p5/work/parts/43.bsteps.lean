section BSTEPS
variable {T : TBt} {FP : Nat → CUt → List Int → Prop} {OW : List String} {EW : EWt} {D : va_G} {cy : Nat → ClassId} {I0 : IN} {ks0 : List Nat} {wp0 : va_W} {wr : WR} {M : MT} {own : String}
variable {p : Program} {l : Launch} {e : Env} {R : Room} {s : State} {m : MethodId} {args : Array Value} {below : List Frame} {meth : Method} {c : Code} {A : Nat → Prop} {Q : State → Prop} {rm : RMt} {cb sb : Nat}
theorem hraw.xt {rw0 : Option (Nat × Nat)} {I J : IN} {raw : va_W} (j1 : hxt I J) (h : hraw rw0 I raw) : hraw rw0 J raw := by
  cases rw0 with
  | none => exact h
  | some x =>
    obtain ⟨q, n, w1, w2, w3⟩ := h
    exact ⟨q, n, j1.at w1, w2, w3⟩
theorem s_mov {S S' : SB} {ins : Instr} {len : Nat} (X : Cx OW EW D cy I0.2.2 M own p R s m args meth c A rm cb sb) (h : f_mst M S ins len = some S') (hd : decode (mC M) S.1 = .ok (ins, len))
    (k : Sf T FP D cy I0 ks0 wp0 wr M p l e R s m args below meth c A Q cb sb S') : Sf T FP D cy I0 ks0 wp0 wr M p l e R s m args below meth c A Q cb sb S := by
  obtain ⟨pc, lo, st, F, rw0, nc, ns⟩ := S
  unfold f_mst at h
  simp only at h
  split at h
  · rename_i n lo' st' h1
    split at h
    · rename_i h2
      have h2 := Nat.eq_of_beq_eq_true h2
      cases h
      subst h2
      intro I H locs ls lv vs ks wp raw a1 a2 a3 a4 a5 a6 a7 a8 a9 a10
      exact f_mov_ok X.1 X.2.1 h1 hd a1 a2 a3 (fun ls' lv' vs' b1 b2 b3 => k I H locs ls' lv' vs' ks wp raw b1 b2 b3 a4 a5 a6 a7 a8 a9 a10)
    · cases h
  · cases h
theorem s_bst {S : SB} {x : List SB} {ins : Instr} {len : Nat} (h0 : FP0 FP) (X : Cx OW EW D cy I0.2.2 M own p R s m args meth c A rm cb sb) (h : f_bst S ins len = some x) (hd : decode (mC M) S.1 = .ok (ins, len))
    (k : ∀ S' ∈ x, Sf T FP D cy I0 ks0 wp0 wr M p l e R s m args below meth c A Q cb sb S') : Sf T FP D cy I0 ks0 wp0 wr M p l e R s m args below meth c A Q cb sb S := by
  obtain ⟨pc, lo, st, ⟨n, E, CF, SF⟩, rw0, nc, ns⟩ := S
  unfold f_bst at h
  simp only at h
  split at h
  · rename_i brs h1
    cases h
    intro I H locs ls lv vs ks wp raw a1 a2 a3 a4 a5 a6 a7 a8 a9 a10
    refine f_branch_ok X.1 X.2.1 h1 hd a3 a4.2.1 (fun br hbr vs' b1 b2 b3 => ?_)
    refine k _ (List.mem_map.mpr ⟨br, hbr, rfl⟩) I H locs ls lv vs' ks wp raw a1 a2 b3 ⟨a4.1, b1, a4.2.2.1, fun f hf => ?_⟩ a5 a6 a7 a8 a9 a10
    rcases List.mem_append.mp hf with hf | hf
    · obtain ⟨q, hq, rfl⟩ := List.mem_map.mp hf
      obtain ⟨z1, z2, g1, g2, g3⟩ := b2 q hq
      exact ⟨[z1, z2], by simp only [f_evs, g1, g2], (h0 _ _).mpr ⟨z1, z2, rfl, g3⟩⟩
    · exact a4.2.2.2 f hf
  · cases h
theorem en_255 {x : Int32} (h1 : 0 ≤ x.toInt) (h2 : x.toInt ≤ 127) : x &&& 255 = x := by
  obtain ⟨k, rfl, hk, ek⟩ := en_nn h1
  have e1 : (255 : Int32) = nI (2 ^ 8 - 1) := rfl
  rw [e1, fa_mask, Nat.mod_eq_of_lt (by omega)]
theorem en_255n {x : Int32} (h1 : x.toInt < 0) (h2 : -128 ≤ x.toInt) : 128 ≤ (x &&& 255).toInt ∧ (x &&& 255).toInt ≤ 255 := by
  have key : ∀ k : Nat, k < 128 → 128 ≤ ((Int32.ofInt (-128 + k)) &&& 255).toInt ∧ ((Int32.ofInt (-128 + k)) &&& 255).toInt ≤ 255 := by decide +kernel
  have e1 : x = Int32.ofInt (-128 + ((x.toInt + 128).toNat : Int)) := by
    apply (fa_eq _ _).mpr
    rw [en_o32 (by omega) (by omega)]
    omega
  rw [e1]
  exact key _ (by omega)
theorem HS.env {I : IN} {ks : List Nat} {wp : va_W} {n n' : Nat} {E E' : EB} {CF : List CFt} {SF : List SFt} {J : IN} (h : HS T FP cy I ks wp (n, E, CF, SF)) (j1 : hxt I J) (j2 : J.2 = I.2) (hE : henv J.1 n' E') : HS T FP cy J ks wp (n', E', CF, SF) := h.xt j1 j2 hE
theorem s_ari {S : SB} {x : List SB} {ins : Instr} {len : Nat} (X : Cx OW EW D cy I0.2.2 M own p R s m args meth c A rm cb sb) (h : f_ari M S ins len = some x) (hd : decode (mC M) S.1 = .ok (ins, len))
    (k : ∀ S' ∈ x, Sf T FP D cy I0 ks0 wp0 wr M p l e R s m args below meth c A Q cb sb S') : Sf T FP D cy I0 ks0 wp0 wr M p l e R s m args below meth c A Q cb sb S := by
  obtain ⟨pc, lo, st, ⟨n, E, CF, SF⟩, rw0, nc, ns⟩ := S
  intro I H locs ls lv vs ks wp raw a1 a2 a3 a4 a5 a6 a7 a8 a9 a10
  have hE : henv I.1 n E := a4.2.1
  simp only at a2 a3 a5 hd ⊢
  unfold f_ari at h
  simp only at h
  split at h
  · rename_i i d
    split at h
    · rename_i a ea
      split at h
      · rename_i r hr
        cases hp : f_push r n E with
        | mk v qp =>
        obtain ⟨n', E'⟩ := qp
        rw [hp] at h
        simp only at h
        split at h
        · rename_i q
          simp only [e_rng16, Bool.and_eq_true, decide_eq_true_eq] at q
          obtain ⟨q1, q2, q3⟩ := q
          have q3 := Nat.eq_of_beq_eq_true q3
          subst q3
          cases h
          obtain ⟨k1, v1, e1, g1⟩ := f_find_ok a2 ea
          have gn : hv I (bI d) (.int (Int32.ofInt d)) := ⟨_, rfl, en_o32 (by omega) (by omega)⟩
          have hv1 : ∃ x : Int32, v1 = .int x := by
            have : ∃ q1, f_iv E a = some q1 := by
              unfold f_add at hr
              rcases h1 : f_iv E a with _ | q1
              · simp [h1] at hr
              · exact ⟨q1, rfl⟩
            obtain ⟨⟨w1, w2⟩, e2⟩ := this
            obtain ⟨i, ei, -⟩ := hv_int hE g1 e2
            exact ⟨i, ei⟩
          obtain ⟨y, rfl⟩ := hv1
          obtain ⟨J, j1, j2, j3, j4⟩ := f_push_ok hE (f_add_ok hE g1 gn hr) hp
          exact lv_iinc X.1 X.2.1 hd a1 e1 rfl q2 rfl (fun ls' hl' => k _ List.mem_cons_self J H locs ls' _ vs ks wp raw hl' (hlv_st1 (a2.xt j1) j4) (a3.xt j1) (a4.env j1 j2 j3) (a5.xt j1) a6 a7 a8 (a9.tr j1) a10)
        · cases h
      · cases h
    · cases h
  · split at h
    · rename_i hlen
      have hlen := Nat.eq_of_beq_eq_true hlen
      subst hlen
      split at h
      · split at h
        · rename_i x0 st'
          split at h
          · rename_i r hr
            cases hp : f_push r n E with
            | mk v qp =>
            obtain ⟨n', E'⟩ := qp
            rw [hp] at h
            simp only at h
            cases h
            obtain ⟨v0, vs1, rfl, g1, g2⟩ := hvs_cons a3
            refine f_un_ok X.1 X.2.1 hd hE g1 hr (fun w hw => ?_)
            obtain ⟨J, j1, j2, j3, j4⟩ := f_push_ok hE hw hp
            exact k _ List.mem_cons_self J H locs ls lv _ ks wp raw a1 (a2.xt j1) ⟨j4, g2.xt j1⟩ (a4.env j1 j2 j3) (a5.xt j1) a6 a7 a8 (a9.tr j1) a10
          · cases h
        · cases h
      · split at h
        · rename_i y x0 st'
          obtain ⟨vy, vs1, rfl, g1, g2⟩ := hvs_cons a3
          obtain ⟨vx, vs2, rfl, g3, g4⟩ := hvs_cons g2
          split at h
          · rename_i neg pos ho
            cases h
            unfold f_oct at ho
            split at ho
            · split at ho
              · rename_i kx mm
                split at ho
                · rename_i hm
                  have hm := of_decide_eq_true hm
                  subst hm
                  split at ho
                  · rename_i l1 h1 hiv
                    split at ho
                    · rename_i q
                      simp only [Bool.and_eq_true, decide_eq_true_eq] at q
                      cases ho
                      obtain ⟨i, rfl, p1, p2⟩ := hv_int hE g3 hiv
                      obtain ⟨j, rfl, hj⟩ := g1
                      have ej : j = 255 := (fa_eq _ _).mpr (by rw [hj]; rfl)
                      subst ej
                      have r1 := fb_rng i
                      refine lv_iand X.1 X.2.1 hd ?_
                      by_cases hneg : i.toInt < 0
                      · obtain ⟨E1, e1, e2, -⟩ := f_clamp_ok (lo := iMin) (hi := -1) hE g3 ⟨_, hiv⟩ (by simp only [iMin]; omega) (by omega)
                        have w := en_255n (x := i) hneg (by omega)
                        obtain ⟨J, j1, j2, j3, j4⟩ := f_push_ok (r := .inr (128, 255)) (v := .int (i &&& 255)) e2 ⟨_, rfl, w.1, w.2⟩ rfl
                        refine k (pc + 1, lo, bV n 0 :: st', (n + 1, (n, 128, 255) :: E1, CF, SF), rw0, nc, ns) (List.mem_append_left _ (by rw [e1]; exact List.mem_cons_self)) J H locs ls lv _ ks wp raw a1 (a2.xt j1) ⟨j4, g4.xt j1⟩ (a4.env j1 j2 j3) (a5.xt j1) a6 a7 a8 (a9.tr j1) a10
                      · obtain ⟨E1, e1, e2, -⟩ := f_clamp_ok (lo := 0) (hi := iMax) hE g3 ⟨_, hiv⟩ (by omega) (by simp only [iMax]; omega)
                        rw [en_255 (x := i) (by omega) (by omega)]
                        exact k (pc + 1, lo, .inr (.inl kx) :: st', (n, E1, CF, SF), rw0, nc, ns) (List.mem_append_right _ (by rw [e1]; exact List.mem_cons_self)) I H locs ls lv _ ks wp raw a1 a2 ⟨g3, g4⟩ (a4.env hxt.rf rfl e2) a5 a6 a7 a8 a9 a10
                    · cases ho
                  · cases ho
                · cases ho
              · cases ho
            · cases ho
          · split at h
            · rename_i r hr
              cases hp : f_push r n E with
              | mk v qp =>
              obtain ⟨n', E'⟩ := qp
              rw [hp] at h
              simp only at h
              cases h
              refine f_two_ok X.1 X.2.1 hd hE g3 g1 hr (fun w hw => ?_)
              obtain ⟨J, j1, j2, j3, j4⟩ := f_push_ok hE hw hp
              exact k _ List.mem_cons_self J H locs ls lv _ ks wp raw a1 (a2.xt j1) ⟨j4, g4.xt j1⟩ (a4.env j1 j2 j3) (a5.xt j1) a6 a7 a8 (a9.tr j1) a10
            · cases h
        · cases h
    · cases h
end BSTEPS
