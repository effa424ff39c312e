/-! a spec that is checked is a contract -/
def f_chkA (G : GT) (i fuel : Nat) (sp : SPt) : Bool := f_chk0 G i fuel sp && ((pC sp).all (f_chkC G i fuel sp) && (match G.2.1[pM sp]? with | some M => Nat.ble (f_ctg (pA sp)) (mL M) | none => false))
/-- the first names agree -/
def hag (np : Nat) (I I1 : IN) : Prop := (∀ k, k < np → I1.1[k]? = I.1[k]?) ∧ I1.2.2 = I.2.2 ∧ ∃ m2, I1.2.1 = I.2.1 ++ m2
section BSPEC
variable {T : TBt} {FP : Nat → CUt → List Int → Prop} {OW : List String} {EW : EWt} {D : va_G} {cy : Nat → ClassId} {l : Launch}
theorem hag.xt {np : Nat} {I I1 I2 : IN} (hl : I.1.length = np) (h : hag np I I1) (hx : hxt I1 I2) : hag np I I2 := by
  obtain ⟨h1, h2, m2, h3⟩ := h
  have hx0 := hx
  obtain ⟨-, ⟨m4, h4⟩, h5⟩ := hx
  refine ⟨fun k hk => ?_, by rw [h5, h2], m2 ++ m4, by rw [h4, h3, List.append_assoc]⟩
  have e1 : I.1[k]? = some (I.1[k]'(by omega)) := List.getElem?_eq_getElem (by omega)
  have e2 := h1 k hk
  rw [e1] at e2 ⊢
  exact hx0.at e2
theorem hag.hx {np : Nat} {I I1 : IN} (hl : I.1.length = np) (h : hag np I I1) : hxt I I1 := by
  obtain ⟨h1, h2, h3⟩ := h
  refine ⟨⟨I1.1.drop np, ?_⟩, h3, h2⟩
  have e0 : I1.1 = I1.1.take np ++ I1.1.drop np := (List.take_append_drop np I1.1).symm
  have e1 : I1.1.take np = I.1 := by
    apply List.ext_getElem?
    intro k
    rw [List.getElem?_take]
    split
    · rename_i hk
      exact h1 k hk
    · rename_i hk
      rw [List.getElem?_eq_none (by omega)]
  rw [e1] at e0
  exact e0
theorem hag.len {np : Nat} {I I1 : IN} (hl : I.1.length = np) (h : hag np I I1) : np ≤ I1.1.length := by
  obtain ⟨⟨m, hm⟩, -⟩ := h.hx hl
  rw [hm, List.length_append, hl]
  omega
theorem rv2_st {I : IN} {M : MT} {ins : Instr} {r : Option BV} {v : Option Value} (h : RV2 I M ins r v) : hvs I r.toList v.toList := by
  rcases h with ⟨-, a, x, ty, rfl, rfl, g, -⟩ | ⟨-, a, x, rfl, rfl, g, -⟩ | ⟨-, rfl, rfl, -⟩
  · exact ⟨g, trivial⟩
  · exact ⟨g, trivial⟩
  · trivial
theorem rv2_to {I J : IN} {M : MT} {ins : Instr} {r r' : Option BV} {v : Option Value} (h : RV2 I M ins r v) (hs : hvs J r'.toList v.toList) : RV2 J M ins r' v := by
  rcases h with ⟨h1, a, x, ty, rfl, rfl, g, h2⟩ | ⟨h1, a, x, rfl, rfl, g, h2⟩ | ⟨h1, rfl, rfl, h2⟩
  · cases r' with
    | none => exact absurd hs id
    | some b => exact Or.inl ⟨h1, b, x, ty, rfl, rfl, hs.1, h2⟩
  · cases r' with
    | none => exact absurd hs id
    | some b => exact Or.inr (Or.inl ⟨h1, b, x, rfl, rfl, hs.1, h2⟩)
  · cases r' with
    | none => exact Or.inr (Or.inr ⟨h1, rfl, rfl, h2⟩)
    | some b => exact absurd hs id
theorem ret_of {np : Nat} {I I1 : IN} {ks0 : List Nat} {wp0 : va_W} {wr : WR} {M : MT} {p : Program} {e : Env} {R : Room} {s : State} {m : MethodId} {args : Array Value} {below : List Frame} {meth : Method} {c : Code} {A : Nat → Prop} {Q : State → Prop} {rm : RMt} {cb sb : Nat} {outs outs' : List OUB} (h0 : FP0 FP) (hl : I.1.length = np) (hg : hag np I I1)
    (ho : outs.all (fun o => outs'.any (g_out np o)) = true) (hR : RetOK2 T FP D cy I ks0 wp0 wr M p l e R s m args below meth c A Q rm cb sb outs') : RetOK2 T FP D cy I1 ks0 wp0 wr M p l e R s m args below meth c A Q rm cb sb outs := by
  intro o hoo ins pc I2 H locs ls ks wp v hd hv9 hF w2 w3 w4 hx hu
  obtain ⟨o', ho', h2⟩ := List.any_eq_true.mp (List.all_eq_true.mp ho o hoo)
  unfold g_out at h2
  simp only [Bool.and_eq_true] at h2
  obtain ⟨zs, z1, z2, z3, -, z6⟩ := g_all_ok (lo := []) (lo' := []) (lv := []) h0 hF (lv_entry [] (n := 0) (Nat.le_of_ble_eq_true rfl)) trivial (rv2_st hv9) h2.1
  have hg2 : hag np I (zs, I2.2) := by
    have h3 := hg.xt hl hx
    refine ⟨fun k hk => ?_, h3.2.1, h3.2.2⟩
    obtain ⟨y, y1, y2⟩ := z2 k hk
    rw [← h3.1 k hk]
    show zs[k]? = _
    rw [y1, y2]
  exact hR o' ho' ins pc (zs, I2.2) H locs ls ks wp v hd (rv2_to hv9 z6) z3 w2 w3 w4 (hg2.hx hl) hu
set_option maxHeartbeats 1000000 in
theorem sp_ok {G : GT} {i fuel : Nat} {sp : SPt} (hP : POK2 G.2.1 G.2.2.1 OW) (hEW : EWOK EW) (h0 : FP0 FP) (hFP : FPOK G.1 FP) (hSU : SUOK G.1) (hHK : HKOK G.1 FP cy G.2.2.2.2.2.1) (hOX : OXOK (fun _ => True) G.1 FP OW EW D cy l G.2.2.2.2.2.2)
    (hSP : ∀ (j : Nat) (sp : SPt), j < i → G.2.2.2.2.1[j]? = some sp → SPOK G.1 FP EW D cy l G.2.1 sp) (h : f_chkA G i fuel sp = true) : SPOK G.1 FP EW D cy l G.2.1 sp := by
  intro M' hM' I ks wp vs sz hF hvs9
  unfold f_chkA at h
  simp only [Bool.and_eq_true] at h
  obtain ⟨k0, k1, k2⟩ := h
  rw [hM'] at k2
  obtain ⟨mok, tok, ow⟩ := hP.1 _ _ hM'
  have hl : I.1.length = (pF sp).1 := hF.2.1.1
  refine met_of2 (OW := OW) sz hEW mok tok ow hvs9 hF (Nat.le_of_ble_eq_true k2) (fun p e s m args below meth c A Q X hR => ?_)
  have hX : ∀ I1 : IN, hag (pF sp).1 I I1 → Cx OW EW D cy I1.2.2 M' (mY M').cls p (rmR (pR sp)) s m args meth c A (pR sp) 0 0 := fun I1 h1 => by rw [h1.2.1]; exact X
  have hcut : ∀ (N : Nat), ∀ ct ∈ pC sp, ∀ (I1 : IN) (H : Heap) (locs : List Loc) (ls : Array Slot) (lv : List (Nat × Value)) (vs1 : List Value) (ks1 : List Nat) (wp1 : va_W), hag (pF sp).1 I I1 → lv_has ls (mL M') lv → hlv I1 ct.2.1 lv → hvs I1 ct.2.2.1 vs1 → HS G.1 FP cy I1 ks1 wp1 ct.2.2.2.1 → va_P D vwCl wp1 H → va_D A wp1 → va_S A s.heap H locs → Unch (pW sp) ks wp ks1 wp1 →
      (m_et I1.1 ct.2.2.2.2.2.1 ct.2.2.2.2.2.2).toNat < N → W p l e (rmR (pR sp)) s m args below meth c H locs (0 + ct.2.2.2.2.1.1) (0 + ct.2.2.2.2.1.2) Q (F0 m ct.1 ls vs1) := by
    intro N
    induction N with
    | zero => intro ct hct I1 H locs ls lv vs1 ks1 wp1 _ _ _ _ _ _ _ _ _ hN; omega
    | succ N ih =>
      intro ct hct I1 H locs ls lv vs1 ks1 wp1 b1 b2 b3 b4 b5 b6 b7 b8 b9 hN
      have hc := List.all_eq_true.mp k1 ct hct
      unfold f_chkC at hc
      rw [hM'] at hc
      obtain ⟨pc, lo, st, F, ⟨nc, ns⟩, mm⟩ := ct
      simp only [Bool.and_eq_true] at hc
      obtain ⟨hc1, hc2⟩ := hc
      simp only at b3 b4 b5 hN ⊢
      split at hc1
      · rename_i b hb
        have hb1 := of_decide_eq_true hc1
        split at hc2
        · rename_i outs hrun
          refine f_sound hP hEW h0 hFP hSU hHK (fun _ _ _ _ => trivial) hOX hSP fuel true 1 (pR sp) M' _ _ outs hrun (fun q hq => tok.1 q (e_suf_in q hq)) I1 ks wp (mY M').cls p e (rmR (pR sp)) s m args below meth c A Q 0 0 trivial (hX I1 b1) (ret_of h0 hl b1 hc2 hR) (fun _ => ⟨b1.len hl, fun mx hmx J hJ => ?_, ?_⟩) I1 H locs ls lv vs1 ks1 wp1 [] b2 b3 b4 b5 rfl (by rw [List.append_nil]; exact b6) (by rw [List.append_nil]; exact b7) b8 hxt.rf b9
          · cases hmx
            exact m_lb_xt b5.2.1 hJ hb
          · intro ct' hct' I2 H' locs' ls' lv' vs' ks' wp' d1 d2 d3 d4 d5 d6 d7 d8 d9 d10 d11 d12
            have hc' := List.all_eq_true.mp k1 ct' hct'
            unfold f_chkC at hc'
            rw [hM'] at hc'
            obtain ⟨pc', lo', st', F', ⟨nc', ns'⟩, mm'⟩ := ct'
            simp only [Bool.and_eq_true] at hc'
            have hc1' := hc'.1
            split at hc1'
            · rename_i b' hb'
              have hb1' := of_decide_eq_true hc1'
              have hlb := m_lb_ok d7.2.1 hb'
              have hlt := d12 mm rfl
              simp only at hlb hlt
              obtain ⟨m2, hm2⟩ := d3
              obtain ⟨m3, hm3⟩ := b1.2.2
              refine ih _ hct' I2 H' locs' ls' lv' vs' ks' wp' ⟨fun k hk => by rw [d1 k hk]; exact b1.1 k hk, by rw [d2]; exact b1.2.1, m3 ++ m2, by rw [hm2, hm3, List.append_assoc]⟩ d4 d5 d6 d7 d8 d9 d10 d11 ?_
              simp only
              omega
            · cases hc1'
        · cases hc2
      · cases hc1
  unfold f_chk0 at k0
  rw [hM'] at k0
  simp only at k0
  split at k0
  · rename_i outs hrun
    have hg0 : hag (pF sp).1 I I := ⟨fun _ _ => rfl, rfl, [], by simp⟩
    refine f_sound hP hEW h0 hFP hSU hHK (fun _ _ _ _ => trivial) hOX hSP fuel true 0 (pR sp) M' _ _ outs hrun tok.1 I ks wp (mY M').cls p e (rmR (pR sp)) s m args below meth c A Q 0 0 trivial X (ret_of h0 hl hg0 k0 hR) (fun _ => ⟨by omega, fun mx hmx => (by cases hmx), ?_⟩)
    intro ct hct I2 H' locs' ls' lv' vs' ks' wp' d1 d2 d3 d4 d5 d6 d7 d8 d9 d10 d11 d12
    exact hcut _ ct hct I2 H' locs' ls' lv' vs' ks' wp' ⟨d1, d2, d3⟩ d4 d5 d6 d7 d8 d9 d10 d11 (Nat.lt_succ_self _)
  · cases k0
end BSPEC
