/-! the law's call of city, on both sides -/
section CY0
variable {cy : Nat → ClassId} {D : va_G} {H : Heap} {AK : List (Nat × Nat)} {ks : List Nat} {wp : va_W}
theorem ob_inj {q ci k : Nat} {vs vs' : List Value} {r : vw_C} (hc : vwCl[ci]? = some r) (hk : k < r.2.2) (h1 : va_at D vwCl (q, .inr (ci, vs)) H) (h2 : va_at D vwCl (q, .inr (ci, vs')) H) : vs.getD k .null = vs'.getD k .null := by
  obtain ⟨r1, a1, cell, b1, -, -, b2⟩ := h1
  obtain ⟨r2, a2, cell', c1, -, -, c2⟩ := h2
  have a1 : vwCl[ci]? = some r1 := a1
  have a2 : vwCl[ci]? = some r2 := a2
  rw [hc] at a1 a2
  cases a1
  cases a2
  have b1 : H[q]? = some cell := b1
  have c1 : H[q]? = some cell' := c1
  rw [b1] at c1
  cases c1
  have e1 := b2 k hk
  have e2 := c2 k hk
  simp only at e1 e2
  rw [e1] at e2
  exact Option.some.inj e2
/-- two tellings of one object -/
theorem ob_eq {q ci j : Nat} {tys : List BT} {e : va_E} {vs : List Value} {r : vw_C} {v : Value} (hc : vwCl[ci]? = some r) (hj : j < r.2.2) (hs : kshape cy (.inr (ci, tys)) e) (hj2 : j < tys.length) (h1 : va_at D vwCl (q, e) H) (h2 : va_at D vwCl (q, .inr (ci, vs)) H) (hv : vs[j]? = some v) : cval e j = some v := by
  obtain ⟨vs0, rfl, hl⟩ := hs
  have h3 := ob_inj hc hj h1 h2
  rw [List.getD_eq_getElem?_getD, List.getD_eq_getElem?_getD, hv] at h3
  simp only [cval]
  have h4 : j < vs0.length := by omega
  rw [List.getElem?_eq_getElem h4] at h3 ⊢
  simp only [Option.getD_some] at h3
  rw [h3]
/-- of one row of ints -/
theorem ar_eq {q t n j : Nat} {x : List (Nat × BT)} {e : va_E} {f : Nat → Int32} (ht9 : t ≤ 2) (hs : kshape cy (.inl (t, n, x)) e) (hj : j < n) (h1 : va_at D vwCl (q, e) H) (h2 : va_at D vwCl (q, .inl (cy t, n, .inl f)) H) : cval e j = some (.int (f j)) := by
  rcases hs with ⟨-, g, rfl⟩ | ⟨h0, -⟩ | ⟨h0, -⟩
  · have w1 : H[q]? = some (vp_cell (cy t) (n, .inl g)) := h1
    have w2 : H[q]? = some (vp_cell (cy t) (n, .inl f)) := h2
    rw [w1] at w2
    have w3 := arr_inj (Option.some.inj w2) hj
    simp only [cval]
    rw [if_pos hj, w3]
  · omega
  · omega
/-- an object of the pool, by what an exact contract says of it -/
theorem pool_ob {κ q ci j : Nat} {tys : List BT} {vs : List Value} {r : vw_C} {v : Value} (hp : hpool T2 cy AK ks wp) (hP : va_P D vwCl wp H) (hd : T2.1[κ]? = some (.inr (ci, tys))) (hq : (q, κ) ∈ AK) (hc : vwCl[ci]? = some r) (hj : j < r.2.2) (hj2 : j < tys.length) (h2 : va_at D vwCl (q, .inr (ci, vs)) H) (hv : vs[j]? = some v) : ∃ (i : Nat) (e : va_E), ks[i]? = some κ ∧ wp[i]? = some (q, e) ∧ cval e j = some v := by
  obtain ⟨i, e, g1, g2, g3⟩ := hp_ref hp hq hd
  exact ⟨i, e, g1, g2, ob_eq hc hj g3.1 hj2 (hP i _ g2) h2 hv⟩
theorem pool_ar {κ q t n j : Nat} {x : List (Nat × BT)} {f : Nat → Int32} (hp : hpool T2 cy AK ks wp) (hP : va_P D vwCl wp H) (hd : T2.1[κ]? = some (.inl (t, n, x))) (ht9 : t ≤ 2) (hq : (q, κ) ∈ AK) (hj : j < n) (h2 : va_at D vwCl (q, .inl (cy t, n, .inl f)) H) : ∃ (i : Nat) (e : va_E), ks[i]? = some κ ∧ wp[i]? = some (q, e) ∧ cval e j = some (.int (f j)) := by
  obtain ⟨i, e, g1, g2, g3⟩ := hp_ref hp hq hd
  exact ⟨i, e, g1, g2, ar_eq ht9 g3.1 hj (hP i _ g2) h2⟩
/-- the unique cell of a kind, told exactly -/
theorem has_ob {κ q ci j : Nat} {tys : List BT} {vs : List ZV} {r : vw_C} {v : ZV} (hp : hpool T2 cy AK ks wp) (hu : κ < 51) (hP : va_P D vwCl wp H) (hd : T2.1[κ]? = some (.inr (ci, tys))) (hc : vwCl[ci]? = some r) (hj : j < r.2.2) (hj2 : j < tys.length) (hz : hasz cy ks wp κ (q, .inl (ci, vs))) (hv : vs[j]? = some v) : c_cu ks wp κ j = some (zv v) := by
  obtain ⟨i, e, g1, g2, g3⟩ := hz
  obtain ⟨q', e', d', h1, h2, h3, -⟩ := hp.2.1 i κ g1
  rw [g2] at h1
  cases h1
  rw [hd] at h2
  cases h2
  rw [cu_at hp hu g1 g2]
  exact ob_eq (vs := vs.map zv) hc hj h3.1 hj2 (hP i _ g2) (g3 D H (hP i _ g2)) (by rw [List.getElem?_map, hv]; rfl)
theorem has_ar {κ q t n j : Nat} {x : List (Nat × BT)} {f : Nat → Int} (hp : hpool T2 cy AK ks wp) (hu : κ < 51) (hP : va_P D vwCl wp H) (hd : T2.1[κ]? = some (.inl (t, n, x))) (ht9 : t ≤ 2) (hj : j < n) (hz : hasz cy ks wp κ (q, .inr (.inl (t, n, f)))) : c_cu ks wp κ j = some (.int (Int32.ofInt (f j))) := by
  obtain ⟨i, e, g1, g2, g3⟩ := hz
  obtain ⟨q', e', d', h1, h2, h3, -⟩ := hp.2.1 i κ g1
  rw [g2] at h1
  cases h1
  rw [hd] at h2
  cases h2
  rw [cu_at hp hu g1 g2]
  exact ar_eq ht9 h3.1 hj (hP i _ g2) (g3 D H (hP i _ g2))
/-- the same cell behind a call: its kind, its address -/
theorem un_at {wr : WR} {ks1 : List Nat} {wp1 : va_W} {AK1 : List (Nat × Nat)} {κ i q : Nat} {e : va_E} {d : KD} (hp1 : hpool T2 cy AK1 ks1 wp1) (hu : Unch wr ks wp ks1 wp1) (hd : T2.1[κ]? = some d) (g1 : ks[i]? = some κ) (g2 : wp[i]? = some (q, e)) : ∃ e' : va_E, ks1[i]? = some κ ∧ wp1[i]? = some (q, e') ∧ kshape cy d e' ∧ (q, κ) ∈ AK1 := by
  obtain ⟨⟨more, hm⟩, h3⟩ := hu
  obtain ⟨e', h4, -⟩ := h3 i κ q e g1 g2
  have h5 : ks1[i]? = some κ := by rw [hm, List.getElem?_append_left (List.getElem?_eq_some_iff.mp g1).1]; exact g1
  obtain ⟨q2, e2, d2, w3, w4, w5, w6⟩ := hp1.2.1 i κ h5
  rw [h4] at w3
  cases w3
  rw [hd] at w4
  cases w4
  exact ⟨e', h5, h4, w5.1, w6⟩
/-- the unique cell of a kind behind a call, by what the exact contract says -/
theorem aft_ob {wr : WR} {ks1 : List Nat} {wp1 : va_W} {AK1 : List (Nat × Nat)} {κ q ci j : Nat} {y : ZE} {tys : List BT} {vs : List ZV} {r : vw_C} {v : ZV} (hp1 : hpool T2 cy AK1 ks1 wp1) (hu : Unch wr ks wp ks1 wp1) (hk : κ < 51) (hP1 : va_P D vwCl wp1 H) (hd : T2.1[κ]? = some (.inr (ci, tys))) (hc : vwCl[ci]? = some r) (hj : j < r.2.2) (hj2 : j < tys.length) (hz : hasz cy ks wp κ (q, y)) (hat : va_at D vwCl (zc cy (q, .inl (ci, vs))) H) (hv : vs[j]? = some v) : c_cu ks1 wp1 κ j = some (zv v) := by
  obtain ⟨i, e, g1, g2, -⟩ := hz
  obtain ⟨e', w1, w2, w3, -⟩ := un_at hp1 hu hd g1 g2
  rw [cu_at hp1 hk w1 w2]
  exact ob_eq (vs := vs.map zv) hc hj w3 hj2 (hP1 i _ w2) hat (by rw [List.getElem?_map, hv]; rfl)
theorem aft_ar {wr : WR} {ks1 : List Nat} {wp1 : va_W} {AK1 : List (Nat × Nat)} {κ q t n j : Nat} {y : ZE} {x : List (Nat × BT)} {f : Nat → Int} (hp1 : hpool T2 cy AK1 ks1 wp1) (hu : Unch wr ks wp ks1 wp1) (hk : κ < 51) (hP1 : va_P D vwCl wp1 H) (hd : T2.1[κ]? = some (.inl (t, n, x))) (ht9 : t ≤ 2) (hj : j < n) (hz : hasz cy ks wp κ (q, y)) (hat : va_at D vwCl (zc cy (q, .inr (.inl (t, n, f)))) H) : c_cu ks1 wp1 κ j = some (.int (Int32.ofInt (f j))) := by
  obtain ⟨i, e, g1, g2, -⟩ := hz
  obtain ⟨e', w1, w2, w3, -⟩ := un_at hp1 hu hd g1 g2
  rw [cu_at hp1 hk w1 w2]
  exact ar_eq ht9 w3 hj (hP1 i _ w2) hat
/-- an object that stands beside the world of an exact contract -/
theorem key_ob {wr : WR} {ks1 : List Nat} {wp1 : va_W} {AK1 : List (Nat × Nat)} {κs : List Nat} {κ q ci j : Nat} {tys : List BT} {r : vw_C} {v : Value} {w : va_W} (hA1 : hap wp1) (hp : hpool T2 cy AK ks wp) (hp1 : hpool T2 cy AK1 ks1 wp1) (hu : Unch wr ks wp ks1 wp1) (hP1 : va_P D vwCl wp1 H) (hr : va_P D vwCl (w ++ restz κs ks wp) H) (hκ : κ ∉ κs) (h100 : κ < 100) (hd : T2.1[κ]? = some (.inr (ci, tys))) (hc : vwCl[ci]? = some r) (hj : j < r.2.2) (hj2 : j < tys.length) (hv : c_cu ks wp (ky q κ) j = some v) : c_cu ks1 wp1 (ky q κ) j = some v := by
  rw [c_cu_ky (hp_100 (T := T2) suok2.1 hp) h100] at hv
  split at hv
  · rename_i e he
    obtain ⟨i, g1, g2, -⟩ := c_fa_ix he
    obtain ⟨q', e', d', h1, h2, h3, -⟩ := hp.2.1 i κ g1
    rw [g2] at h1
    cases h1
    rw [hd] at h2
    cases h2
    obtain ⟨vs, rfl, hl⟩ := h3.1
    obtain ⟨e2, w1, w2, w3, -⟩ := un_at hp1 hu hd g1 g2
    rw [cu_nm hA1 hp1 w1 w2]
    exact ob_eq hc hj w3 hj2 (hP1 i _ w2) (va_P_mem.mp hr _ (List.mem_append_right _ (rest_of g1 g2 hκ))) hv
  · cases hv
theorem key_ar {wr : WR} {ks1 : List Nat} {wp1 : va_W} {AK1 : List (Nat × Nat)} {κs : List Nat} {κ q t n j : Nat} {x : List (Nat × BT)} {v : Value} {w : va_W} (hA1 : hap wp1) (hp : hpool T2 cy AK ks wp) (hp1 : hpool T2 cy AK1 ks1 wp1) (hu : Unch wr ks wp ks1 wp1) (hP1 : va_P D vwCl wp1 H) (hr : va_P D vwCl (w ++ restz κs ks wp) H) (hκ : κ ∉ κs) (h100 : κ < 100) (hd : T2.1[κ]? = some (.inl (t, n, x))) (ht9 : t ≤ 2) (hj : j < n) (hv : c_cu ks wp (ky q κ) j = some v) : c_cu ks1 wp1 (ky q κ) j = some v := by
  rw [c_cu_ky (hp_100 (T := T2) suok2.1 hp) h100] at hv
  split at hv
  · rename_i e he
    obtain ⟨i, g1, g2, -⟩ := c_fa_ix he
    obtain ⟨q', e', d', h1, h2, h3, -⟩ := hp.2.1 i κ g1
    rw [g2] at h1
    cases h1
    rw [hd] at h2
    cases h2
    rcases h3.1 with ⟨-, f, rfl⟩ | ⟨h0, -⟩ | ⟨h0, -⟩
    · obtain ⟨e2, w1, w2, w3, -⟩ := un_at hp1 hu hd g1 g2
      rw [cu_nm hA1 hp1 w1 w2]
      have h5 := ar_eq ht9 w3 hj (hP1 i _ w2) (va_P_mem.mp hr _ (List.mem_append_right _ (rest_of g1 g2 hκ)))
      rw [h5]
      simp only [cval] at hv
      rw [if_pos hj] at hv
      exact hv
    · omega
    · omega
  · cases hv
theorem arr_injL {cA cB : ClassId} {n : Nat} {f g : Nat → Int64} (h : vp_cell cA (n, .inr (.inl f)) = vp_cell cB (n, .inr (.inl g))) {j : Nat} (hj : j < n) : f j = g j := by
  have h1 : (arrV cA n (fun j => .long (f j))).slots[j]? = (arrV cB n (fun j => .long (g j))).slots[j]? := by
    have h2 : arrV cA n (fun j => .long (f j)) = arrV cB n (fun j => .long (g j)) := h
    rw [h2]
  rw [arrV_read cA _ hj, arrV_read cB _ hj] at h1
  exact Value.long.inj (Option.some.inj h1)
/-- two tellings of one row of longs -/
theorem al_eq {q n j : Nat} {x : List (Nat × BT)} {e : va_E} {f : Nat → Int64} (hs : kshape cy (.inl (3, n, x)) e) (hj : j < n) (h1 : va_at D vwCl (q, e) H) (h2 : va_at D vwCl (q, .inl (cy 3, n, .inr (.inl f))) H) : cval e j = some (.long (f j)) := by
  rcases hs with ⟨h0, -⟩ | ⟨-, g, rfl⟩ | ⟨h0, -⟩
  · omega
  · have w1 : H[q]? = some (vp_cell (cy 3) (n, .inr (.inl g))) := h1
    have w2 : H[q]? = some (vp_cell (cy 3) (n, .inr (.inl f))) := h2
    rw [w1] at w2
    have w3 := arr_injL (Option.some.inj w2) hj
    simp only [cval]
    rw [if_pos hj, w3]
  · omega
theorem pool_al {κ q n j : Nat} {x : List (Nat × BT)} {f : Nat → Int64} (hp : hpool T2 cy AK ks wp) (hP : va_P D vwCl wp H) (hd : T2.1[κ]? = some (.inl (3, n, x))) (hq : (q, κ) ∈ AK) (hj : j < n) (h2 : va_at D vwCl (q, .inl (cy 3, n, .inr (.inl f))) H) : ∃ (i : Nat) (e : va_E), ks[i]? = some κ ∧ wp[i]? = some (q, e) ∧ cval e j = some (.long (f j)) := by
  obtain ⟨i, e, g1, g2, g3⟩ := hp_ref hp hq hd
  exact ⟨i, e, g1, g2, al_eq g3.1 hj (hP i _ g2) h2⟩
theorem aft_al {wr : WR} {ks1 : List Nat} {wp1 : va_W} {AK1 : List (Nat × Nat)} {κ q n j : Nat} {y : ZE} {x : List (Nat × BT)} {f : Nat → Int} (hp1 : hpool T2 cy AK1 ks1 wp1) (hu : Unch wr ks wp ks1 wp1) (hk : κ < 51) (hP1 : va_P D vwCl wp1 H) (hd : T2.1[κ]? = some (.inl (3, n, x))) (hj : j < n) (hz : hasz cy ks wp κ (q, y)) (hat : va_at D vwCl (zc cy (q, .inr (.inr (n, f)))) H) : c_cu ks1 wp1 κ j = some (.long (Int64.ofInt (f j))) := by
  obtain ⟨i, e, g1, g2, -⟩ := hz
  obtain ⟨e', w1, w2, w3, -⟩ := un_at hp1 hu hd g1 g2
  rw [cu_at hp1 hk w1 w2]
  exact al_eq w3 hj (hP1 i _ w2) hat
theorem key_al {wr : WR} {ks1 : List Nat} {wp1 : va_W} {AK1 : List (Nat × Nat)} {κs : List Nat} {κ q n j : Nat} {x : List (Nat × BT)} {v : Value} {w : va_W} (hA1 : hap wp1) (hp : hpool T2 cy AK ks wp) (hp1 : hpool T2 cy AK1 ks1 wp1) (hu : Unch wr ks wp ks1 wp1) (hP1 : va_P D vwCl wp1 H) (hr : va_P D vwCl (w ++ restz κs ks wp) H) (hκ : κ ∉ κs) (h100 : κ < 100) (hd : T2.1[κ]? = some (.inl (3, n, x))) (hj : j < n) (hv : c_cu ks wp (ky q κ) j = some v) : c_cu ks1 wp1 (ky q κ) j = some v := by
  rw [c_cu_ky (hp_100 (T := T2) suok2.1 hp) h100] at hv
  split at hv
  · rename_i e he
    obtain ⟨i, g1, g2, -⟩ := c_fa_ix he
    obtain ⟨q', e', d', h1, h2, h3, -⟩ := hp.2.1 i κ g1
    rw [g2] at h1
    cases h1
    rw [hd] at h2
    cases h2
    rcases h3.1 with ⟨h0, -⟩ | ⟨-, f, rfl⟩ | ⟨h0, -⟩
    · omega
    · obtain ⟨e2, w1, w2, w3, -⟩ := un_at hp1 hu hd g1 g2
      rw [cu_nm hA1 hp1 w1 w2]
      have h5 := al_eq w3 hj (hP1 i _ w2) (va_P_mem.mp hr _ (List.mem_append_right _ (rest_of g1 g2 hκ)))
      rw [h5]
      simp only [cval] at hv
      rw [if_pos hj] at hv
      exact hv
    · omega
  · cases hv
/-- the city stands -/
theorem cGood_key {wr : WR} {ks1 : List Nat} {wp1 : va_W} {AK1 : List (Nat × Nat)} {κs : List Nat} {qc : Nat} {g : Nat → Int} {b : Nat → Option Value} {w : va_W} (hA1 : hap wp1) (hp : hpool T2 cy AK ks wp) (hp1 : hpool T2 cy AK1 ks1 wp1) (hu : Unch wr ks wp ks1 wp1) (hP1 : va_P D vwCl wp1 H) (hr : va_P D vwCl (w ++ restz κs ks wp) H) (h51 : 51 ∉ κs) (h52 : 52 ∉ κs) (h53 : 53 ∉ κs) (hg : cGood (c_cu ks wp) qc g b) : cGood (c_cu ks1 wp1) qc g b := by
  obtain ⟨qn, qm, NM, x, h1, h1b, h2, h3, h4, h5⟩ := hg
  obtain ⟨r, hr9, hr0⟩ : ∃ r, vwCl[1]? = some r ∧ 1 < r.2.2 := ⟨_, rfl, by decide⟩
  refine ⟨qn, qm, NM, x, key_ob hA1 hp hp1 hu hP1 hr h51 (by decide) (κ := 51) rfl hr9 (by omega) (by decide) h1, key_ob hA1 hp hp1 hu hP1 hr h51 (by decide) (κ := 51) rfl hr9 hr0 (by decide) h1b, fun s hs => ?_, fun k hk => key_al hA1 hp hp1 hu hP1 hr h53 (by decide) (κ := 53) rfl hk (h3 k hk), h4, h5⟩
  obtain ⟨y, y1, y2⟩ := h2 s hs
  exact ⟨y, key_ar hA1 hp hp1 hu hP1 hr h52 (by decide) (κ := 52) rfl (by decide) hs y1, y2⟩
/-- the same, by what is not written -/
theorem cGood_un {wr : WR} {ks1 : List Nat} {wp1 : va_W} {AK1 : List (Nat × Nat)} {κs : List Nat} {qc : Nat} {g : Nat → Int} {b : Nat → Option Value} (hp : hpool T2 cy AK ks wp) (hp1 : hpool T2 cy AK1 ks1 wp1) (hu : Unch wr ks wp ks1 wp1) (ho : o_off wr κs = true) (h51 : 51 ∈ κs) (h52 : 52 ∈ κs) (h53 : 53 ∈ κs) (hg : cGood (c_cu ks wp) qc g b) : cGood (c_cu ks1 wp1) qc g b :=
  cGood_tr (fun _ _ _ _ h1 => c_cu_kun (T := T2) suok2.1 hp hp1 hu (by decide) (o_off_ok ho h51) h1) (fun _ _ _ _ h1 => c_cu_kun (T := T2) suok2.1 hp hp1 hu (by decide) (o_off_ok ho h52) h1) (fun _ _ _ _ h1 => c_cu_kun (T := T2) suok2.1 hp hp1 hu (by decide) (o_off_ok ho h53) h1) (fun _ _ => rfl) (fun _ _ => rfl) hg
end CY0
