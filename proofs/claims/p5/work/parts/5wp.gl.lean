/-! glue: what kinds say of cells, in plain numbers -/
/-- a value between kinds, in plain numbers -/
def hts (AK : List (Nat × Nat)) : List BT → List Value → Prop
  | [], [] => True
  | t :: r, v :: vs => ht AK t v ∧ hts AK r vs
  | _, _ => False
/-- a cell of a kind says what a plain cell says -/
def hasz (cy : Nat → ClassId) (ks : List Nat) (wp : va_W) (κ : Nat) (y : Nat × ZE) : Prop := ∃ (i : Nat) (e : va_E), ks[i]? = some κ ∧ wp[i]? = some (y.1, e) ∧ ∀ (D : va_G) (H : Heap), va_at D vwCl (y.1, e) H → va_at D vwCl (zc cy y) H
def allz (cy : Nat → ClassId) (ks : List Nat) (wp : va_W) : List Nat → ZW → Prop
  | [], [] => True
  | κ :: r, y :: Y => hasz cy ks wp κ y ∧ allz cy ks wp r Y
  | _, _ => False
section GL1
variable {cy : Nat → ClassId} {ks ks1 : List Nat} {wp wp1 : va_W} {AK : List (Nat × Nat)}
theorem allz_mem : ∀ {κs : List Nat} {Y : ZW}, allz cy ks wp κs Y → ∀ y ∈ Y, ∃ κ, hasz cy ks wp κ y := by
  intro κs
  induction κs with
  | nil =>
    intro Y h y hy
    cases Y with
    | nil => cases hy
    | cons => exact absurd h id
  | cons κ r ih =>
    intro Y h y hy
    cases Y with
    | nil => cases hy
    | cons y0 Y =>
      rcases List.mem_cons.mp hy with rfl | hy
      · exact ⟨κ, h.1⟩
      · exact ih h.2 y hy
theorem allz_P {D : va_G} {κs : List Nat} {Y : ZW} {H : Heap} (h : allz cy ks wp κs Y) (hP : va_P D vwCl wp H) : va_P D vwCl (zw cy Y) H := by
  refine va_P_mem.mpr (fun q hq => ?_)
  obtain ⟨y, hy, rfl⟩ := List.mem_map.mp hq
  obtain ⟨κ, i, e, h1, h2, h3⟩ := allz_mem h y hy
  exact h3 D H (hP i _ h2)
theorem allz_nd {A : Nat → Prop} (hD : va_D A wp) : ∀ {κs : List Nat} {Y : ZW}, allz cy ks wp κs Y → κs.Nodup → (Y.map (fun q => q.1)).Nodup ∧ ∀ y ∈ Y, ∃ κ ∈ κs, ∃ (i : Nat) (e : va_E), ks[i]? = some κ ∧ wp[i]? = some (y.1, e) := by
  intro κs
  induction κs with
  | nil =>
    intro Y h _
    cases Y with
    | nil => exact ⟨List.nodup_nil, fun y hy => by cases hy⟩
    | cons => exact absurd h id
  | cons κ r ih =>
    intro Y h hn
    cases Y with
    | nil => exact absurd h id
    | cons y0 Y =>
      obtain ⟨⟨i0, e0, g1, g2, -⟩, h2⟩ := h
      obtain ⟨n1, n2⟩ := List.nodup_cons.mp hn
      obtain ⟨k1, k2⟩ := ih h2 n2
      refine ⟨?_, fun y hy => ?_⟩
      · rw [List.map_cons, List.nodup_cons]
        refine ⟨fun hm => ?_, k1⟩
        obtain ⟨y, hy, e9⟩ := List.mem_map.mp hm
        obtain ⟨κ', hκ, i, e, w1, w2⟩ := k2 y hy
        have e9 : y.1 = y0.1 := e9
        have e8 := hD.1 i i0 _ _ w2 g2 e9
        subst e8
        rw [g1] at w1
        cases w1
        exact n1 hκ
      · rcases List.mem_cons.mp hy with rfl | hy
        · exact ⟨κ, List.mem_cons_self, i0, e0, g1, g2⟩
        · obtain ⟨κ', hκ, w⟩ := k2 y hy
          exact ⟨κ', List.mem_cons_of_mem _ hκ, w⟩
theorem allz_D {A : Nat → Prop} {κs : List Nat} {Y : ZW} (h : allz cy ks wp κs Y) (hn : κs.Nodup) (hD : va_D A wp) : va_D A (zw cy Y) := by
  obtain ⟨k1, k2⟩ := allz_nd hD h hn
  refine va_D_mem.mpr ⟨?_, fun q hq => ?_⟩
  · have e : (zw cy Y).map (fun q => q.1) = Y.map (fun q => q.1) := by
      show (Y.map (zc cy)).map (fun q => q.1) = _
      rw [List.map_map]
      rfl
    rw [e]
    exact k1
  · obtain ⟨y, hy, rfl⟩ := List.mem_map.mp hq
    obtain ⟨κ, -, i, e, w1, w2⟩ := k2 y hy
    exact hD.2 i (y.1, e) w2
theorem allz_A {κs : List Nat} {Y : ZW} {sz q : Nat} (h : allz cy ks wp κs Y) (hq : va_A (zw cy Y) sz q) : va_A wp sz q := by
  rcases hq with ⟨k, e, h1⟩ | h1
  · have h2 := List.mem_of_getElem? h1
    obtain ⟨y, hy, e9⟩ := List.mem_map.mp h2
    obtain ⟨κ, i, e0, g1, g2, -⟩ := allz_mem h y hy
    have e8 : y.1 = q := congrArg (fun z => z.1) e9
    subst e8
    exact Or.inl ⟨i, e0, g2⟩
  · exact Or.inr h1
theorem allz_PJ {D : va_G} {xs : Nat → Int32} {ex : Nat → Nat} {κs : List Nat} {Y : ZW} {vs : List Value} {sz : Nat} {a : Array Value} {U : State} (h : allz cy ks wp κs Y) (hn : κs.Nodup) (hp : PJ2 D cy (EWX xs) ex wp vs sz a U) : PJ2 D cy (EWX xs) ex (zw cy Y) vs sz a U := by
  obtain ⟨h1, h2, h3, h4, h5, h6⟩ := hp
  exact ⟨h1, h2, allz_P h h3, h4, allz_D h hn h5, EWX_ok.1 ex (va_A wp sz) (va_A (zw cy Y) sz) U U [] U.heap h6 (State.WarmedH.refl U) rfl va_S.rf (fun q hq => allz_A h hq)⟩
/-- a cell by its reference -/
theorem hp_ref {q κ : Nat} {d : KD} (hp : hpool T2 cy AK ks wp) (hq : (q, κ) ∈ AK) (hd : T2.1[κ]? = some d) : ∃ (i : Nat) (e : va_E), ks[i]? = some κ ∧ wp[i]? = some (q, e) ∧ ktyped cy AK d e := by
  obtain ⟨i, e, g1, g2⟩ := hp.2.2.1 q κ d hq hd
  obtain ⟨q2, e2, d2, g3, g4, g5, -⟩ := hp.2.1 i κ g1
  rw [g2] at g3
  cases g3
  rw [hd] at g4
  cases g4
  exact ⟨i, e, g1, g2, g5⟩
/-- the one cell of a kind has one address -/
theorem hp_one {q q' κ : Nat} {d : KD} (hp : hpool T2 cy AK ks wp) (hu : κ < 51) (hq : (q, κ) ∈ AK) (hq' : (q', κ) ∈ AK) (hd : T2.1[κ]? = some d) : q = q' := by
  obtain ⟨i, e, g1, g2, -⟩ := hp_ref hp hq hd
  obtain ⟨i', e', g1', g2', -⟩ := hp_ref hp hq' hd
  have := hp.2.2.2.1 i i' κ hu g1 g1'
  subst this
  rw [g2] at g2'
  cases g2'
  rfl
theorem cu_at {κ i q j : Nat} {e : va_E} (hp : hpool T2 cy AK ks wp) (hu : κ < 51) (hi : ks[i]? = some κ) (hw : wp[i]? = some (q, e)) : c_cu ks wp κ j = cval e j := by
  have h1 := c_fi_at (wp := wp) (fun i' hi' => hp.2.2.2.1 i' i κ hu hi' hi) hi hw
  unfold c_cu
  rw [h1]
theorem hts_of : ∀ {tys : List BT} {vs : List Value}, vs.length = tys.length → (∀ (j : Nat) (t : BT), j < tys.length → tys[j]? = some t → ∃ v, vs[j]? = some v ∧ ht AK t v) → hts AK tys vs := by
  intro tys
  induction tys with
  | nil =>
    intro vs h _
    cases vs with
    | nil => trivial
    | cons => simp at h
  | cons t r ih =>
    intro vs h h2
    cases vs with
    | nil => simp at h
    | cons v vs =>
      refine ⟨?_, ih (by simpa using h) (fun j t' hj ht9 => ?_)⟩
      · obtain ⟨w, g1, g2⟩ := h2 0 t (by simp) rfl
        cases g1
        exact g2
      · obtain ⟨w, g1, g2⟩ := h2 (j + 1) t' (by simpa using hj) (by simpa using ht9)
        exact ⟨w, by simpa using g1, g2⟩
theorem kt_obj {ci : Nat} {tys : List BT} {e : va_E} (h : ktyped cy AK (.inr (ci, tys)) e) : ∃ vs, e = .inr (ci, vs) ∧ hts AK tys vs := by
  obtain ⟨⟨vs, rfl, hl⟩, h2⟩ := h
  exact ⟨vs, rfl, hts_of hl (fun j t hj ht9 => h2 j t hj ht9)⟩
theorem i32_rng (x : Int32) : zin x.toInt := by
  have h1 := Int32.le_toInt x
  have h2 := Int32.toInt_lt x
  exact ⟨by omega, by omega⟩
theorem i64_rng (x : Int64) : zin64 x.toInt := by
  have h1 := Int64.le_toInt x
  have h2 := Int64.toInt_lt x
  exact ⟨by omega, by omega⟩
theorem hts_i {lo hi : Int} {r : List BT} {vs : List Value} (h : hts AK (.inl (lo, hi) :: r) vs) : ∃ (u : Int) (vs' : List Value), vs = .int (Int32.ofInt u) :: vs' ∧ (lo ≤ u ∧ u ≤ hi ∧ zin u) ∧ hts AK r vs' := by
  cases vs with
  | nil => exact absurd h id
  | cons v vs =>
    obtain ⟨⟨x, rfl, h1, h2⟩, h3⟩ := h
    exact ⟨x.toInt, vs, by rw [z_oT], ⟨h1, h2, i32_rng x⟩, h3⟩
theorem hts_l {lo hi : Int} {r : List BT} {vs : List Value} (h : hts AK (.inr (.inl (lo, hi)) :: r) vs) : ∃ (u : Int) (vs' : List Value), vs = .long (Int64.ofInt u) :: vs' ∧ hts AK r vs' := by
  cases vs with
  | nil => exact absurd h id
  | cons v vs =>
    obtain ⟨⟨x, rfl, h1, h2⟩, h3⟩ := h
    exact ⟨x.toInt, vs, by rw [z_oTL], h3⟩
theorem hts_r {κ : Nat} {r : List BT} {vs : List Value} (h : hts AK (.inr (.inr (κ, true)) :: r) vs) : ∃ (q : Nat) (vs' : List Value), vs = .ref q :: vs' ∧ (q, κ) ∈ AK ∧ hts AK r vs' := by
  cases vs with
  | nil => exact absurd h id
  | cons v vs =>
    obtain ⟨⟨h1, -⟩ | ⟨q, h1, rfl⟩, h3⟩ := h
    · cases h1
    · exact ⟨q, vs, rfl, h1, h3⟩
theorem hts_n {κ : Nat} {r : List BT} {vs : List Value} (h : hts AK (.inr (.inr (κ, false)) :: r) vs) : ∃ (z : ZV) (vs' : List Value), vs = zv z :: vs' ∧ hts AK r vs' := by
  cases vs with
  | nil => exact absurd h id
  | cons v vs =>
    obtain ⟨⟨-, rfl⟩ | ⟨q, h1, rfl⟩, h3⟩ := h
    · exact ⟨zN, vs, rfl, h3⟩
    · exact ⟨zR q, vs, rfl, h3⟩
theorem hts_0 {vs : List Value} (h : hts AK [] vs) : vs = [] := by
  cases vs with
  | nil => rfl
  | cons => exact absurd h id
theorem rI_of (f : Nat → Int32) : rI (fun j => (f j).toInt) = f := funext (fun j => z_oT (f j))
theorem rL_of (f : Nat → Int64) : rL (fun j => (f j).toInt) = f := funext (fun j => z_oTL (f j))
theorem kt_arr {t n : Nat} {x : List (Nat × BT)} {e : va_E} (h : ktyped cy AK (.inl (t, n, x)) e) (ht9 : t ≤ 2) : ∃ f : Nat → Int, e = .inl (cy t, n, .inl (rI f)) ∧ (∀ j, zin (f j)) ∧ ∀ (j : Nat) (ty : BT), j < n → k_seg x j = some ty → ht AK ty (.int (Int32.ofInt (f j))) := by
  obtain ⟨h1, h2⟩ := h
  rcases h1 with ⟨-, f, rfl⟩ | ⟨h1, -⟩ | ⟨h1, -⟩
  · refine ⟨fun j => (f j).toInt, by rw [rI_of], fun j => i32_rng _, fun j ty hj hty => ?_⟩
    obtain ⟨v, g1, g2⟩ := h2 j ty hj hty
    simp only [cval] at g1
    rw [if_pos hj] at g1
    cases g1
    rw [z_oT]
    exact g2
  · omega
  · omega
theorem kt_arl {n : Nat} {x : List (Nat × BT)} {e : va_E} (h : ktyped cy AK (.inl (3, n, x)) e) : ∃ f : Nat → Int, e = .inl (cy 3, n, .inr (.inl (rL f))) ∧ ∀ j, zin64 (f j) := by
  obtain ⟨h1, h2⟩ := h
  rcases h1 with ⟨h1, -⟩ | ⟨-, f, rfl⟩ | ⟨h1, -⟩
  · omega
  · exact ⟨fun j => (f j).toInt, by rw [rL_of], fun j => i64_rng _⟩
  · omega
/-- a tape's bytes, where there are none: 0 -/
def cutB (n : Nat) (f : Nat → Int) (j : Nat) : Int := if j < n then f j else 0
theorem cutB_lt {n j : Nat} {f : Nat → Int} (h : j < n) : cutB n f j = f j := by
  unfold cutB
  rw [if_pos h]
theorem cutB_at {D : va_G} {q t n : Nat} {f : Nat → Int} {H : Heap} (h : va_at D vwCl (q, .inl (cy t, n, .inl (rI f))) H) : va_at D vwCl (zc cy (q, .inr (.inl (t, n, cutB n f)))) H := by
  have h1 : H[q]? = some (vp_cell (cy t) (n, .inl (rI f))) := h
  show H[q]? = some (vp_cell (cy t) (n, .inl (rI (cutB n f))))
  rw [h1]
  refine congrArg some (arr_i (fun j hj => ?_))
  show Int32.ofInt (f j) = Int32.ofInt (cutB n f j)
  rw [cutB_lt hj]
/-- two tellings of one row -/
theorem arr_inj {cA cB : ClassId} {n : Nat} {f g : Nat → Int32} (h : vp_cell cA (n, .inl f) = vp_cell cB (n, .inl g)) {j : Nat} (hj : j < n) : f j = g j := by
  have h1 : (arrV cA n (fun j => .int (f j))).slots[j]? = (arrV cB n (fun j => .int (g j))).slots[j]? := by
    have h2 : arrV cA n (fun j => .int (f j)) = arrV cB n (fun j => .int (g j)) := h
    rw [h2]
  rw [arrV_read cA _ hj, arrV_read cB _ hj] at h1
  exact Value.int.inj (Option.some.inj h1)
/-- a row behind a call, by what its exact contract says of it -/
theorem row_after {D : va_G} {wr : WR} {H : Heap} {κ q n t : Nat} {x : List (Nat × BT)} {g : Nat → Int} {AK1 : List (Nat × Nat)} (hp : hpool T2 cy AK ks wp) (hp1 : hpool T2 cy AK1 ks1 wp1) (hu : Unch wr ks wp ks1 wp1) (hκ : κ < 51) (hd : T2.1[κ]? = some (.inl (t, n, x))) (ht9 : t ≤ 2)
    (hz : hasz cy ks wp κ (q, .inr (.inl (t, n, g)))) (hP1 : va_P D vwCl wp1 H) {g1 : Nat → Int} (hat : va_at D vwCl (zc cy (q, .inr (.inl (t, n, g1)))) H) {j : Nat} (hj : j < n) : c_cu ks1 wp1 κ j = some (.int (Int32.ofInt (g1 j))) := by
  obtain ⟨i, e, h1, h2, -⟩ := hz
  obtain ⟨⟨more, hm⟩, h3⟩ := hu
  obtain ⟨e', h4, -⟩ := h3 i κ q e h1 h2
  have h5 : ks1[i]? = some κ := by rw [hm, List.getElem?_append_left (List.getElem?_eq_some_iff.mp h1).1]; exact h1
  obtain ⟨q2, e2, d2, g3, g4, g5, -⟩ := hp1.2.1 i κ h5
  rw [h4] at g3
  cases g3
  rw [hd] at g4
  cases g4
  obtain ⟨f, rfl, -, -⟩ := kt_arr g5 ht9
  rw [cu_at hp1 hκ h5 h4]
  simp only [cval]
  rw [if_pos hj]
  have w1 : H[q]? = some (vp_cell (cy t) (n, .inl (rI f))) := hP1 i _ h4
  have w2 : H[q]? = some (vp_cell (cy t) (n, .inl (rI g1))) := hat
  rw [w1] at w2
  have w3 := arr_inj (Option.some.inj w2) hj
  rw [w3]
  rfl
end GL1
/-! bytes that are fed, place by place -/
theorem zn_byt (z : Int) : znar (zbyt z) = zbyt z := by
  unfold znar zbyt
  rw [z_oT]
  show ((Int32.ofInt z).toInt8.toInt32.toInt8.toInt32).toInt = _
  rw [Int8.toInt8_toInt32]
theorem yby_eq (v : Int) (r : Nat) : yby v (24 - 8 * (r : Int)) = ((Int32.ofInt v >>> (Int32.ofInt (24 - 8 * (r : Int)) &&& 31)).toInt8.toInt32).toInt := by
  unfold yby
  rw [zn_byt]
  unfold zbyt zshr
  rw [z_oT]
theorem yby_rng (v s : Int) : -128 ≤ yby v s ∧ yby v s ≤ 127 := by
  unfold yby
  rw [zn_byt]
  unfold zbyt
  rw [Int8.toInt_toInt32]
  have h1 := Int8.le_toInt (Int32.ofInt (zshr v s)).toInt8
  have h2 := Int8.toInt_lt (Int32.ofInt (zshr v s)).toInt8
  exact ⟨by omega, by omega⟩
theorem fou_at {B : Nat → Int} {n v : Int} {N i : Nat} (hn : n = (N : Int)) (hi : i < 4) : fou B n v (N + i) = yby v (24 - 8 * (i : Int)) := by
  subst hn
  unfold fou
  rcases (show i = 0 ∨ i = 1 ∨ i = 2 ∨ i = 3 by omega) with rfl | rfl | rfl | rfl
  · rw [zup_ne (by omega), zup_ne (by omega), zup_ne (by omega), show N + 0 = ((N : Int)).toNat by omega, zup_eq]
    rfl
  · rw [zup_ne (by omega), zup_ne (by omega), show N + 1 = ((N : Int) + 1).toNat by omega, zup_eq]
    rfl
  · rw [zup_ne (by omega), show N + 2 = ((N : Int) + 1 + 1).toNat by omega, zup_eq]
    rfl
  · rw [show N + 3 = ((N : Int) + 1 + 1 + 1).toNat by omega, zup_eq]
    rfl
theorem fou_ne {B : Nat → Int} {n v : Int} {N j : Nat} (hn : n = (N : Int)) (hj : j < N ∨ N + 4 ≤ j) : fou B n v j = B j := by
  subst hn
  unfold fou
  rw [zup_ne (by omega), zup_ne (by omega), zup_ne (by omega), zup_ne (by omega)]
theorem fby_at {zs : List Int} {q r : Nat} {v : Int} (hr : r < 4) (hq : zs[q]? = some v) : fby zs (4 * q + r) = yby v (24 - 8 * (r : Int)) := by
  rw [yby_eq]
  unfold fby
  rw [show (4 * q + r) / 4 = q by omega, show (4 * q + r) % 4 = r by omega, List.getD_eq_getElem?_getD, hq]
  rfl
theorem fed_at {B : Nat → Int} {n a b c d e : Int} {N j : Nat} (hn : n = (N : Int)) : fed B n a b c d e j = (if N ≤ j ∧ j < N + 20 then fby [a, b, c, d, e] (j - N) else B j) := by
  unfold fed
  split
  · rename_i h
    obtain ⟨q, r, hr, hq, rfl⟩ : ∃ q r : Nat, r < 4 ∧ q < 5 ∧ j = N + (4 * q + r) := ⟨(j - N) / 4, (j - N) % 4, by omega, by omega, by omega⟩
    rw [show N + (4 * q + r) - N = 4 * q + r by omega]
    rcases (show q = 0 ∨ q = 1 ∨ q = 2 ∨ q = 3 ∨ q = 4 by omega) with rfl | rfl | rfl | rfl | rfl
    · rw [fou_ne (N := N + 16) (by omega) (by omega), fou_ne (N := N + 12) (by omega) (by omega), fou_ne (N := N + 8) (by omega) (by omega), fou_ne (N := N + 4) (by omega) (by omega), fby_at hr (show [a, b, c, d, e][0]? = some a from rfl), show N + (4 * 0 + r) = N + r by omega]
      exact fou_at hn hr
    · rw [fou_ne (N := N + 16) (by omega) (by omega), fou_ne (N := N + 12) (by omega) (by omega), fou_ne (N := N + 8) (by omega) (by omega), fby_at hr (show [a, b, c, d, e][1]? = some b from rfl), show N + (4 * 1 + r) = (N + 4) + r by omega]
      exact fou_at (by omega) hr
    · rw [fou_ne (N := N + 16) (by omega) (by omega), fou_ne (N := N + 12) (by omega) (by omega), fby_at hr (show [a, b, c, d, e][2]? = some c from rfl), show N + (4 * 2 + r) = (N + 8) + r by omega]
      exact fou_at (by omega) hr
    · rw [fou_ne (N := N + 16) (by omega) (by omega), fby_at hr (show [a, b, c, d, e][3]? = some d from rfl), show N + (4 * 3 + r) = (N + 12) + r by omega]
      exact fou_at (by omega) hr
    · rw [fby_at hr (show [a, b, c, d, e][4]? = some e from rfl), show N + (4 * 4 + r) = (N + 16) + r by omega]
      exact fou_at (by omega) hr
  · rename_i h
    rw [fou_ne (N := N + 16) (by omega) (by omega), fou_ne (N := N + 12) (by omega) (by omega), fou_ne (N := N + 8) (by omega) (by omega), fou_ne (N := N + 4) (by omega) (by omega), fou_ne (N := N) hn (by omega)]
theorem fby_rng (zs : List Int) (i : Nat) : -128 ≤ fby zs i ∧ fby zs i ≤ 127 := by
  unfold fby
  rw [Int8.toInt_toInt32]
  have h1 := Int8.le_toInt (Int32.ofInt (zs.getD (i / 4) 0) >>> (Int32.ofInt (24 - 8 * ((i % 4 : Nat) : Int)) &&& 31)).toInt8
  have h2 := Int8.toInt_lt (Int32.ofInt (zs.getD (i / 4) 0) >>> (Int32.ofInt (24 - 8 * ((i % 4 : Nat) : Int)) &&& 31)).toInt8
  exact ⟨by omega, by omega⟩
