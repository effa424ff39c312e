/-! the law's call of city: it does as it says -/
/-- the reference's end of a city: no fault, or an answer below 0 -/
def c5ok (q2 : Option BV × FS) : Bool := match q2.1, f_cf q2.2.2.2.1 25 none (bI 15) with
  | some r, some b => bv_eq b (bI 0) || (f_isI r && h_in q2.2.2.1 (some r) iMin (-1))
  | _, _ => false
theorem aRun_le {K V : Nat → Int} : ∀ (t : Nat) (f : Int) (idx : Nat) (CN NM MK KN : Nat → Int) (x : Int) (n : Nat), (aRun K V t (f, idx, CN, NM, MK, KN, x) n).2 ≤ n + t := by
  intro t
  induction t with
  | zero => intro f idx CN NM MK KN x n; exact Nat.le_refl _
  | succ t ih =>
    intro f idx CN NM MK KN x n
    rw [aRun_succ]
    split
    · show n ≤ n + (t + 1)
      omega
    · split
      · split
        · have h9 := ih 0 ((aLine K V CN NM MK KN x idx).2.1 + 1) (aLine K V CN NM MK KN x idx).2.2.1 (aLine K V CN NM MK KN x idx).2.2.2.1 (aLine K V CN NM MK KN x idx).2.2.2.2.1 (aLine K V CN NM MK KN x idx).2.2.2.2.2.1 (aLine K V CN NM MK KN x idx).2.2.2.2.2.2 (n + 1)
          omega
        · show n ≤ n + (t + 1)
          omega
      · show n ≤ n + (t + 1)
        omega
theorem vc10 : ∃ r, vwCl[10]? = some r ∧ r.2.2 = 18 := ⟨_, rfl, by decide⟩
theorem vc11c : ∃ r, vwCl[11]? = some r ∧ r.2.2 = 53 := ⟨_, rfl, by decide⟩
/-- the reference's city behind the class's -/
def ox_city2 (SP : List SPt) (DM : List (Nat × List Nat)) (lim : Nat) (wr : WR) (rm : RMt) (M : MT) (pc : Nat) (lo : List (Nat × BV)) (rest : List BV) (rw : Option (Nat × Nat)) (nc ns : Nat) (q : Option BV × FS) : Option (List SB) := match x_at (mT M) (pc + 3), x_at (mT M) (pc + 4), x_at (mT M) (pc + 5), f_find lo 2 with
  | some (.pop, 1), some (.aload_n k, 1), some (ins2, 3), some b => if (Nat.beq k.val 2 && bv_eq b (bP 25 true none)) = true then (match o_call SP DM lim wr rm M (pc + 5, lo, bP 25 true none :: rest, q.2, rw, nc, ns) ins2 3 with
    | some (j2, _, as2, rest2, sp2, L2) => if (Nat.beq j2 99 && (bvs_eq as2 [bP 25 true none] && (bvs_eq rest2 rest && (rm_eq (pR sp2) (6, 0, 0, 132) && (o_off (pW sp2) [44, 51, 52, 53, 21, 71, 78, 41, 42, 7, 8, 64] && (o_off (pW sp2) [0] && L2.all c5ok)))))) = true then some (L2.map (fun q2 => f_aftS (pc + 5, lo, bP 25 true none :: rest, q.2, rw, nc, ns) rest (pR sp2).2.1 (pR sp2).2.2.1 (o_add 90 [] (o_add 91 [] (o_add 94 [] (o_add 95 [] (o_add 106 [] q2))))))) else none
    | none => none) else none
  | _, _, _, _ => none
/-- what is kept of the city behind the class's reader -/
def cy1 (cu : CUt) (g : Nat → Int) (b : Nat → Option Value) : Prop := (∃ qc : Nat, cu 44 0 = some (.ref qc) ∧ cGood cu qc g b) ∧ (∃ qc : Nat, cu 44 0 = some (.ref qc) ∧ hGo cu qc (cint cu 7 1) (cint cu 7 2) (-1)) ∧ ∀ j, j < 2 → (cu 21 j = some .null ∨ ∃ q qc : Nat, cu 21 j = some (.ref q) ∧ cu (ky q (ki j)) 0 = some (.ref qc) ∧ cGood cu qc (fun s => cint cu 41 (269 * j + s)) (fun k => cu 42 (28 * j + k)))
section CY1
variable {xs : Nat → Int32} {D : va_G} {cy : Nat → ClassId} {I0 : IN} {ks0 : List Nat} {wp0 : va_W} {wr : WR} {M : MT} {own : String}
variable {p : Program} {l : Launch} {e : Env} {R : Room} {s : State} {m : MethodId} {args : Array Value} {below : List Frame} {meth : Method} {c : Code} {A : Nat → Prop} {Q : State → Prop} {rm : RMt} {cb sb : Nat}
theorem hGo_un {AK AK' : List (Nat × Nat)} {ks ks1 : List Nat} {wp wp1 : va_W} {w9 : WR} {κs : List Nat} {qc : Nat} {f g h : Int} (hp : hpool T2 cy AK ks wp) (hp1 : hpool T2 cy AK' ks1 wp1) (hu : Unch w9 ks wp ks1 wp1) (ho : o_off w9 κs = true) (h8 : 8 ∈ κs) (h64 : 64 ∈ κs) (hg : hGo (c_cu ks wp) qc f g h) : hGo (c_cu ks1 wp1) qc f g h :=
  hGo_tr (fun j _ _ => c_cu_unch (T := T2) (I := ([], AK, fun _ => 0)) hp hu (by decide) (o_off_ok ho h8)) (fun q v h9 => c_cu_kun (T := T2) suok2.1 hp hp1 hu (by decide) (o_off_ok ho h64) h9) hg
theorem ki_lt {j : Nat} (hj : j < 2) : ki j < 100 := by unfold ki; omega
theorem ki_in {j : Nat} {κs : List Nat} (hj : j < 2) (h1 : 71 ∈ κs) (h2 : 78 ∈ κs) : ki j ∈ κs := by
  rcases (show j = 0 ∨ j = 1 by omega) with rfl | rfl
  · exact h1
  · exact h2
theorem cy_un {AK AK' : List (Nat × Nat)} {ks ks1 : List Nat} {wp wp1 : va_W} {w9 : WR} {g : Nat → Int} {b : Nat → Option Value} (hp : hpool T2 cy AK ks wp) (hp1 : hpool T2 cy AK' ks1 wp1) (hu : Unch w9 ks wp ks1 wp1) (ho : o_off w9 [44, 51, 52, 53, 21, 71, 78, 41, 42, 7, 8, 64] = true) (h : cy1 (c_cu ks wp) g b) : cy1 (c_cu ks1 wp1) g b := by
  have un : ∀ {κ j : Nat}, κ < 51 → κ ∈ [44, 51, 52, 53, 21, 71, 78, 41, 42, 7, 8, 64] → c_cu ks1 wp1 κ j = c_cu ks wp κ j := fun hk hm => c_cu_unch (T := T2) (I := ([], AK, fun _ => 0)) hp hu hk (o_off_ok ho hm)
  obtain ⟨⟨qc, a1, a2⟩, ⟨qd, b1, b2⟩, h3⟩ := h
  refine ⟨⟨qc, by rw [un (by decide) (by decide)]; exact a1, cGood_un hp hp1 hu ho (by decide) (by decide) (by decide) a2⟩, ⟨qd, by rw [un (by decide) (by decide)]; exact b1, ?_⟩, fun j hj => ?_⟩
  · rw [cint_eq (un (κ := 7) (j := 1) (by decide) (by decide)), cint_eq (un (κ := 7) (j := 2) (by decide) (by decide))]
    exact hGo_un hp hp1 hu ho (by decide) (by decide) b2
  · rw [un (κ := 21) (by decide) (by decide)]
    rcases h3 j hj with h4 | ⟨q, qe, c1, c2, c3⟩
    · exact Or.inl h4
    · exact Or.inr ⟨q, qe, c1, c_cu_kun (T := T2) suok2.1 hp hp1 hu (ki_lt hj) (o_off_ok ho (ki_in hj (by decide) (by decide))) c2, cGood_eq (fun s hs => (cint_eq (un (κ := 41) (by decide) (by decide))).symm) (fun k hk => (un (κ := 42) (by decide) (by decide)).symm) (cGood_un hp hp1 hu ho (by decide) (by decide) (by decide) c3)⟩
theorem cy_in {cu : CUt} (h90 : FPX 90 cu []) (h91 : FPX 91 cu []) (h94 : FPX 94 cu []) (h95 : FPX 95 cu []) : cy1 cu (cint cu 27) (fun k => cu 30 k) := by
  refine ⟨h90.2, h91.2, fun j hj => ?_⟩
  rcases (show j = 0 ∨ j = 1 by omega) with rfl | rfl
  · exact ((f94 (j := 0) (by decide)).mp h94).2
  · exact ((f94 (j := 1) (by decide)).mp h95).2
theorem cy_out {I : IN} {ks : List Nat} {wp : va_W} {g : Nat → Int} {b : Nat → Option Value} {q : Option BV × FS} (hg : ∀ s, s < 8 → g s = cint (c_cu ks wp) 27 s) (hb : ∀ k, k < 28 → b k = c_cu ks wp 30 k) (h : cy1 (c_cu ks wp) g b) (hF : HS T2 FPX cy I ks wp q.2) : HS T2 FPX cy I ks wp (o_add 90 [] (o_add 91 [] (o_add 94 [] (o_add 95 [] q)))).2 := by
  obtain ⟨⟨qc, a1, a2⟩, h2, h3⟩ := h
  exact HS_add (HS_add (HS_add (HS_add hF ⟨[], rfl, (f94 (j := 1) (by decide)).mpr ⟨rfl, h3 1 (by decide)⟩⟩) ⟨[], rfl, (f94 (j := 0) (by decide)).mpr ⟨rfl, h3 0 (by decide)⟩⟩) ⟨[], rfl, rfl, h2⟩) ⟨[], rfl, rfl, qc, a1, cGood_eq hg hb a2⟩
theorem vc6 : ∃ r, vwCl[6]? = some r ∧ r.2.2 = 10 := ⟨_, rfl, by decide⟩
theorem vc4 : ∃ r, vwCl[4]? = some r ∧ r.2.2 = 3 := ⟨_, rfl, by decide⟩
theorem vc1 : ∃ r, vwCl[1]? = some r ∧ r.2.2 = 9 := ⟨_, rfl, by decide⟩
theorem t2_51b : ∃ d, TK2[51]? = some d ∧ 1 < k_len d ∧ k_ty d 1 = some (.inr (.inr (53, true))) := ⟨_, rfl, by decide, rfl⟩
theorem has_al {ks : List Nat} {wp : va_W} {AK : List (Nat × Nat)} {H : Heap} {κ q n j : Nat} {x : List (Nat × BT)} {f : Nat → Int} (hp : hpool T2 cy AK ks wp) (hk : κ < 51) (hP : va_P D vwCl wp H) (hd : T2.1[κ]? = some (.inl (3, n, x))) (hj : j < n) (hz : hasz cy ks wp κ (q, .inr (.inr (n, f)))) : c_cu ks wp κ j = some (.long (Int64.ofInt (f j))) := by
  obtain ⟨i, e, g1, g2, g3⟩ := hz
  obtain ⟨q', e', d', h1, h2, h3, -⟩ := hp.2.1 i κ g1
  rw [g2] at h1
  cases h1
  rw [hd] at h2
  cases h2
  rw [cu_at hp hk g1 g2]
  exact al_eq h3.1 hj (hP i _ g2) (g3 D H (hP i _ g2))
theorem t2_30 : ∃ x, T2.1[30]? = some (.inl (3, 56, x)) := ⟨_, rfl⟩
set_option maxHeartbeats 4000000 in
/-- behind the class's reader -/
theorem cy_cls {AK AK1 : List (Nat × Nat)} {ks ks1 : List Nat} {wp wp1 : va_W} {w9 : WR} {H H1 : Heap} {a b cc : Nat → Nat} {F0 B K S9 V U F9 K9 S8 V9 G9 CN9 NM9 MK9 TP9 PP9 CO9 KN9 U9 A1 A2 A3 A4 A5 A6 B1 B2 B3 B4 B5 B6 g1 NM1 : Nat → Int} {xn : Int} {jd sc jd9 sc9 : ZV} {h0 : Prop}
    (hA1 : hap wp1) (hp : hpool T2 cy AK ks wp) (hp1 : hpool T2 cy AK1 ks1 wp1) (hu : Unch w9 ks wp ks1 wp1) (ho : o_off w9 [25, 26, 31, 8, 64, 21, 71, 78, 41, 27, 30, 42] = true) (hP : va_P D vwCl wp H) (hP1 : va_P D vwCl wp1 H1)
    (ha : allz cy ks wp [1, 2, 3, 4, 5, 6, 0, 44, 45, 46, 47, 48, 49, 50, 7] (tW a F0 B K S9 V ++ oW a b U jd sc A1 A2 A3 A4 A5 A6)) (hr : va_P D vwCl (zw cy (tW a F9 B K9 S8 V9 ++ cW cc G9 CN9 NM9 MK9 TP9 PP9 CO9 KN9 ++ oW a b U9 jd9 sc9 B1 B2 B3 B4 B5 B6) ++ restz [1, 2, 3, 4, 5, 6, 0, 44, 45, 46, 47, 48, 49, 50, 7] ks wp) H1)
    (hc : (h0 ∧ CN9 = g1 ∧ NM9 = NM1 ∧ INV g1 NM1 xn ∧ sc9 = zR (cc 0) ∧ U9 32 = 0) ∨ (¬ h0 ∧ sc9 = sc ∧ ∀ q : Nat, 18 ≤ q → U9 q = U q)) (h : cy1 (c_cu ks wp) (cint (c_cu ks wp) 27) (fun k => c_cu ks wp 30 k)) :
    (h0 ∧ ∀ NRx : Nat → Int, (∀ s i : Nat, s < 4 → (i : Int) < g1 s → NRx (bs s - 28 + i) = wd (NM1 (s * 10 + i)) ∧ 0 ≤ NM1 (s * 10 + i) ∧ NM1 (s * 10 + i) < 34359738368) → cy1 (c_cu ks1 wp1) (fun q => (Int32.ofInt (g1 q)).toInt) (fun k => some (.long (Int64.ofInt (NRx k))))) ∨ (¬ h0 ∧ cy1 (c_cu ks1 wp1) (cint (c_cu ks wp) 27) (fun k => c_cu ks wp 30 k)) := by
  have un : ∀ {κ j : Nat}, κ < 51 → κ ∈ [25, 26, 31, 8, 64, 21, 71, 78, 41, 27, 30, 42] → c_cu ks1 wp1 κ j = c_cu ks wp κ j := fun hk hm => c_cu_unch (T := T2) (I := ([], AK, fun _ => 0)) hp hu hk (o_off_ok ho hm)
  obtain ⟨r6, v6, n6⟩ := vc6
  obtain ⟨r4, v4, n4⟩ := vc4
  obtain ⟨r1, v1, n1⟩ := vc1
  obtain ⟨⟨qc, a1, a2⟩, ⟨qd, b1, b2⟩, h3⟩ := h
  have z44 := ha.2.2.2.2.2.2.2.1
  have z7 := ha.2.2.2.2.2.2.2.2.2.2.2.2.2.2.1
  have s0 : c_cu ks wp 44 0 = some (zv sc) := has_ob (κ := 44) hp (by decide) hP rfl v6 (by omega) (by decide) z44 rfl
  have s1 : c_cu ks1 wp1 44 0 = some (zv sc9) := aft_ob (κ := 44) hp1 hu (by decide) hP1 rfl v6 (by omega) (by decide) z44 (hr 15 _ rfl) rfl
  have u1 : c_cu ks wp 7 1 = some (zv (zI (U 31))) := has_ob (κ := 7) hp (by decide) hP rfl v4 (by omega) (by decide) z7 rfl
  have u2 : c_cu ks wp 7 2 = some (zv (zI (U 32))) := has_ob (κ := 7) hp (by decide) hP rfl v4 (by omega) (by decide) z7 rfl
  have w1 : c_cu ks1 wp1 7 1 = some (zv (zI (U9 31))) := aft_ob (κ := 7) hp1 hu (by decide) hP1 rfl v4 (by omega) (by decide) z7 (hr 22 _ rfl) rfl
  have w2 : c_cu ks1 wp1 7 2 = some (zv (zI (U9 32))) := aft_ob (κ := 7) hp1 hu (by decide) hP1 rfl v4 (by omega) (by decide) z7 (hr 22 _ rfl) rfl
  have him : ∀ j, j < 2 → (c_cu ks1 wp1 21 j = some .null ∨ ∃ q qc : Nat, c_cu ks1 wp1 21 j = some (.ref q) ∧ c_cu ks1 wp1 (ky q (ki j)) 0 = some (.ref qc) ∧ cGood (c_cu ks1 wp1) qc (fun s => cint (c_cu ks1 wp1) 41 (269 * j + s)) (fun k => c_cu ks1 wp1 42 (28 * j + k))) := by
    intro j hj
    rw [un (κ := 21) (by decide) (by decide)]
    rcases h3 j hj with h4 | ⟨q, qe, c1, c2, c3⟩
    · exact Or.inl h4
    · exact Or.inr ⟨q, qe, c1, c_cu_kun (T := T2) suok2.1 hp hp1 hu (ki_lt hj) (o_off_ok ho (ki_in hj (by decide) (by decide))) c2, cGood_eq (fun s hs => (cint_eq (un (κ := 41) (by decide) (by decide))).symm) (fun k hk => (un (κ := 42) (by decide) (by decide)).symm) (cGood_key hA1 hp hp1 hu hP1 hr (by decide) (by decide) (by decide) c3)⟩
  rcases hc with ⟨k0, rfl, rfl, hI, rfl, hU⟩ | ⟨k0, rfl, hU⟩
  · refine Or.inl ⟨k0, fun NRx hNR => ⟨⟨cc 0, s1, ?_⟩, ⟨cc 0, s1, fun i hi _ => ?_⟩, him⟩⟩
    · obtain ⟨d, d1, d2, d3⟩ := t2_44
      obtain ⟨i, hi⟩ := hp1.2.2.2.2 44 (by decide)
      obtain ⟨q, e, d', x1, x2, x3, -⟩ := hp1.2.1 i 44 hi
      have x2 : TK2[44]? = some d' := x2
      rw [d1] at x2
      cases x2
      obtain ⟨v, y1, y2⟩ := x3.2 0 _ d2 d3
      rw [cu_at hp1 (by decide) hi x1, y1] at s1
      cases s1
      obtain ⟨w, w9, e9⟩ := ht_ref y2
      have e9 : cc 0 = w := by
        have : Value.ref (cc 0) = .ref w := e9
        exact Value.ref.inj this
      rw [← e9] at w9
      have fld : ∀ (j κ q : Nat), (∃ d5 : KD, TK2[51]? = some d5 ∧ j < k_len d5 ∧ k_ty d5 j = some (.inr (.inr (κ, true)))) → (∃ (i5 : Nat) (e5 : va_E), ks1[i5]? = some 51 ∧ wp1[i5]? = some (cc 0, e5) ∧ cval e5 j = some (.ref q)) → c_cu ks1 wp1 (ky (cc 0) 51) j = some (.ref q) ∧ (q, κ) ∈ AK1 := by
        intro j κ q ⟨d5, f1, f2, f3⟩ ⟨i5, e5, g3, g4, g5⟩
        refine ⟨by rw [cu_nm hA1 hp1 g3 g4]; exact g5, ?_⟩
        obtain ⟨q6, e6, d6, x5, x6, x7, -⟩ := hp1.2.1 i5 51 g3
        rw [g4] at x5
        cases x5
        have x6 : TK2[51]? = some d6 := x6
        rw [f1] at x6
        cases x6
        obtain ⟨v5, y5, y6⟩ := x7.2 j _ f2 f3
        rw [g5] at y5
        cases y5
        obtain ⟨w5, w6, e7⟩ := ht_ref y6
        cases e7
        exact w6
      obtain ⟨k5, m5⟩ := fld 0 52 (cc 1) t2_51 (pool_ob (κ := 51) (j := 0) hp1 hP1 rfl w9 v1 (by omega) (by decide) (hr 6 _ rfl) rfl)
      obtain ⟨k6, m6⟩ := fld 1 53 (cc 2) t2_51b (pool_ob (κ := 51) (j := 1) hp1 hP1 rfl w9 v1 (by omega) (by decide) (hr 6 _ rfl) rfl)
      have hI2 : INV (fun q => (Int32.ofInt (CN9 q)).toInt) NM9 xn := by
        refine INV_congr (fun s hs => ?_) hI
        have h9 := hI.cn s hs
        exact (z_o32 ⟨by omega, by omega⟩).symm
      refine ⟨cc 1, cc 2, NM9, xn, k5, k6, fun s hs => ?_, fun k hk => ?_, hI2, fun s i hs hi => ?_⟩
      · obtain ⟨i8, e8, g6, g7, g8⟩ := pool_ar (κ := 52) (j := s) (t := 0) (n := 8) (f := rI CN9) hp1 hP1 rfl (by decide) m5 hs (hr 7 _ rfl)
        exact ⟨Int32.ofInt (CN9 s), by rw [cu_nm hA1 hp1 g6 g7]; exact g8, rfl⟩
      · obtain ⟨i8, e8, g6, g7, g8⟩ := pool_al (κ := 53) (j := k) (n := 40) (f := rL NM9) hp1 hP1 rfl m6 hk (hr 8 _ rfl)
        rw [cu_nm hA1 hp1 g6 g7]
        exact g8
      · have h9 := hI.cn s hs
        have hi9 : (i : Int) < CN9 s := by
          have h8 : (i : Int) < (Int32.ofInt (CN9 s)).toInt := hi
          rw [z_o32 ⟨by omega, by omega⟩] at h8
          exact h8
        obtain ⟨n1, n2, n3⟩ := hNR s i hs hi9
        exact ⟨⟨n2, n3⟩, by show some (Value.long (Int64.ofInt (NRx (bs s - 28 + i)))) = _; rw [n1]⟩
    · have e9 : cint (c_cu ks1 wp1) 7 2 = 0 := by
        unfold cint
        rw [w2, hU]
        rfl
      omega
  · refine Or.inr ⟨k0, ⟨qc, ?_, cGood_key hA1 hp hp1 hu hP1 hr (by decide) (by decide) (by decide) a2⟩, ⟨qd, ?_, ?_⟩, him⟩
    · rw [s1, ← s0]; exact a1
    · rw [s1, ← s0]; exact b1
    · rw [cint_eq (show c_cu ks1 wp1 7 1 = c_cu ks wp 7 1 by rw [w1, u1, hU 31 (by omega)]), cint_eq (show c_cu ks1 wp1 7 2 = c_cu ks wp 7 2 by rw [w2, u2, hU 32 (by omega)])]
      exact hGo_un hp hp1 hu ho (by decide) (by decide) b2
set_option maxHeartbeats 4000000 in
theorem s_city {SP : List SPt} {DM : List (Nat × List Nat)} {lim : Nat} {S : SB} {ins : Instr} {len : Nat} {M' : MT} {rest : List BV} {sp : SPt} {L : List (Option BV × FS)} {y : List SB} (hSP : ∀ (i : Nat) (sp : SPt), i < lim → SP[i]? = some sp → SPOK T2 FPX (EWX xs) D cy l PR2 sp) (X : Cx OW2 (EWX xs) D cy I0.2.2 M own p R s m args meth c A rm cb sb)
    (h : o_call SP DM lim wr rm M S ins len = some (39, M', [bP 0 true none], rest, sp, L)) (hd : decode (mC M) S.1 = .ok (ins, len)) (q2 : pR sp = (11, 8, 91, 306)) (q3 : o_off (pW sp) [25, 26, 31, 8, 64, 21, 71, 78, 41, 27, 30, 42] = true) (q4 : o_has S.2.2.2.1.2.2.2 77 [] = true) (q5 : o_has S.2.2.2.1.2.2.2 80 [] = true) (q6 : o_has S.2.2.2.1.2.2.2 81 [] = true) (q7 : o_has S.2.2.2.1.2.2.2 90 [] = true) (q8 : o_has S.2.2.2.1.2.2.2 91 [] = true) (q9 : o_has S.2.2.2.1.2.2.2 94 [] = true) (q10 : o_has S.2.2.2.1.2.2.2 95 [] = true)
    (hy : o_cat (ox_city2 SP DM lim wr rm M S.1 S.2.1 rest S.2.2.2.2.1 (S.2.2.2.2.2.1 + (pR sp).2.1) (S.2.2.2.2.2.2 + (pR sp).2.2.1)) L = some y)
    (k : ∀ S' ∈ y, Sf T2 FPX D cy I0 ks0 wp0 wr M p l e R s m args below meth c A Q cb sb S') : Sf T2 FPX D cy I0 ks0 wp0 wr M p l e R s m args below meth c A Q cb sb S := by
  obtain ⟨h1, cs, σ, htry, hL⟩ := o_call_ok h
  have hrw := f_call_rw h1
  intro I H locs ls lv vs ks wp raw a1 a2 a3 a4 a5 a6 a7 a8 a9 a10
  have e9 := hraw_none hrw a5
  subst e9
  rw [List.append_nil] at a6 a7
  refine s_xcall hSP X h1 hd htry hL a1 a3 a4 a6 a7 a8 a9 a10 (fun vas hv9 hP9 => ?_)
  have eM := mt_cityX hP9
  subst eM
  obtain ⟨v0, vr5, rfl, g0, g5⟩ := hvs_cons hv9
  have g5 := hvs_nil g5
  subst g5
  obtain ⟨a, b, F0, B, K, S9, V, U, jd, sc, A1, A2, A3, A4, A5, A6, rfl, ha, hB, hn, e1, e2⟩ := cls_world a4 g0
  refine ⟨rfl, [zR (b 0)], _, _, _, rfl, ha, by decide, by rw [q2]; exact zm_city hB hn, ?_⟩
  intro vr q r J H1 locs1 ks1 wp1 z Y1 c1 c2 c3 c4 c5 c6 c7 c8 c9 c10 c11 c12 c13 c14
  obtain ⟨kk, P, K9, S8, V9, F9, cc, G9, CN9, NM9, MK9, TP9, PP9, CO9, KN9, U9, B1, B2, B3, B4, B5, B6, jd9, sc9, hO, rfl, hU14, rfl, hcase⟩ := c4
  have f77 := fact_at a4 q4
  have f80 := fact_at a4 q5
  have f81 := fact_at a4 q6
  have hcy := cy_in (fact_at a4 q7) (fact_at a4 q8) (fact_at a4 q9) (fact_at a4 q10)
  have hg2 := cy_cls (fun i j p q h1 h2 e => c10.1 i j p q h1 h2 e) a4.1 c7.1 c13 q3 a6 c9 ha c5 (hcase.imp (fun w => ⟨w.1, w.2.1.1, w.2.1.2.1, w.2.1.2.2, w.2.2.1, w.2.2.2⟩) (fun w => w)) hcy
  have w77 : cint (c_cu ks wp) 1 1 = cint (c_cu ks wp) 25 2 := f77.2
  have w80 : ∀ j : Nat, j < 940 → cint (c_cu ks wp) 2 j = cint (c_cu ks wp) 26 j := f80.2
  have w81 : ∀ j : Nat, j < 29 → c_cu ks wp 31 j = some (.long (Int64.ofInt (RVk j))) := f81.2
  have u25 : cint (c_cu ks1 wp1) 25 2 = F0 0 := by
    rw [← e1, w77]
    exact cint_eq (cint_un a4.1 c13 (by decide) q3 (by decide))
  have u26 : ∀ j, j < 940 → cint (c_cu ks1 wp1) 26 j = B j := by
    intro j hj
    rw [← e2 j hj, w80 j hj]
    exact cint_eq (cint_un a4.1 c13 (by decide) q3 (by decide))
  have u31 : ∀ j : Nat, j < 29 → c_cu ks1 wp1 31 j = some (.long (Int64.ofInt (RVk j))) := by
    intro j hj
    rw [cint_un (κ := 31) (j := j) a4.1 c13 (by decide) q3 (by decide)]
    exact w81 j hj
  have u27 : ∀ j : Nat, c_cu ks1 wp1 27 j = c_cu ks wp 27 j := fun j => cint_un a4.1 c13 (by decide) q3 (by decide)
  have u30 : ∀ j : Nat, c_cu ks1 wp1 30 j = c_cu ks wp 30 j := fun j => cint_un a4.1 c13 (by decide) q3 (by decide)
  obtain ⟨yq, hyq, hyin⟩ := o_cat_ok hy q c2
  unfold ox_city2 at hyq
  split at hyq
  · rename_i k2 ins2 b2 hat3 hat4 hat5 hfind
    split at hyq
    · rename_i w
      simp only [Bool.and_eq_true] at w
      have wk := beq3 w.1
      have wb := bv_eq_ok w.2
      subst wb
      split at hyq
      · rename_i j2 M2 as2 rest2 sp2 L2 hc2
        split at hyq
        · rename_i w2
          simp only [Bool.and_eq_true] at w2
          obtain ⟨t1, t2, t3, t4, t5, t6, t7⟩ := w2
          have t1 := beq3 t1
          have t2 := bvs_eq_ok t2
          have t3 := bvs_eq_ok t3
          have t4 := rm_eq_ok t4
          subst t1
          subst t2
          subst t3
          cases hyq
          obtain ⟨k1, cs2, σ2, htry2, hL2⟩ := o_call_ok hc2
          -- the reference's turn
          obtain ⟨ix, v2, hix, g2⟩ := f_find_ok (a2.xt c6) hfind
          obtain ⟨qm, rfl⟩ : ∃ qm, v2 = .ref qm := by
            rcases g2.1 with ⟨h9, -⟩ | ⟨qm, -, h9⟩
            · cases h9
            · exact ⟨qm, h9⟩
          refine lv_pop X.1 X.2.1 (x_dec X hat3) rfl ?_
          refine lv_aload_n X.1 X.2.1 (x_dec X hat4) wk (lv_at a1 ix hix) ?_
          have hd5 : decode (mC M) (S.1 + 3 + 1 + 1) = .ok (ins2, 3) := x_dec X hat5
          refine s_xcall (S := (S.1 + 5, S.2.1, bP 25 true none :: rest2, q.2, S.2.2.2.2.1, S.2.2.2.2.2.1 + (pR sp).2.1, S.2.2.2.2.2.2 + (pR sp).2.2.1)) hSP X k1 hd5 htry2 hL2 a1 (show hvs J (bP 25 true none :: rest2) (.ref qm :: vr) from ⟨g2, c1⟩) c7 c9 c10 c11 c12 c14 (fun vas2 hv2 hP2 => ?_)
          have eM2 := mt_cityM hP2
          subst eM2
          obtain ⟨v3, vr6, rfl, g3, g6⟩ := hvs_cons hv2
          have g6 := hvs_nil g6
          subst g6
          obtain ⟨mm, F1, B7, SS, HH, NR, RV, rfl, ha2, hB2, hn2, d1, d2, d3, d4, d5⟩ := ref_world c7 g3
          have eF : F1 2 = F0 0 := by rw [← d1, u25]
          have etb : tb B7 (F1 2) = tb B (F0 0) := by
            rw [eF]
            exact tb_same hn.2 (fun j hj => by rw [← d2 j hj, u26 j hj])
          refine ⟨rfl, [zR (mm 0)], _, _, _, rfl, ha2, by decide, by rw [t4]; exact zr_city hB2 hn2 (by rw [etb, eF]; exact hO) (rv_same d3 u31 d4) d4 d5, ?_⟩
          intro vr3 q9 r2 J2 H2 locs2 ks2 wp2 z2 Y2 b1 b2 b3 b4 b5 b6 b7 b8 b9 b10 b11 b12 b13 b14
          obtain ⟨rfl, F8, SS9, HH9, NR9, rfl, h815, hss⟩ := b4
          have m27 : ∀ j : Nat, j < 8 → cint (c_cu ks2 wp2) 27 j = (Int32.ofInt (SS9 j)).toInt := by
            intro j hj
            unfold cint
            rw [aft_ar (κ := 27) (t := 0) (n := 269) (f := SS9) (j := j) b7.1 b13 (by decide) b9 rfl (by decide) (by omega) ha2.2.2.1 (b5 2 _ rfl)]
          have m27' : ∀ j : Nat, j < 8 → cint (c_cu ks1 wp1) 27 j = (Int32.ofInt (SS j)).toInt := by
            intro j hj
            unfold cint
            rw [has_ar (κ := 27) (t := 0) (n := 269) (f := SS) (j := j) c7.1 (by decide) c9 rfl (by decide) (by omega) ha2.2.2.1]
          obtain ⟨x30, hx30⟩ := t2_30
          have m30 : ∀ k : Nat, k < 56 → c_cu ks2 wp2 30 k = some (.long (Int64.ofInt (NR9 k))) := fun k hk => aft_al (κ := 30) (n := 56) (f := NR9) b7.1 b13 (by decide) b9 hx30 hk ha2.2.2.2.2.1 (b5 4 _ rfl)
          have m30' : ∀ k : Nat, k < 56 → c_cu ks1 wp1 30 k = some (.long (Int64.ofInt (NR k))) := fun k hk => has_al (κ := 30) (n := 56) (f := NR) c7.1 (by decide) c9 hx30 hk ha2.2.2.2.2.1
          have hgo : ∃ (g : Nat → Int) (b : Nat → Option Value), (∀ j, j < 8 → g j = cint (c_cu ks2 wp2) 27 j) ∧ (∀ k, k < 28 → b k = c_cu ks2 wp2 30 k) ∧ cy1 (c_cu ks1 wp1) g b := by
            rcases hg2 with ⟨k0, hg2⟩ | ⟨k0, hg2⟩
            · rcases hss with ⟨-, h9, h8⟩ | ⟨h9, -⟩
              · exact ⟨_, _, fun j hj => by rw [m27 j hj, h9 j hj], fun k hk => (m30 k (by omega)).symm, hg2 NR9 h8⟩
              · exact absurd k0 h9
            · rcases hss with ⟨h9, -⟩ | ⟨-, h9, h8⟩
              · exact absurd h9 k0
              · refine ⟨_, _, fun j hj => ?_, fun k hk => ?_, hg2⟩
                · rw [m27 j hj, h9, ← m27' j hj]
                  exact (cint_eq (u27 j)).symm
                · show c_cu ks wp 30 k = _
                  rw [← u30 k, m30 k (by omega), h8 k hk, m30' k (by omega)]
          obtain ⟨g, b9', hg3, hb3, hg1⟩ := hgo
          have hg4 := cy_un c7.1 b7.1 b13 t5 hg1
          have h106 : cint (c_cu ks2 wp2) 0 14 = cint (c_cu ks2 wp2) 25 15 := by
            obtain ⟨r10, v10, n10⟩ := vc10
            obtain ⟨r11, v11, n11⟩ := vc11c
            have s14 : c_cu ks1 wp1 0 14 = some (zv (zI (U9 14))) := aft_ob (κ := 0) c7.1 c13 (by decide) c9 rfl v10 (by omega) (by decide) ha.2.2.2.2.2.2.1 (c5 14 _ rfl) rfl
            have s15 : c_cu ks2 wp2 25 15 = some (zv (zI (F8 15))) := aft_ob (κ := 25) b7.1 b13 (by decide) b9 rfl v11 (by omega) (by decide) ha2.1 (b5 0 _ rfl) rfl
            have u14 : c_cu ks2 wp2 0 14 = c_cu ks1 wp1 0 14 := cint_un c7.1 b13 (by decide) t6 (by decide)
            by_cases k0 : (aRun K9 V9 1000 (0, 0, cn0, z0, z0, z0, 0) 0).1.1 = 0
            · have e0 : cint (c_cu ks2 wp2) 0 14 = 0 := by
                unfold cint
                rw [u14, s14, hU14, k0]
                exact z_o32 ⟨by decide, by decide⟩
              rw [e0]
              have h9 := List.all_eq_true.mp t7 q9 b2
              unfold c5ok at h9
              split at h9
              · rename_i rr bb hrr hbb
                rcases Bool.or_eq_true_iff.mp h9 with h8 | h8
                · have h8 := bv_eq_ok h8
                  subst h8
                  exact Option.some.inj (int_at (z := 15) b7 (by decide) hbb rfl)
                · exfalso
                  simp only [Bool.and_eq_true] at h8
                  have hv9 : hv J2 rr (.int r2) := by
                    rw [hrr] at b8
                    exact b8
                  have hlt := in_iv b7.2.1 h8.2 (hv_ev hv9)
                  have e9 : r2 = Int32.ofInt (pAns K9 S8 V9) := Value.int.inj (Option.some.inj b3)
                  have hle := aRun_le (K := K9) (V := V9) 1000 0 0 cn0 z0 z0 z0 0 0
                  rw [e9] at hlt
                  unfold pAns at hlt
                  rw [if_pos k0, z_o32 ⟨by omega, by omega⟩] at hlt
                  omega
              · cases h9
            · unfold cint
              rw [u14, s14, s15, hU14, h815 k0]
          exact aft_W (S := (S.1 + 5, S.2.1, bP 25 true none :: rest2, q.2, S.2.2.2.2.1, S.2.2.2.2.2.1 + (pR sp).2.1, S.2.2.2.2.2.2 + (pR sp).2.2.1)) hrw (k _ (hyin _ (List.mem_map.mpr ⟨q9, b2, rfl⟩))) a1 (a2.xt (c6.tr b6)) b1 b8 (cy_out hg3 hb3 hg4 (HS_add b7 ⟨[], rfl, rfl, h106⟩)) b9 b10 b11 b12 b14
        · cases hyq
      · cases hyq
    · cases hyq
  · cases hyq
end CY1
