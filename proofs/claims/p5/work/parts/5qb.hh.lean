/-! the main scene's city, the history's, the images': hooks -/
def h_fst (id : Nat) (SF : List SFt) : Option (List BV) := match SF with
  | [] => none
  | f :: r => if Nat.beq f.1 id = true then some f.2 else h_fst id r
/-- the name of a reference that is not null -/
def h_pn (κ : Nat) (v : Option BV) : Option Nat := match v with
  | some (.inr (.inr (.inr (.inl (some (κ', true, some k)))))) => if Nat.beq κ' κ = true then some k else none
  | _ => none
def h_city (CF : List CFt) : Option Nat := h_pn 51 (f_cf CF 44 none (bI 0))
def hk_name : HKt := fun S => match S.2.2.2.1 with
  | (n, E, CF, SF) => (match f_cf CF 44 none (bI 0) with
    | none => some [(n + 1, E, (44, none, bI 0, bP 51 true (some n)) :: CF, SF)]
    | some _ => some [(n, E, CF, SF)])
/-- the history's facts, by the city's name and by numbers -/
def hk_op (id : Nat) : HKt := fun S => match S.2.2.2.1 with
  | (n, E, CF, SF) => (match h_city CF, f_cf CF 7 none (bI 1), f_cf CF 7 none (bI 2) with
    | some k, some a, some b => if (f_isI a && (f_isI b && f_sin SF id [])) = true then some [(n, E, CF, (93, [bV k 0, a, f_off b (if Nat.beq id 92 = true then 1 else 0)]) :: SF)] else some [(n, E, CF, SF)]
    | _, _, _ => some [(n, E, CF, SF)])
def hk_op90 : HKt := fun S => match S.2.2.2.1 with
  | (n, E, CF, SF) => (match h_city CF with
    | some k => if f_sin SF 90 [] = true then some [(n, E, CF, (101, [bV k 0]) :: SF)] else some [(n, E, CF, SF)]
    | none => some [(n, E, CF, SF)])
def h_rows (E : EB) (SF : List SFt) (t : BV) (d : Int) : Option (BV × BV × BV × BV) := match h_fst 93 SF, h_fst 100 SF with
  | some [k, f, s], some [f', i, t'] => if (bv_eq f' f && (bv_eq (f_off i d) s && (bv_eq t' t && (h_in E (some i) 0 9 && h_in E (some t) 0 8)))) = true then some (k, f, s, i) else none
  | _, _ => none
def hk_split : HKt := fun S => match S.2.2.1, S.2.2.2.1 with
  | t :: _, (n, E, CF, SF) => (match h_rows E SF t 0 with
    | some (k, f, s, _) => some [(n, E, (8, none, t, bN) :: CF, (98, [k, f, s, t, f_off t 1]) :: SF), (n + 1, E, (8, none, t, bP 64 true (some n)) :: CF, (98, [k, f, s, t, f_off t 1]) :: SF)]
    | none => some [(n, E, CF, SF)])
  | _, (n, E, CF, SF) => some [(n, E, CF, SF)]
def hk_take : HKt := fun S => match S.2.2.1, S.2.2.2.1 with
  | t :: _, (n, E, CF, SF) => (match h_rows E SF t 1 with
    | some (.inr (.inl (k, 0)), _, _, _) => some [(n + 1, E, (8, none, t, bP 64 true (some n)) :: (64, some n, bI 0, bP 51 true (some k)) :: CF, SF)]
    | _ => some [(n, E, CF, SF)])
  | _, (n, E, CF, SF) => some [(n, E, CF, SF)]
def hk_fill : HKt := fun S => match S.2.2.2.1 with
  | (n, E, CF, SF) => (match h_fst 98 SF with
    | some [k, f, s, t, _] => (match h_pn 64 (f_cf CF 8 none t) with
      | some q => (match h_pn 51 (f_cf CF 64 (some q) (bI 0)) with
        | some k' => if (bv_eq k (bV k' 0) && f_sin SF 100 [f, s, t]) = true then some [(n, E, CF, (93, [k, f, f_off s 1]) :: SF)] else some [(n, E, CF, SF)]
        | none => some [(n, E, CF, SF)])
      | none => some [(n, E, CF, SF)])
    | _ => some [(n, E, CF, SF)])
def hk_cl91 : HKt := fun S => match S.2.2.2.1 with
  | (n, E, CF, SF) => (match h_city CF, f_cf CF 7 none (bI 1), f_cf CF 7 none (bI 2), h_fst 93 SF with
    | some k, some a, some b, some [k', f, z] => if (f_isI a && (f_isI b && (bv_eq k' (bV k 0) && (bv_eq f a && f_lez E b z)))) = true then some [(n, E, CF, (91, []) :: SF)] else some [(n, E, CF, SF)]
    | _, _, _, _ => some [(n, E, CF, SF)])
def hk_cl92 : HKt := fun S => match S.2.2.2.1 with
  | (n, E, CF, SF) => (match h_city CF, f_cf CF 7 none (bI 1), f_cf CF 7 none (bI 2), h_fst 93 SF with
    | some k, some a, some b, some [k', f, z] => if (f_isI a && (f_isI b && (bv_eq k' (bV k 0) && (bv_eq f a && bv_eq (f_off b 1) z)))) = true then some [(n, E, CF, (92, []) :: SF)] else some [(n, E, CF, SF)]
    | _, _, _, _ => some [(n, E, CF, SF)])
def hk_cl93 : HKt := fun S => match S.2.2.2.1 with
  | (n, E, CF, SF) => (match h_city CF, f_cf CF 7 none (bI 1), f_cf CF 7 none (bI 2), h_fst 93 SF with
    | some k, some a, some b, some [k', f, z] => if (f_isI a && (f_isI b && (bv_eq k' (bV k 0) && (f_sin SF 100 [f, bI 1, a] && bv_eq (f_off b 1) z)))) = true then some [(n, E, CF, (91, []) :: SF)] else some [(n, E, CF, SF)]
    | _, _, _, _ => some [(n, E, CF, SF)])
def hk_cl90 : HKt := fun S => match S.2.2.2.1 with
  | (n, E, CF, SF) => (match h_city CF with
    | some k => if f_sin SF 101 [bV k 0] = true then some [(n, E, CF, (90, []) :: SF)] else some [(n, E, CF, SF)]
    | none => some [(n, E, CF, SF)])
abbrev ki (j : Nat) : Nat := 71 + 7 * j
def hk_isplit (j : Nat) : HKt := fun S => match S.2.2.2.1 with
  | (n, E, CF, SF) => (match f_cf CF 21 none (bI (j : Int)) with
    | some _ => some [(n, E, CF, SF)]
    | none => some [(n, E, (21, none, bI (j : Int), bN) :: CF, SF), (n + 1, E, (21, none, bI (j : Int), bP (ki j) true (some n)) :: CF, SF)])
def hk_iname (j : Nat) : HKt := fun S => match S.2.2.2.1 with
  | (n, E, CF, SF) => (match h_pn (ki j) (f_cf CF 21 none (bI (j : Int))) with
    | some q => some [(n + 1, E, (ki j, some q, bI 0, bP 51 true (some n)) :: CF, SF)]
    | none => some [(n, E, CF, SF)])
def hk_isame (j : Nat) : HKt := fun S => match S.2.2.2.1 with
  | (n, E, CF, SF) => (match h_city CF, h_pn (ki j) (f_cf CF 21 none (bI (j : Int))) with
    | some k, some q => (match h_pn 51 (f_cf CF (ki j) (some q) (bI 0)) with
      | some k' => if Nat.beq k' k = true then some [(n, E, CF, (102 + j, []) :: SF)] else some [(n, E, CF, SF)]
      | none => some [(n, E, CF, SF)])
    | _, _ => some [(n, E, CF, SF)])
def hk_none : HKt := fun S => match S.2.2.2.1 with
  | (n, E, CF, SF) => (match h_city CF, f_cf CF 7 none (bI 2) with
    | some _, some b => if bv_eq b (bI 0) = true then some [(n, E, CF, (91, []) :: SF)] else some [(n, E, CF, SF)]
    | _, _ => some [(n, E, CF, SF)])
def h_row (j : Nat) (SF : List SFt) : Bool := if Nat.beq j 0 = true then f_sin SF 38 [bI 269] else f_sin SF 39 [bI 269, bI 538]
def hk_gim (j : Nat) : HKt := fun S => match S.2.2.2.1 with
  | (n, E, CF, SF) => if (f_sin SF (102 + j) [] && (f_sin SF 90 [] && (h_row j SF && f_sin SF (104 + j) [bI 28]))) = true then some [(n, E, CF, (94 + j, []) :: SF)] else some [(n, E, CF, SF)]
def hk_gre (j : Nat) : HKt := fun S => match S.2.2.2.1 with
  | (n, E, CF, SF) => if (f_sin SF (102 + j) [] && (f_sin SF (94 + j) [] && (h_row j SF && f_sin SF (104 + j) [bI 28]))) = true then some [(n, E, CF, (90, []) :: SF)] else some [(n, E, CF, SF)]
def hk_38e : HKt := fun S => match f_find S.2.1 2, S.2.2.2.1 with
  | some i, (n, E, CF, SF) => if h_in E (some i) 269 iMax = true then (if f_sin SF 38 [i] = true then some [(n, E, CF, (38, [bI 269]) :: SF)] else if f_sin SF 39 [i, f_off i 269] = true then some [(n, E, CF, (39, [bI 269, bI 538]) :: SF)] else some [(n, E, CF, SF)]) else some [(n, E, CF, SF)]
  | none, (n, E, CF, SF) => some [(n, E, CF, SF)]
/-- the names of an image: none so far; all of them -/
def fs_104 : List SFt := [(104, [bI 0]), (105, [bI 0])]
def hk_28 : HKt := fun S => match f_find S.2.1 2, S.2.2.2.1 with
  | some i, (n, E, CF, SF) => if h_in E (some i) 28 iMax = true then (if f_sin SF 104 [i] = true then some [(n, E, CF, (104, [bI 28]) :: SF)] else if f_sin SF 105 [i] = true then some [(n, E, CF, (105, [bI 28]) :: SF)] else some [(n, E, CF, SF)]) else some [(n, E, CF, SF)]
  | none, (n, E, CF, SF) => some [(n, E, CF, SF)]
/-- the kind of the latest fault, of both -/
def hk_flt : HKt := fun S => match S.2.2.2.1 with
  | (n, E, CF, SF) => if f_sin SF 106 [] = true then some [(n + 1, (n, 0, 4) :: E, (0, none, bI 14, bV n 0) :: (25, none, bI 15, bV n 0) :: CF, SF)] else none
def hk_kp (j : Nat) : HKt := fun S => match S.2.2.2.1 with
  | (n, E, CF, SF) => if f_sin SF (78 + j) [] = true then some [(n, E, (21, none, bI (j : Int), bN) :: (43, none, bI (j : Int), bI 0) :: CF, SF), (n + 1, E, (21, none, bI (j : Int), bP (ki j) true (some n)) :: (43, none, bI (j : Int), bI 1) :: CF, SF)] else none
def hk_ks (j : Nat) : HKt := fun S => match S.2.2.2.1 with
  | (n, E, CF, SF) => (match f_cf CF 21 none (bI (j : Int)), f_cf CF 43 none (bI (j : Int)) with
    | some (.inr (.inr (.inr (.inl (some (_, true, _)))))), some b => if bv_eq b (bI 1) = true then some [(n, E, CF, (78 + j, []) :: SF)] else some [(n, E, CF, SF)]
    | _, _ => some [(n, E, CF, SF)])
def h_cntq : List (Int × Int) := [(iMin, -1), (0, 7), (8, 8), (9, iMax)]
def h_cnt (n : Nat) (E : EB) (CF : List CFt) (SF : List SFt) (a : BV) (l : Int) : FS := if decide (l = 0) = true then (n + 3, (n + 2, -1, 20) :: E, (44, none, bI 0, bP 51 true (some n)) :: (51, some n, bI 0, bP 52 true (some (n + 1))) :: (52, some (n + 1), a, bV (n + 2) 0) :: (27, none, a, bV (n + 2) 0) :: CF, SF)
  else if decide (l = 8) = true then (n + 1, (n, 0, 940) :: E, (1, none, bI 1, bV n 0) :: (25, none, bI 2, bV n 0) :: CF, SF) else (n, E, CF, SF)
def hk_cnt : HKt := fun S => match S.2.2.1, S.2.2.2.1 with
  | a :: _, (n, E, CF, SF) => (match f_iv E a with
    | some _ => if (f_sin SF 77 [] && f_sin SF 90 []) = true then some (h_cntq.filterMap (fun q => (f_clamp E a q.1 q.2).map (fun E1 => h_cnt n E1 CF SF a q.1))) else none
    | none => none)
  | _, _ => none
section HKH
variable {cy : Nat → ClassId} {I : IN} {ks : List Nat} {wp : va_W} {F : FS} {n : Nat} {E : EB} {CF : List CFt} {SF : List SFt}
theorem h_fst_in {id : Nat} {as : List BV} : ∀ {SF : List SFt}, h_fst id SF = some as → (id, as) ∈ SF := by
  intro SF
  induction SF with
  | nil => intro h; cases h
  | cons f r ih =>
    intro h
    simp only [h_fst] at h
    split at h
    · rename_i q
      cases h
      rw [← Nat.eq_of_beq_eq_true q]
      exact List.mem_cons_self
    · exact List.mem_cons_of_mem _ (ih h)
theorem h_pn_ok {κ k : Nat} {v : Option BV} (h : h_pn κ v = some k) : v = some (bP κ true (some k)) := by
  unfold h_pn at h
  split at h
  · split at h
    · rename_i q
      cases h
      rw [Nat.eq_of_beq_eq_true q]
    · cases h
  · cases h
theorem cu_nm {AK : List (Nat × Nat)} {κ q i j : Nat} {e : va_E} (ha : hap wp) (hp : hpool T2 cy AK ks wp) (hi : ks[i]? = some κ) (hw : wp[i]? = some (q, e)) : c_cu ks wp (ky q κ) j = cval e j := by
  have h100 := hp_100 (T := T2) suok2.1 hp
  rw [c_cu_ky h100 (h100 κ (List.mem_of_getElem? hi))]
  rw [c_fa_of hi hw (fun i' hlt h9 => by obtain ⟨-, e', h9⟩ := h9; have := ha i' i _ _ h9 hw rfl; omega)]
theorem cf_un {κ : Nat} {p v : BV} (hF : HS T2 FPX cy I ks wp F) (hu : κ < 51) (hm : (κ, none, p, v) ∈ F.2.2.1) : ∃ (z : Nat) (x : Value), f_ev I.1 p = some (z : Int) ∧ c_cu ks wp κ z = some x ∧ hv I v x := by
  obtain ⟨i, q, e, z, x, h1, h2, h3, h4, h5, h6⟩ := hF.2.2.1 _ hm
  exact ⟨z, x, h4, by rw [c_cu_one (T := T2) hF.1 hu h1 h2]; exact h5, h6⟩
theorem cf_uz {κ z : Nat} {v : BV} (hF : HS T2 FPX cy I ks wp F) (hu : κ < 51) (hm : f_cf F.2.2.1 κ none (bI (z : Int)) = some v) : ∃ x : Value, c_cu ks wp κ z = some x ∧ hv I v x := by
  obtain ⟨z', x, h1, h2, h3⟩ := cf_un hF hu (f_cf_in hm)
  have h1 : (z : Int) = (z' : Int) := Option.some.inj h1
  have e : z' = z := by omega
  rw [e] at h2
  exact ⟨x, h2, h3⟩
theorem cf_nm {κ k : Nat} {p v : BV} (ha : hap wp) (hF : HS T2 FPX cy I ks wp F) (hm : (κ, some k, p, v) ∈ F.2.2.1) : ∃ (q z : Nat) (x : Value), I.1[k]? = some (q : Int) ∧ f_ev I.1 p = some (z : Int) ∧ c_cu ks wp (ky q κ) z = some x ∧ hv I v x := by
  obtain ⟨i, q, e, z, x, h1, h2, h3, h4, h5, h6⟩ := hF.2.2.1 _ hm
  exact ⟨q, z, x, h3, h4, by rw [cu_nm ha hF.1 h1 h2]; exact h5, h6⟩
theorem hv_rn {κ k : Nat} {v : Value} (h : hv I (bP κ true (some k)) v) : ∃ q : Nat, v = .ref q ∧ I.1[k]? = some (q : Int) ∧ (q, κ) ∈ I.2.1 := by
  obtain ⟨h1, h2⟩ := h
  obtain ⟨y, y1, y2⟩ := h2 k rfl
  rcases h1 with ⟨h9, -⟩ | ⟨q, h3, rfl⟩
  · cases h9
  · rcases y2 with ⟨-, q', e, rfl⟩ | ⟨h9, -⟩
    · cases e
      exact ⟨q, rfl, y1, h3⟩
    · cases h9
theorem ev_nm {ν : List Int} {k : Nat} {y : Int} (h : ν[k]? = some y) : f_ev ν (bV k 0) = some y := by
  simp only [f_ev, h, Int.add_zero]
theorem nm_eq {ν : List Int} {k : Nat} {q q' : Nat} (h : ν[k]? = some (q : Int)) (h' : ν[k]? = some (q' : Int)) : q = q' := by
  rw [h] at h'
  have := Option.some.inj h'
  omega
theorem hs_add {f : SFt} (h : HS T2 FPX cy I ks wp (n, E, CF, SF)) (hf : hsf FPX I (c_cu ks wp) f) : HS T2 FPX cy I ks wp (n, E, CF, f :: SF) := by
  obtain ⟨h1, h2, h3, h4⟩ := h
  refine ⟨h1, h2, h3, fun g hg => ?_⟩
  rcases List.mem_cons.mp hg with rfl | hg
  · exact hf
  · exact h4 g hg
theorem hs_cf {f : CFt} (h : HS T2 FPX cy I ks wp (n, E, CF, SF)) (hf : hcf T2 I ks wp f) : HS T2 FPX cy I ks wp (n, E, f :: CF, SF) := by
  obtain ⟨h1, h2, h3, h4⟩ := h
  refine ⟨h1, h2, fun g hg => ?_, h4⟩
  rcases List.mem_cons.mp hg with rfl | hg
  · exact hf
  · exact h3 g hg
theorem henv_nm {ν : List Int} (y : Int) (h : henv ν n E) : henv (ν ++ [y]) (n + 1) E := by
  refine ⟨by rw [List.length_append, h.1]; rfl, fun k q hk => ?_⟩
  obtain ⟨y', h1, h2⟩ := h.2 k q hk
  exact ⟨y', by rw [List.getElem?_append_left (List.getElem?_eq_some_iff.mp h1).1]; exact h1, h2⟩
/-- a name more, for an address -/
theorem hs_nm (q : Nat) (h : HS T2 FPX cy I ks wp (n, E, CF, SF)) : ∃ J : IN, hxt I J ∧ J.2 = I.2 ∧ J.1[n]? = some (q : Int) ∧ HS T2 FPX cy J ks wp (n + 1, E, CF, SF) :=
  ⟨(I.1 ++ [(q : Int)], I.2), hxt_app _, rfl, at_app (k := 0) h.2.1.1 rfl, h.xt (hxt_app _) rfl (henv_nm _ h.2.1)⟩
theorem hv_nm {κ q : Nat} (h : (q, κ) ∈ I.2.1) (hn : I.1[n]? = some (q : Int)) : hv I (bP κ true (some n)) (.ref q) := by
  refine ⟨Or.inr ⟨q, h, rfl⟩, fun k hk => ?_⟩
  cases hk
  exact ⟨_, hn, Or.inl ⟨rfl, q, rfl, rfl⟩⟩
/-- a place of the only cell of a kind, as a fact -/
theorem cf_mk {κ z : Nat} {p v : BV} {d : KD} {t : BT} {x : Value} (hF : HS T2 FPX cy I ks wp F) (hu : κ < 51) (hT : TK2[κ]? = some d) (hz : z < k_len d) (ht9 : k_ty d z = some t) (hp : f_ev I.1 p = some (z : Int)) (hx : c_cu ks wp κ z = some x) (hv9 : hv I v x) : hcf T2 I ks wp (κ, none, p, v) := by
  obtain ⟨i, q, e, v', r1, r2, r3, r4, -⟩ := cell_any hF hu hT hz ht9
  rw [r4] at hx
  cases hx
  exact ⟨i, q, e, z, _, r1, r2, hu, hp, r3, hv9⟩
/-- of a cell that has a name -/
theorem cf_mkn {κ q z : Nat} {p v : BV} {d : KD} {x : Value} (ha : hap wp) (hF : HS T2 FPX cy I ks wp F) (hT : TK2[κ]? = some d) (hq : (q, κ) ∈ I.2.1) (hn : I.1[n]? = some (q : Int)) (hp : f_ev I.1 p = some (z : Int)) (hx : c_cu ks wp (ky q κ) z = some x) (hv9 : hv I v x) : hcf T2 I ks wp (κ, some n, p, v) := by
  obtain ⟨i, e, g1, g2⟩ := hF.1.2.2.1 q κ d hq hT
  rw [cu_nm ha hF.1 g1 g2] at hx
  exact ⟨i, q, e, z, x, g1, g2, hn, hp, hx, hv9⟩
/-- what stands in a place of a cell of a kind has its sort -/
theorem nm_ty {κ q z : Nat} {d : KD} {t : BT} (ha : hap wp) (hF : HS T2 FPX cy I ks wp F) (hT : TK2[κ]? = some d) (hz : z < k_len d) (ht9 : k_ty d z = some t) (hq : (q, κ) ∈ I.2.1) : ∃ x, c_cu ks wp (ky q κ) z = some x ∧ ht I.2.1 t x := by
  obtain ⟨i, e, g1, g2⟩ := hF.1.2.2.1 q κ d hq hT
  obtain ⟨q', e', d', h1, h2, h3, -⟩ := hF.1.2.1 i κ g1
  rw [g2] at h1
  cases h1
  have h2 : TK2[κ]? = some d' := h2
  rw [hT] at h2
  cases h2
  obtain ⟨x, x1, x2⟩ := h3.2 z t hz ht9
  exact ⟨x, by rw [cu_nm ha hF.1 g1 g2]; exact x1, x2⟩
theorem ht_ref {AK : List (Nat × Nat)} {κ : Nat} {x : Value} (h : ht AK (.inr (.inr (κ, true))) x) : ∃ q : Nat, (q, κ) ∈ AK ∧ x = .ref q := by
  rcases h with ⟨h, -⟩ | h
  · cases h
  · exact h
theorem t2_44 : ∃ d, TK2[44]? = some d ∧ 0 < k_len d ∧ k_ty d 0 = some (.inr (.inr (51, true))) := ⟨_, rfl, by decide, rfl⟩
theorem t2_8 : ∃ d, TK2[8]? = some d ∧ k_len d = 9 ∧ ∀ j, j < 9 → k_ty d j = some (.inr (.inr (64, false))) := ⟨_, rfl, rfl, fun j hj => by
  have h : ∀ k : Fin 9, k_seg [(9, .inr (.inr (64, false)))] k.val = some ((.inr (.inr (64, false))) : BT) := by decide
  exact h ⟨j, hj⟩⟩
theorem t2_64 : ∃ d, TK2[64]? = some d ∧ 0 < k_len d ∧ k_ty d 0 = some (.inr (.inr (51, true))) := ⟨_, rfl, by decide, rfl⟩
theorem t2_ki {j : Nat} (hj : j < 2) : ∃ d, TK2[ki j]? = some d ∧ 0 < k_len d ∧ k_ty d 0 = some (.inr (.inr (51, true))) := by
  rcases (show j = 0 ∨ j = 1 by omega) with rfl | rfl
  · exact ⟨_, rfl, by decide, rfl⟩
  · exact ⟨_, rfl, by decide, rfl⟩
theorem t2_21 {j : Nat} (hj : j < 2) : ∃ d, TK2[21]? = some d ∧ j < k_len d ∧ k_ty d j = some (.inr (.inr (ki j, false))) := by
  rcases (show j = 0 ∨ j = 1 by omega) with rfl | rfl
  · exact ⟨_, rfl, by decide, rfl⟩
  · exact ⟨_, rfl, by decide, rfl⟩
theorem city_at {k : Nat} (hF : HS T2 FPX cy I ks wp F) (h : h_city F.2.2.1 = some k) : ∃ q : Nat, c_cu ks wp 44 0 = some (.ref q) ∧ I.1[k]? = some (q : Int) ∧ (q, 51) ∈ I.2.1 := by
  obtain ⟨x, h1, h2⟩ := cf_uz (z := 0) hF (by decide) (h_pn_ok h)
  obtain ⟨q, rfl, h3, h4⟩ := hv_rn h2
  exact ⟨q, h1, h3, h4⟩
theorem int_at {κ z : Nat} {a : BV} (hF : HS T2 FPX cy I ks wp F) (hu : κ < 51) (hm : f_cf F.2.2.1 κ none (bI (z : Int)) = some a) (ha : f_isI a = true) : f_ev I.1 a = some (cint (c_cu ks wp) κ z) := by
  obtain ⟨x, h1, h2⟩ := cf_uz hF hu hm
  obtain ⟨y, rfl⟩ := hv_isI h2 ha
  rw [hv_ev h2]
  unfold cint
  rw [h1]
theorem fact0 {id : Nat} (hF : HS T2 FPX cy I ks wp F) (h : f_sin F.2.2.2 id [] = true) : FPX id (c_cu ks wp) [] := by
  obtain ⟨zs, h1, h2⟩ := hF.2.2.2 _ (f_sin_ok h)
  cases h1
  exact h2
theorem ev3s {ν : List Int} {a b c : BV} {x y z : Int} (h1 : f_ev ν a = some x) (h2 : f_ev ν b = some y) (h3 : f_ev ν c = some z) : f_evs ν [a, b, c] = some [x, y, z] := by
  simp only [f_evs, h1, h2, h3]
theorem evs3_inv {ν : List Int} {a b c : BV} {zs : List Int} (h : f_evs ν [a, b, c] = some zs) : ∃ x y z, f_ev ν a = some x ∧ f_ev ν b = some y ∧ f_ev ν c = some z ∧ zs = [x, y, z] := by
  simp only [f_evs] at h
  cases h1 : f_ev ν a with
  | none => rw [h1] at h; simp at h
  | some x =>
    cases h2 : f_ev ν b with
    | none => rw [h1, h2] at h; simp at h
    | some y =>
      cases h3 : f_ev ν c with
      | none => rw [h1, h2, h3] at h; simp at h
      | some z =>
        rw [h1, h2, h3] at h
        simp only [Option.some.injEq] at h
        exact ⟨x, y, z, rfl, rfl, rfl, h.symm⟩
theorem evs5_inv {ν : List Int} {a b c d e : BV} {zs : List Int} (h : f_evs ν [a, b, c, d, e] = some zs) : ∃ x y z u w, f_ev ν a = some x ∧ f_ev ν b = some y ∧ f_ev ν c = some z ∧ f_ev ν d = some u ∧ f_ev ν e = some w ∧ zs = [x, y, z, u, w] := by
  cases h1 : f_ev ν a with
  | none => simp only [f_evs, h1] at h; cases h
  | some x =>
    cases h2 : f_ev ν b with
    | none => simp only [f_evs, h1, h2] at h; cases h
    | some y =>
      cases h3 : f_ev ν c with
      | none => simp only [f_evs, h1, h2, h3] at h; cases h
      | some z =>
        cases h4 : f_ev ν d with
        | none => simp only [f_evs, h1, h2, h3, h4] at h; cases h
        | some u =>
          cases h5 : f_ev ν e with
          | none => simp only [f_evs, h1, h2, h3, h4, h5] at h; cases h
          | some w =>
            simp only [f_evs, h1, h2, h3, h4, h5, Option.some.injEq] at h
            exact ⟨x, y, z, u, w, rfl, rfl, rfl, rfl, rfl, h.symm⟩
theorem fact93 {k f s : BV} (hF : HS T2 FPX cy I ks wp F) (h : h_fst 93 F.2.2.2 = some [k, f, s]) : ∃ (qc : Nat) (f0 s0 : Int), f_ev I.1 k = some (qc : Int) ∧ f_ev I.1 f = some f0 ∧ f_ev I.1 s = some s0 ∧ hGo (c_cu ks wp) qc f0 s0 (-1) := by
  obtain ⟨zs, h1, qc, f0, s0, rfl, h2⟩ := hF.2.2.2 _ (h_fst_in h)
  obtain ⟨x, y, z, e1, e2, e3, e4⟩ := evs3_inv h1
  simp only [List.cons.injEq, and_true] at e4
  obtain ⟨rfl, rfl, rfl⟩ := e4
  exact ⟨qc, f0, s0, e1, e2, e3, h2⟩
theorem fact100 {f i t : BV} (hF : HS T2 FPX cy I ks wp F) (h : (100, [f, i, t]) ∈ F.2.2.2) : ∃ f0 i0 : Int, f_ev I.1 f = some f0 ∧ f_ev I.1 i = some i0 ∧ f_ev I.1 t = some ((f0 + i0) % 9) := by
  obtain ⟨zs, h1, f0, i0, rfl⟩ := hF.2.2.2 _ h
  obtain ⟨x, y, z, e1, e2, e3, e4⟩ := evs3_inv h1
  simp only [List.cons.injEq, and_true] at e4
  obtain ⟨rfl, rfl, rfl⟩ := e4
  exact ⟨f0, i0, e1, e2, e3⟩
theorem in_iv {a : BV} {z lo hi : Int} (hE : henv I.1 n E) (h : h_in E (some a) lo hi = true) (hz : f_ev I.1 a = some z) : lo ≤ z ∧ z ≤ hi := by
  simp only [h_in] at h
  split at h
  · rename_i l h9 hq
    simp only [Bool.and_eq_true, decide_eq_true_eq] at h
    have := ev_iv hE hz hq
    omega
  · cases h
end HKH
