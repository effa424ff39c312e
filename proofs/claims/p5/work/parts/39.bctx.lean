/-! what a method's walk stands on, and what it is to be safe -/
def ROK2 (P : List MT) (own : String) (i : Nat) (r : RES) : Prop := ROK P own i r ∧ (r.1 = 11 → Cond.constant own i (Int32.ofInt r.2.2.2) ∈ BIG ∧ -2147483648 ≤ r.2.2.2 ∧ r.2.2.2 < 2147483648)
def POK2 (P : List MT) (RT : List (List (Nat × RES))) (OW : List String) : Prop :=
  (∀ (j : Nat) (M : MT), P[j]? = some M → MOK M ∧ TOK OW M ∧ OW[mO M]? = some (mY M).cls) ∧ (∀ (o : Nat) (own : String) (L : List (Nat × RES)), OW[o]? = some own → RT[o]? = some L → ∀ q ∈ L, ROK2 P own q.1 q.2) ∧
  (Cond.native arraycopyName ∈ BIG ∧ Cond.static arraycopyName ∈ BIG ∧ Cond.initialized "java/lang/System" ∈ BIG)
theorem e_lk_in {x : List (Nat × RES)} {i : Nat} {r : RES} : e_lk x i = some r → (i, r) ∈ x := by
  induction x with
  | nil => intro h; cases h
  | cons q t ih =>
    obtain ⟨j, r'⟩ := q
    intro h
    simp only [e_lk] at h
    split at h
    · rename_i h1
      have h1 := Nat.eq_of_beq_eq_true h1
      subst h1
      cases h
      exact List.mem_cons_self
    · exact List.mem_cons_of_mem _ (ih h)
theorem res_ok {P : List MT} {RT : List (List (Nat × RES))} {OW : List String} {o i : Nat} {own : String} {r : RES} (hP : POK2 P RT OW) (ho : OW[o]? = some own) (h : e_res RT o i = some r) : ROK2 P own i r := by
  unfold e_res at h
  split at h
  · rename_i x hx
    exact hP.2.1 o own x ho hx _ (e_lk_in h)
  · cases h
/-- what is outside: a predicate that later states keep -/
abbrev EWt : Type := (Nat → Nat) → (Nat → Prop) → State → Prop
def EWOK (EW : EWt) : Prop := (∀ (ex : Nat → Nat) (A A1 : Nat → Prop) (s U : State) (locs : List Loc) (H : Heap), EW ex A s → s.WarmedH U.vm → U.heap = H → va_S A s.heap H locs → (∀ q, A1 q → A q) → EW ex A1 U) ∧ (∀ (ex : Nat → Nat) (A : Nat → Prop) (U : State) (g : JFrame) (mk : MethodId) (a : Array Value), EW ex A U → EW ex A (U.calling g mk a))
abbrev RMt : Type := Nat × Nat × Nat × Nat
def Cx (OW : List String) (EW : EWt) (D : va_G) (cy : Nat → ClassId) (ex : Nat → Nat) (M : MT) (own : String) (p : Program) (R : Room) (s : State) (m : MethodId) (args : Array Value) (meth : Method) (c : Code) (A : Nat → Prop) (rm : RMt) (cb sb : Nat) : Prop :=
  p.tables.exec = Jvm.exec ∧ c.code = mC M ∧ c.maxLocals = mL M ∧ OW[mO M]? = some own ∧ s.vm.findClass own = some m.cls ∧ (∀ w ∈ BIG, w.before args s = true) ∧ KK D cy s ∧ (∀ q, s.heap.size ≤ q → A q) ∧ TOK OW M ∧ EW ex A s ∧ rm.1 ≤ R.frames ∧ cb + rm.2.1 ≤ R.cells ∧ sb + rm.2.2.1 ≤ R.slots ∧ rm.2.2.2 ≤ R.locals
/-- what is being made: one cell beside the others -/
def hraw (rw : Option (Nat × Nat)) (I : IN) (raw : va_W) : Prop := match rw with
  | none => raw = []
  | some (k, ci) => ∃ (q n : Nat), I.1[k]? = some (q : Int) ∧ raw = [(q, .inr (ci, v_dflts (clTy ci) 0 n))] ∧ ∃ r : vw_C, vwCl[ci]? = some r ∧ r.2.2 = n
def Sf (T : TBt) (FP : Nat → CUt → List Int → Prop) (D : va_G) (cy : Nat → ClassId) (I0 : IN) (ks0 : List Nat) (wp0 : va_W) (wr : WR) (M : MT) (p : Program) (l : Launch) (e : Env) (R : Room) (s : State) (m : MethodId) (args : Array Value) (below : List Frame) (meth : Method) (c : Code) (A : Nat → Prop) (Q : State → Prop) (cb sb : Nat) (S : SB) : Prop :=
  ∀ (I : IN) (H : Heap) (locs : List Loc) (ls : Array Slot) (lv : List (Nat × Value)) (vs : List Value) (ks : List Nat) (wp raw : va_W), lv_has ls (mL M) lv → hlv I S.2.1 lv → hvs I S.2.2.1 vs → HS T FP cy I ks wp S.2.2.2.1 → hraw S.2.2.2.2.1 I raw → va_P D vwCl (wp ++ raw) H → va_D A (wp ++ raw) → va_S A s.heap H locs → hxt I0 I → Unch wr ks0 wp0 ks wp →
    W p l e R s m args below meth c H locs (cb + S.2.2.2.2.2.1) (sb + S.2.2.2.2.2.2) Q (F0 m S.1 ls vs)
theorem hap_of {A : Nat → Prop} {wp raw : va_W} (h : va_D A (wp ++ raw)) : hap wp := by
  intro i j p q hi hj e
  refine h.1 i j p q ?_ ?_ e
  · rw [List.getElem?_append_left (List.getElem?_eq_some_iff.mp hi).1]; exact hi
  · rw [List.getElem?_append_left (List.getElem?_eq_some_iff.mp hj).1]; exact hj
theorem wr_at {wp raw : va_W} {i : Nat} {x : Nat × va_E} (h : wp[i]? = some x) : (wp ++ raw)[i]? = some x := by
  rw [List.getElem?_append_left (List.getElem?_eq_some_iff.mp h).1]; exact h
theorem wr_set {wp raw : va_W} {i : Nat} {x y : Nat × va_E} (h : wp[i]? = some y) : (wp ++ raw).set i x = wp.set i x ++ raw := by
  rw [List.set_append_left _ _ (List.getElem?_eq_some_iff.mp h).1]
/-- the cell that a reference of a kind points to -/
theorem kd_ok {T : TBt} {FP : Nat → CUt → List Int → Prop} {cy : Nat → ClassId} {I : IN} {ks : List Nat} {wp : va_W} {F : FS} {a : BV} {v : Value} {κ : Nat} {nn : Bool} {nm : Option Nat} {d : KD} (h : HS T FP cy I ks wp F) (hv9 : hv I a v) (hk : f_kd T F.2.1 a = some (κ, nn, nm, d)) : ∃ (q i : Nat) (e : va_E), v = .ref q ∧ ks[i]? = some κ ∧ wp[i]? = some (q, e) ∧ ktyped cy I.2.1 d e ∧ T.1[κ]? = some d ∧ a = bP κ nn nm := by
  unfold f_kd at hk
  split at hk
  · rename_i κ' nn' nm'
    split at hk
    · rename_i hn
      split at hk
      · rename_i d' hd
        cases hk
        obtain ⟨q, rfl⟩ := f_nn_ok h.2.1 hv9 hn
        have hq : (q, κ) ∈ I.2.1 := by
          rcases hv9.1 with ⟨-, h1⟩ | ⟨q', h1, h2⟩
          · cases h1
          · cases h2; exact h1
        obtain ⟨i, e, g1, g2⟩ := h.1.2.2.1 q κ d hq hd
        obtain ⟨q2, e2, d2, g3, g4, g5, -⟩ := h.1.2.1 i κ g1
        rw [g2] at g3
        cases g3
        rw [hd] at g4
        cases g4
        exact ⟨q, i, e, rfl, g1, g2, g5, hd, rfl⟩
      · cases hk
    · cases hk
  · cases hk
theorem f_fits_ok {I : IN} {n : Nat} {E : EB} {ty : FieldType} {a : BV} {v : Value} (hE : henv I.1 n E) (h : hv I a v) (hf : f_fits E ty a = true) : narrow ty v = v ∧ fits ty v = true := by
  unfold f_fits at hf
  split at hf
  · obtain ⟨x, rfl⟩ := hv_isI h hf
    exact ⟨rfl, rfl⟩
  · split at hf
    · rename_i lo hi hq
      simp only [Bool.and_eq_true, decide_eq_true_eq] at hf
      obtain ⟨x, rfl, h1, h2⟩ := hv_int hE h hq
      rcases en_b01 (x := x) (by omega) (by omega) with rfl | rfl <;> exact ⟨by decide, by decide⟩
    · cases hf
  · obtain ⟨x, rfl⟩ := hv_isL h hf
    exact ⟨rfl, rfl⟩
  · rcases hv_isR h hf with rfl | ⟨q, rfl⟩ <;> exact ⟨rfl, rfl⟩
  · rcases hv_isR h hf with rfl | ⟨q, rfl⟩ <;> exact ⟨rfl, rfl⟩
  · cases hf
theorem f_pl_ok {I : IN} {n0 : Nat} {E : EB} {i : BV} {v : Value} {n l h : Nat} (hE : henv I.1 n0 E) (hv9 : hv I i v) (hp : f_pl E i n = some (l, h)) : ∃ (j : Int32) (z : Nat), v = .int j ∧ j.toInt = (z : Int) ∧ z < n ∧ l ≤ z ∧ z ≤ h ∧ f_ev I.1 i = some (z : Int) := by
  unfold f_pl at hp
  split at hp
  · rename_i l0 h0 hiv
    split at hp
    · rename_i q
      simp only [Bool.and_eq_true, decide_eq_true_eq] at q
      cases hp
      obtain ⟨j, rfl, g1, g2⟩ := hv_int hE hv9 hiv
      have e9 : j.toInt = (j.toInt.toNat : Int) := by omega
      refine ⟨j, j.toInt.toNat, rfl, e9, by omega, by omega, by omega, ?_⟩
      rw [← e9]
      exact hv_ev hv9
    · cases hp
  · cases hp
theorem f_afit_ok {T : TBt} {FP : Nat → CUt → List Int → Prop} {cy : Nat → ClassId} {I : IN} {ks : List Nat} {wp raw : va_W} {F : FS} {t : Nat} {a : BV} {v : Value} (ht : t < 6) (h : HS T FP cy I ks wp F) (hv9 : hv I a v) (hf : f_afit T F.2.1 t a = true) : v_afit t v ∨ (4 ≤ t ∧ (v = .null ∨ ∃ (i2 q2 : Nat) (vs2 : List Value), v = .ref q2 ∧ (wp ++ raw)[i2]? = some (q2, .inr (e_acls t, vs2)))) := by
  unfold f_afit at hf
  split at hf
  · obtain ⟨x, rfl⟩ := hv_isI hv9 hf
    exact Or.inl (Or.inl ⟨rfl, x, rfl⟩)
  · split at hf
    · rename_i lo hi hq
      simp only [Bool.and_eq_true, decide_eq_true_eq] at hf
      obtain ⟨x, rfl, h1, h2⟩ := hv_int h.2.1 hv9 hq
      exact Or.inl (Or.inr (Or.inl ⟨rfl, x, rfl, by omega, by omega⟩))
    · cases hf
  · split at hf
    · rename_i lo hi hq
      simp only [Bool.and_eq_true, decide_eq_true_eq] at hf
      obtain ⟨x, rfl, h1, h2⟩ := hv_int h.2.1 hv9 hq
      exact Or.inl (Or.inr (Or.inr (Or.inl ⟨rfl, x, rfl, by omega, by omega⟩)))
    · cases hf
  · obtain ⟨x, rfl⟩ := hv_isL hv9 hf
    exact Or.inl (Or.inr (Or.inr (Or.inr ⟨rfl, x, rfl⟩)))
  · rename_i n0 n1 n2 n3
    have h4 : 4 ≤ t := by
      rcases t with _ | _ | _ | _ | t
      · exact absurd rfl n0
      · exact absurd rfl n1
      · exact absurd rfl n2
      · exact absurd rfl n3
      · omega
    right
    refine ⟨h4, ?_⟩
    split at hf
    · exact Or.inl hv9
    · rename_i κ b1 b2
      split at hf
      · rename_i ci fs hd
        have hf := Nat.eq_of_beq_eq_true hf
        rcases hv9.1 with ⟨-, h1⟩ | ⟨q, h1, h2⟩
        · exact Or.inl h1
        · obtain ⟨i, e, g1, g2⟩ := h.1.2.2.1 q κ _ h1 hd
          obtain ⟨q2, e2, d2, g3, g4, g5, -⟩ := h.1.2.1 i κ g1
          rw [g2] at g3
          cases g3
          rw [hd] at g4
          cases g4
          obtain ⟨vs, rfl, -⟩ := g5.1
          exact Or.inr ⟨i, q, vs, h2, by rw [← hf]; exact wr_at g2⟩
      · cases hf
    · cases hf
