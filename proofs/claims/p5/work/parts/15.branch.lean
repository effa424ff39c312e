/-! branches -/
def e_rc (cnd : Jvm.ClassFile.Cond) : Nat × Nat × Bool := match cnd with
  | .eq => (0, 1, false)
  | .ne => (1, 0, false)
  | .lt => (2, 3, false)
  | .ge => (3, 2, false)
  | .gt => (2, 3, true)
  | .le => (3, 2, true)
/-- the numbers where a branch goes, and where it does not -/
def e_cmp (E : EV) (cnd : Jvm.ClassFile.Cond) (x y : AV) : Option (List EV × List EV) :=
  match (if (e_rc cnd).2.2 = true then e_rel E (e_rc cnd).1 y x else e_rel E (e_rc cnd).1 x y), (if (e_rc cnd).2.2 = true then e_rel E (e_rc cnd).2.1 y x else e_rel E (e_rc cnd).2.1 x y) with
  | some t, some f => some (t, f)
  | _, _ => none
abbrev BR : Type := Nat × EV × List AV
def e_b1 (x : List EV) (pc : Nat) (st : List AV) : List BR := x.map (fun E => (pc, E, st))
def e_tgt (pc : Nat) (off : Int) : Option Nat := if decide (0 ≤ (pc : Int) + off) = true then some ((pc : Int) + off).toNat else none
def e_tab (E : EV) (pc : Nat) (a : AV) (st : List AV) (v : Int) (offs : List Int) : Option (List BR) := match offs with
  | [] => some []
  | o :: r => (match e_tgt pc o, e_tab E pc a st (v + 1) r with
    | some t, some q => some (e_b1 (e_clamp E a v v).toList t st ++ q)
    | _, _ => none)
def e_branch (E : EV) (pc : Nat) (ins : Instr) (len : Nat) (st : List AV) : Option (List BR) := match ins with
  | .goto off => (match e_tgt pc off with | some t => if Nat.beq len 3 = true then some [(t, E, st)] else none | none => none)
  | .ifCond cnd off => (match st with
    | x :: st' => (match e_tgt pc off, e_cmp E cnd x (aI 0) with | some t, some (p, q) => if Nat.beq len 3 = true then some (e_b1 p t st' ++ e_b1 q (pc + 3) st') else none | _, _ => none)
    | _ => none)
  | .if_icmp cnd off => (match st with
    | y :: x :: st' => (match e_tgt pc off, e_cmp E cnd x y with | some t, some (p, q) => if Nat.beq len 3 = true then some (e_b1 p t st' ++ e_b1 q (pc + 3) st') else none | _, _ => none)
    | _ => none)
  | .ifnull off => (match st with
    | .inr (.inr (.inr (.inl none))) :: st' => (match e_tgt pc off with | some t => if Nat.beq len 3 = true then some [(t, E, st')] else none | none => none)
    | .inr (.inr (.inr (.inl (some _)))) :: st' => if Nat.beq len 3 = true then some [(pc + 3, E, st')] else none
    | _ => none)
  | .ifnonnull off => (match st with
    | .inr (.inr (.inr (.inl none))) :: st' => if Nat.beq len 3 = true then some [(pc + 3, E, st')] else none
    | .inr (.inr (.inr (.inl (some _)))) :: st' => (match e_tgt pc off with | some t => if Nat.beq len 3 = true then some [(t, E, st')] else none | none => none)
    | _ => none)
  | .tableswitch d lo hi offs => (match st with
    | x :: st' => (match e_iv E x, e_tgt pc d, e_tab E pc x st' lo offs.toList with
      | some _, some t, some q => if decide (hi = lo + offs.toList.length - 1) = true then some (e_b1 (e_clamp E x (-2147483648) (lo - 1)).toList t st' ++ (e_b1 (e_clamp E x (hi + 1) 2147483647).toList t st' ++ q)) else none
      | _, _, _ => none)
    | _ => none)
  | _ => none
section BRANCH
variable {ν : Nat → Int} {al : List Nat} {b : Nat} {E : EV}
variable {p : Program} {l : Launch} {e : Env} {R : Room} {s : State} {m : MethodId} {args : Array Value} {below : List Frame} {meth : Method} {c : Code} {H : Heap} {locs : List Loc} {cells slots : Nat} {Q : State → Prop}
variable {cc : ByteArray} {pc nL : Nat} {ls : Array Slot}
theorem e_tgt_ok {off : Int} {t : Nat} (h : e_tgt pc off = some t) : (pc : Int) + off = (t : Int) := by
  unfold e_tgt at h
  split at h
  · rename_i q
    have q := of_decide_eq_true q
    cases h
    omega
  · cases h
theorem en_0 : (0 : Int32).toInt = 0 := rfl
theorem h_icmp {cnd : Jvm.ClassFile.Cond} {off : Int} {t : Nat} {x y : Int32} {rest : List Value} (hx9 : p.tables.exec = Jvm.exec) (hb : c.code = cc) (hd : decode cc pc = .ok (.if_icmp cnd off, 3)) (ht : (pc : Int) + off = (t : Int))
    (kt : (if (e_rc cnd).2.2 = true then e_holds (e_rc cnd).1 y.toInt x.toInt else e_holds (e_rc cnd).1 x.toInt y.toInt) → W p l e R s m args below meth c H locs cells slots Q (F0 m t ls rest))
    (kf : (if (e_rc cnd).2.2 = true then e_holds (e_rc cnd).2.1 y.toInt x.toInt else e_holds (e_rc cnd).2.1 x.toInt y.toInt) → W p l e R s m args below meth c H locs cells slots Q (F0 m (pc + 3) ls rest)) : W p l e R s m args below meth c H locs cells slots Q (F0 m pc ls (.int y :: .int x :: rest)) := by
  cases cnd
  · exact lv_icmp_eq hx9 hb hd ht (fun h => kt ((fa_eq _ _).mp h)) (fun h => kf (fun q => h ((fa_eq _ _).mpr q)))
  · exact lv_icmp_ne hx9 hb hd ht (fun h => kt (fun q => h ((fa_eq _ _).mpr q))) (fun h => kf ((fa_eq _ _).mp h))
  · exact lv_icmp_lt hx9 hb hd ht (fun h => kt ((fa_lt _ _).mp h)) (fun h => kf ((fa_le _ _).mp (fa_of_nlt h)))
  · exact lv_icmp_ge hx9 hb hd ht (fun h => kt ((fa_le _ _).mp h)) (fun h => kf ((fa_lt _ _).mp (fa_of_nle h)))
  · exact lv_icmp_gt hx9 hb hd ht (fun h => kt ((fa_lt _ _).mp h)) (fun h => kf ((fa_le _ _).mp (fa_of_nlt h)))
  · exact lv_icmp_le hx9 hb hd ht (fun h => kt ((fa_le _ _).mp h)) (fun h => kf ((fa_lt _ _).mp (fa_of_nle h)))
theorem h_ifc {cnd : Jvm.ClassFile.Cond} {off : Int} {t : Nat} {x : Int32} {rest : List Value} (hx9 : p.tables.exec = Jvm.exec) (hb : c.code = cc) (hd : decode cc pc = .ok (.ifCond cnd off, 3)) (ht : (pc : Int) + off = (t : Int))
    (kt : (if (e_rc cnd).2.2 = true then e_holds (e_rc cnd).1 (0 : Int32).toInt x.toInt else e_holds (e_rc cnd).1 x.toInt (0 : Int32).toInt) → W p l e R s m args below meth c H locs cells slots Q (F0 m t ls rest))
    (kf : (if (e_rc cnd).2.2 = true then e_holds (e_rc cnd).2.1 (0 : Int32).toInt x.toInt else e_holds (e_rc cnd).2.1 x.toInt (0 : Int32).toInt) → W p l e R s m args below meth c H locs cells slots Q (F0 m (pc + 3) ls rest)) : W p l e R s m args below meth c H locs cells slots Q (F0 m pc ls (.int x :: rest)) := by
  cases cnd
  · exact lv_if_eq hx9 hb hd ht (fun h => kt ((fa_eq _ _).mp h)) (fun h => kf (fun q => h ((fa_eq _ _).mpr q)))
  · exact lv_if_ne hx9 hb hd ht (fun h => kt (fun q => h ((fa_eq _ _).mpr q))) (fun h => kf ((fa_eq _ _).mp h))
  · exact lv_if_lt hx9 hb hd ht (fun h => kt ((fa_lt _ _).mp h)) (fun h => kf ((fa_le _ _).mp (fa_of_nlt h)))
  · exact lv_if_ge hx9 hb hd ht (fun h => kt ((fa_le _ _).mp h)) (fun h => kf ((fa_lt _ _).mp (fa_of_nle h)))
  · exact lv_if_gt hx9 hb hd ht (fun h => kt ((fa_lt _ _).mp h)) (fun h => kf ((fa_le _ _).mp (fa_of_nlt h)))
  · exact lv_if_le hx9 hb hd ht (fun h => kt ((fa_le _ _).mp h)) (fun h => kf ((fa_lt _ _).mp (fa_of_nle h)))
theorem e_cmp_ok {cnd : Jvm.ClassFile.Cond} {ax ay : AV} {x y : Int32} {t f : List EV} (hE : genv ν E) (hx : gv ν al b ax (.int x)) (hy : gv ν al b ay (.int y)) (h : e_cmp E cnd ax ay = some (t, f)) :
    ((if (e_rc cnd).2.2 = true then e_holds (e_rc cnd).1 y.toInt x.toInt else e_holds (e_rc cnd).1 x.toInt y.toInt) → ∃ E1, E1 ∈ t ∧ genv ν E1) ∧ ((if (e_rc cnd).2.2 = true then e_holds (e_rc cnd).2.1 y.toInt x.toInt else e_holds (e_rc cnd).2.1 x.toInt y.toInt) → ∃ E1, E1 ∈ f ∧ genv ν E1) := by
  unfold e_cmp at h
  split at h
  · rename_i t1 f1 h1 h2
    cases h
    refine ⟨fun g => ?_, fun g => ?_⟩
    · split at h1 <;> rename_i q
      · rw [if_pos q] at g; exact e_rel_ok hE hy hx h1 g
      · rw [if_neg q] at g; exact e_rel_ok hE hx hy h1 g
    · split at h2 <;> rename_i q
      · rw [if_pos q] at g; exact e_rel_ok hE hy hx h2 g
      · rw [if_neg q] at g; exact e_rel_ok hE hx hy h2 g
  · cases h
theorem e_cmp_iv {cnd : Jvm.ClassFile.Cond} {ax ay : AV} {r : List EV × List EV} (h : e_cmp E cnd ax ay = some r) : (∃ q, e_iv E ax = some q) ∧ ∃ q, e_iv E ay = some q := by
  have key : ∀ {k : Nat} {u v : AV} {o : List EV}, e_rel E k u v = some o → (∃ q, e_iv E u = some q) ∧ ∃ q, e_iv E v = some q := by
    intro k u v o h
    unfold e_rel at h
    split at h
    · rename_i e1 e2
      exact ⟨⟨_, e1⟩, ⟨_, e2⟩⟩
    · cases h
  unfold e_cmp at h
  split at h
  · rename_i t1 f1 h1 h2
    split at h1
    · have := key h1; exact ⟨this.2, this.1⟩
    · exact key h1
  · cases h
theorem mem_b1 {x : List EV} {E1 : EV} {t : Nat} {st : List AV} (h : E1 ∈ x) : (t, E1, st) ∈ e_b1 x t st := List.mem_map.mpr ⟨E1, h, rfl⟩
theorem e_tab_ok {x : Int32} {a : AV} {st : List AV} (hE : genv ν E) (hx : gv ν al b a (.int x)) (hk : ∃ q, e_iv E a = some q) : ∀ (offs : List Int) (v : Int) (q : List BR), e_tab E pc a st v offs = some q → ∀ (k : Nat) (off : Int), offs[k]? = some off → x.toInt = v + (k : Int) → ∃ (t : Nat) (E1 : EV), (pc : Int) + off = (t : Int) ∧ (t, E1, st) ∈ q ∧ genv ν E1 := by
  intro offs
  induction offs with
  | nil => intro v q _ k off h; simp at h
  | cons o r ih =>
    intro v q h k off hk9 hv
    simp only [e_tab] at h
    split at h
    · rename_i t q1 h1 h2
      cases h
      cases k with
      | zero =>
        simp at hk9
        subst hk9
        obtain ⟨E1, e1, g1, -⟩ := e_clamp_ok (lo := v) (hi := v) hE hx hk (by omega) (by omega)
        exact ⟨t, E1, e_tgt_ok h1, List.mem_append_left _ (mem_b1 (mem_toL e1)), g1⟩
      | succ k =>
        simp at hk9
        obtain ⟨t', E1, g1, g2, g3⟩ := ih (v + 1) q1 h2 k off hk9 (by omega)
        exact ⟨t', E1, g1, List.mem_append_right _ g2, g3⟩
    · cases h
theorem e_branch_ok {ins : Instr} {len : Nat} {st : List AV} {vs : List Value} {brs : List BR} (hx9 : p.tables.exec = Jvm.exec) (hb : c.code = cc) (h : e_branch E pc ins len st = some brs) (hd : decode cc pc = .ok (ins, len)) (hs : gvs ν al b st vs) (hE : genv ν E)
    (kk : ∀ br ∈ brs, ∀ vs', genv ν br.2.1 → gvs ν al b br.2.2 vs' → W p l e R s m args below meth c H locs cells slots Q (F0 m br.1 ls vs')) : W p l e R s m args below meth c H locs cells slots Q (F0 m pc ls vs) := by
  unfold e_branch at h
  split at h
  · split at h
    · rename_i ht
      split at h
      · rename_i hlen
        cases h
        have := Nat.eq_of_beq_eq_true hlen
        subst this
        exact lv_goto hx9 hb hd (e_tgt_ok ht) (kk _ List.mem_cons_self _ hE hs)
      · cases h
    · cases h
  · split at h
    · split at h
      · rename_i ht hc
        split at h
        · rename_i hlen
          cases h
          have := Nat.eq_of_beq_eq_true hlen
          subst this
          obtain ⟨vx, vs1, rfl, g1, hs1⟩ := gvs_cons hs
          obtain ⟨⟨q1, e1⟩, -⟩ := e_cmp_iv hc
          obtain ⟨i, rfl, -⟩ := gv_int hE g1 e1
          have g0 : gv ν al b (aI 0) (.int 0) := ⟨0, rfl, by decide, by decide⟩
          obtain ⟨c1, c2⟩ := e_cmp_ok hE g1 g0 hc
          refine h_ifc hx9 hb hd (e_tgt_ok ht) (fun g => ?_) (fun g => ?_)
          · obtain ⟨E1, e9, gE⟩ := c1 g
            exact kk _ (List.mem_append_left _ (mem_b1 e9)) _ gE hs1
          · obtain ⟨E1, e9, gE⟩ := c2 g
            exact kk _ (List.mem_append_right _ (mem_b1 e9)) _ gE hs1
        · cases h
      · cases h
    · cases h
  · split at h
    · split at h
      · rename_i ht hc
        split at h
        · rename_i hlen
          cases h
          have := Nat.eq_of_beq_eq_true hlen
          subst this
          obtain ⟨vy, vs1, rfl, g1, hs1⟩ := gvs_cons hs
          obtain ⟨vx, vs2, rfl, g2, hs2⟩ := gvs_cons hs1
          obtain ⟨⟨q1, e1⟩, ⟨q2, e2⟩⟩ := e_cmp_iv hc
          obtain ⟨i, rfl, -⟩ := gv_int hE g2 e1
          obtain ⟨j, rfl, -⟩ := gv_int hE g1 e2
          obtain ⟨c1, c2⟩ := e_cmp_ok hE g2 g1 hc
          refine h_icmp hx9 hb hd (e_tgt_ok ht) (fun g => ?_) (fun g => ?_)
          · obtain ⟨E1, e9, gE⟩ := c1 g
            exact kk _ (List.mem_append_left _ (mem_b1 e9)) _ gE hs2
          · obtain ⟨E1, e9, gE⟩ := c2 g
            exact kk _ (List.mem_append_right _ (mem_b1 e9)) _ gE hs2
        · cases h
      · cases h
    · cases h
  · split at h
    · split at h
      · rename_i ht
        split at h
        · rename_i hlen
          cases h
          have := Nat.eq_of_beq_eq_true hlen
          subst this
          obtain ⟨v, vs1, rfl, g1, hs1⟩ := gvs_cons hs
          have g1 : v = .null := g1
          subst g1
          exact lv_ifnullN hx9 hb hd (e_tgt_ok ht) (kk _ List.mem_cons_self _ hE hs1)
        · cases h
      · cases h
    · split at h
      · rename_i hlen
        cases h
        have := Nat.eq_of_beq_eq_true hlen
        subst this
        obtain ⟨v, vs1, rfl, g1, hs1⟩ := gvs_cons hs
        obtain ⟨q, -, rfl⟩ := g1
        exact lv_ifnull hx9 hb hd (kk _ List.mem_cons_self _ hE hs1)
      · cases h
    · cases h
  · split at h
    · split at h
      · rename_i hlen
        cases h
        have := Nat.eq_of_beq_eq_true hlen
        subst this
        obtain ⟨v, vs1, rfl, g1, hs1⟩ := gvs_cons hs
        have g1 : v = .null := g1
        subst g1
        exact lv_ifnonnullN hx9 hb hd (kk _ List.mem_cons_self _ hE hs1)
      · cases h
    · split at h
      · rename_i ht
        split at h
        · rename_i hlen
          cases h
          have := Nat.eq_of_beq_eq_true hlen
          subst this
          obtain ⟨v, vs1, rfl, g1, hs1⟩ := gvs_cons hs
          obtain ⟨q, -, rfl⟩ := g1
          exact lv_ifnonnull hx9 hb hd (e_tgt_ok ht) (kk _ List.mem_cons_self _ hE hs1)
        · cases h
      · cases h
    · cases h
  · rename_i d lo hi offs
    split at h
    · split at h
      · rename_i hiv ht hq
        split at h
        · rename_i hh
          have hh := of_decide_eq_true hh
          cases h
          obtain ⟨v, vs1, rfl, g1, hs1⟩ := gvs_cons hs
          obtain ⟨i, rfl, -⟩ := gv_int hE g1 hiv
          have r1 := fb_rng i
          by_cases hlo : i.toInt < lo
          · obtain ⟨E1, e1, gE, -⟩ := e_clamp_ok (lo := -2147483648) (hi := lo - 1) hE g1 ⟨_, hiv⟩ (by omega) (by omega)
            exact lv_tableOut hx9 hb hd (Or.inl hlo) (e_tgt_ok ht) (kk _ (List.mem_append_left _ (mem_b1 (mem_toL e1))) _ gE hs1)
          · by_cases hhi : hi < i.toInt
            · obtain ⟨E1, e1, gE, -⟩ := e_clamp_ok (lo := hi + 1) (hi := 2147483647) hE g1 ⟨_, hiv⟩ (by omega) (by omega)
              exact lv_tableOut hx9 hb hd (Or.inr hhi) (e_tgt_ok ht) (kk _ (List.mem_append_right _ (List.mem_append_left _ (mem_b1 (mem_toL e1)))) _ gE hs1)
            · have hlt : (i.toInt - lo).toNat < offs.toList.length := by omega
              have hget : offs.toList[(i.toInt - lo).toNat]? = some offs.toList[(i.toInt - lo).toNat] := List.getElem?_eq_getElem hlt
              obtain ⟨t', E1, e1, e2, gE⟩ := e_tab_ok hE g1 ⟨_, hiv⟩ offs.toList lo _ hq _ _ hget (by omega)
              exact lv_tableIn hx9 hb hd hlo hhi (by rw [← Array.getElem?_toList]; exact hget) e1 (kk _ (List.mem_append_right _ (List.mem_append_right _ e2)) _ gE hs1)
        · cases h
      · cases h
    · cases h
  · cases h
end BRANCH
