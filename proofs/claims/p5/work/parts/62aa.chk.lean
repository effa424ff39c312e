/-! specs checked (written by wip/p41/gen4.py) -/
set_option maxRecDepth 1000000
def chkCn (G : GT) (i fuel : Nat) (sp : SPt) (n : Nat) : Bool := match (pC sp)[n]? with
  | some ct => f_chkC G i fuel sp ct
  | none => true
theorem chk_of {G : GT} {i fuel : Nat} {sp : SPt} (h0 : f_chk0 G i fuel sp = true) (hl : (G.2.1[pM sp]?).map (fun M => Nat.ble (f_ctg (pA sp)) (mL M)) = some true) (hc : ∀ n, n < (pC sp).length → chkCn G i fuel sp n = true) : f_chkA G i fuel sp = true := by
  unfold f_chkA
  simp only [Bool.and_eq_true]
  refine ⟨h0, List.all_eq_true.mpr (fun ct hct => ?_), ?_⟩
  · obtain ⟨n, hn⟩ := List.mem_iff_getElem?.mp hct
    have h1 := hc n (List.getElem?_eq_some_iff.mp hn).1
    unfold chkCn at h1
    rw [hn] at h1
    exact h1
  · cases hM : G.2.1[pM sp]? with
    | none => rw [hM] at hl; cases hl
    | some M =>
      rw [hM] at hl
      exact Option.some.inj hl
