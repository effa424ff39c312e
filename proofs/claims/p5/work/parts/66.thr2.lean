/-! what throws, and the law's own calls (written by wip/p41/gen7.py) -/
abbrev RMX : RMt := (50, 4, 32, 2000)
def XCU_thing : List CUt' := [(12, [], [], hpF 2, (0, 0), ([], 0)), (94, [], [], hpF 2, (0, 0), ([], 0))]
def XRUN_thing : Option (List OUB) := f_run (GGX [] 294) 294 [] 2 none XCU_thing [(12, 0, 0), (94, 0, 0)] [] 3000 true 0 RMX mt2_X11_thing (mT mt2_X11_thing) (0, f_args 0 (bP 0 true none :: (List.range 2).map (fun j => bV j 0)), [], hpF 2, none, 0, 0)
set_option maxRecDepth 1000000 in
theorem xrun_thing : XRUN_thing.isSome = true := by decide +kernel
theorem xsite_thing : ∀ ct ∈ XCU_thing, XS2 mt2_X11_thing RMX ct := by
  intro ct h
  simp only [XCU_thing, List.mem_cons, List.not_mem_nil, or_false] at h
  rcases h with rfl | rfl
  · exact ⟨148, "no such thing", rfl, by simp [XSTR], by decide +kernel, by decide +kernel, Or.inl ⟨by decide +kernel, by decide +kernel, by decide +kernel⟩, by decide, by decide⟩
  · exact ⟨167, "nothing such of a thing", rfl, by simp [XSTR], by decide +kernel, by decide +kernel, Or.inl ⟨by decide +kernel, by decide +kernel, by decide +kernel⟩, by decide, by decide⟩
theorem xidx_thing : PR2[80]? = some mt2_X11_thing := rfl
def XCU_person : List CUt' := [(12, [], [], hpF 2, (0, 0), ([], 0)), (115, [], [], hpF 2, (0, 0), ([], 0))]
def XRUN_person : Option (List OUB) := f_run (GGX [(258, [6, 7])] 294) 294 [] 2 none XCU_person [(12, 0, 0), (115, 0, 0)] [] 3000 true 0 RMX mt2_X11_person (mT mt2_X11_person) (0, f_args 0 (bP 0 true none :: (List.range 2).map (fun j => bV j 0)), [], hpF 2, none, 0, 0)
set_option maxRecDepth 1000000 in
theorem xrun_person : XRUN_person.isSome = true := by decide +kernel
theorem xsite_person : ∀ ct ∈ XCU_person, XS2 mt2_X11_person RMX ct := by
  intro ct h
  simp only [XCU_person, List.mem_cons, List.not_mem_nil, or_false] at h
  rcases h with rfl | rfl
  · exact ⟨169, "no such person", rfl, by simp [XSTR], by decide +kernel, by decide +kernel, Or.inl ⟨by decide +kernel, by decide +kernel, by decide +kernel⟩, by decide, by decide⟩
  · exact ⟨187, "nothing such of a person", rfl, by simp [XSTR], by decide +kernel, by decide +kernel, Or.inl ⟨by decide +kernel, by decide +kernel, by decide +kernel⟩, by decide, by decide⟩
theorem xidx_person : PR2[62]? = some mt2_X11_person := rfl
def XCU_slip : List CUt' := [(9, [], [], hpF 3, (0, 0), ([], 0)), (44, [], [], hpF 3, (0, 0), ([], 0)), (88, [], [], hpF 3, (0, 0), ([], 0))]
def XRUN_slip : Option (List OUB) := f_run (GGX [(52, [2]), (244, [49])] 294) 294 [] 3 none XCU_slip [(9, 0, 0), (44, 0, 0), (88, 0, 0)] [] 3000 true 0 RMX mt2_X11_slip (mT mt2_X11_slip) (0, f_args 0 (bP 0 true none :: (List.range 3).map (fun j => bV j 0)), [], hpF 3, none, 0, 0)
set_option maxRecDepth 1000000 in
theorem xrun_slip : XRUN_slip.isSome = true := by decide +kernel
theorem xsite_slip : ∀ ct ∈ XCU_slip, XS2 mt2_X11_slip RMX ct := by
  intro ct h
  simp only [XCU_slip, List.mem_cons, List.not_mem_nil, or_false] at h
  rcases h with rfl | rfl | rfl
  · exact ⟨281, "a fraction has two numbers", rfl, by simp [XSTR], by decide +kernel, by decide +kernel, Or.inr ⟨by decide +kernel, by decide +kernel, by decide +kernel⟩, by decide, by decide⟩
  · exact ⟨283, "no such ones", rfl, by simp [XSTR], by decide +kernel, by decide +kernel, Or.inr ⟨by decide +kernel, by decide +kernel, by decide +kernel⟩, by decide, by decide⟩
  · exact ⟨285, "it is carried or has no marks", rfl, by simp [XSTR], by decide +kernel, by decide +kernel, Or.inr ⟨by decide +kernel, by decide +kernel, by decide +kernel⟩, by decide, by decide⟩
theorem xidx_slip : PR2[74]? = some mt2_X11_slip := rfl
theorem hv_nn {I : IN} {κ : Nat} {v : Value} (h : hv I (bP κ true none) v) : ∃ q : Nat, v = .ref q := by
  rcases h.1 with ⟨h1, -⟩ | ⟨q, -, h1⟩
  · cases h1
  · exact ⟨q, h1⟩
theorem hpm {xs : Nat → Int32} {D : va_G} {cy : Nat → ClassId} {l : Launch} (hl : l.stackTraces = false) : HPM xs D cy l := by
  intro k hk I ks wp vs sz hF hg
  rcases (show k = 0 ∨ k = 1 ∨ k = 2 by omega) with rfl | rfl | rfl
  · obtain ⟨v0, w0, rfl, g0, hg⟩ := hvs_cons hg
    obtain ⟨v1, w1, rfl, g1, hg⟩ := hvs_cons hg
    obtain ⟨v2, w2, rfl, g2, hg⟩ := hvs_cons hg
    obtain ⟨v9, w9, rfl, g9, hg⟩ := hvs_cons hg
    have hn := hvs_nil hg
    subst hn
    obtain ⟨qx, rfl⟩ := hv_nn g0
    obtain ⟨qo, rfl⟩ := hv_nn g9
    obtain ⟨p0, rfl⟩ := hv_isI g1 rfl
    obtain ⟨p1, rfl⟩ := hv_isI g2 rfl
    obtain ⟨outs, hrun⟩ := Option.isSome_iff_exists.mp xrun_thing
    obtain ⟨mok, tok, ow⟩ := pok2.1 _ _ xidx_thing
    exact lx2_thing (M' := mt2_X11_thing) (rm := RMX) sz hl rfl mok rfl rfl rfl hF g0 g9 (by decide) (by decide) (by decide) (by decide) (fun sz' => x_met2 (G := GGX _ _) (M' := mt2_X11_thing) (as := bP 0 true none :: (List.range 2).map (fun j => bV j 0)) (F := hpF 2) sz' hl rfl pok2 hkok (oxrok5 (fun _ _ => Iff.rfl) (fun _ _ => Iff.rfl) (fun _ _ => Iff.rfl) (fun _ _ => Iff.rfl) (fun i sp hi hs => spa_294 i sp hi hs)) (fun i sp hi hs => spa_294 i sp hi hs) (by decide +kernel) rfl mok tok ow rfl ⟨g0, g1, g2, trivial⟩ hF (by decide) (by decide) (by decide) hrun xsite_thing)
  · obtain ⟨v0, w0, rfl, g0, hg⟩ := hvs_cons hg
    obtain ⟨v1, w1, rfl, g1, hg⟩ := hvs_cons hg
    obtain ⟨v2, w2, rfl, g2, hg⟩ := hvs_cons hg
    obtain ⟨v9, w9, rfl, g9, hg⟩ := hvs_cons hg
    have hn := hvs_nil hg
    subst hn
    obtain ⟨qx, rfl⟩ := hv_nn g0
    obtain ⟨qo, rfl⟩ := hv_nn g9
    obtain ⟨p0, rfl⟩ := hv_isI g1 rfl
    obtain ⟨p1, rfl⟩ := hv_isI g2 rfl
    obtain ⟨outs, hrun⟩ := Option.isSome_iff_exists.mp xrun_person
    obtain ⟨mok, tok, ow⟩ := pok2.1 _ _ xidx_person
    exact lx2_person (M' := mt2_X11_person) (rm := RMX) sz hl rfl mok rfl rfl rfl hF g0 g9 (by decide) (by decide) (by decide) (by decide) (fun sz' => x_met2 (G := GGX _ _) (M' := mt2_X11_person) (as := bP 0 true none :: (List.range 2).map (fun j => bV j 0)) (F := hpF 2) sz' hl rfl pok2 hkok (oxrok5 (fun _ _ => Iff.rfl) (fun _ _ => Iff.rfl) (fun _ _ => Iff.rfl) (fun _ _ => Iff.rfl) (fun i sp hi hs => spa_294 i sp hi hs)) (fun i sp hi hs => spa_294 i sp hi hs) (by decide +kernel) rfl mok tok ow rfl ⟨g0, g1, g2, trivial⟩ hF (by decide) (by decide) (by decide) hrun xsite_person)
  · obtain ⟨v0, w0, rfl, g0, hg⟩ := hvs_cons hg
    obtain ⟨v1, w1, rfl, g1, hg⟩ := hvs_cons hg
    obtain ⟨v2, w2, rfl, g2, hg⟩ := hvs_cons hg
    obtain ⟨v3, w3, rfl, g3, hg⟩ := hvs_cons hg
    obtain ⟨v9, w9, rfl, g9, hg⟩ := hvs_cons hg
    have hn := hvs_nil hg
    subst hn
    obtain ⟨qx, rfl⟩ := hv_nn g0
    obtain ⟨qo, rfl⟩ := hv_nn g9
    obtain ⟨p0, rfl⟩ := hv_isI g1 rfl
    obtain ⟨p1, rfl⟩ := hv_isI g2 rfl
    obtain ⟨p2, rfl⟩ := hv_isI g3 rfl
    obtain ⟨outs, hrun⟩ := Option.isSome_iff_exists.mp xrun_slip
    obtain ⟨mok, tok, ow⟩ := pok2.1 _ _ xidx_slip
    exact lx2_slip (M' := mt2_X11_slip) (rm := RMX) sz hl rfl mok rfl rfl rfl hF g0 g9 (by decide) (by decide) (by decide) (by decide) (fun sz' => x_met2 (G := GGX _ _) (M' := mt2_X11_slip) (as := bP 0 true none :: (List.range 3).map (fun j => bV j 0)) (F := hpF 3) sz' hl rfl pok2 hkok (oxrok5 (fun _ _ => Iff.rfl) (fun _ _ => Iff.rfl) (fun _ _ => Iff.rfl) (fun _ _ => Iff.rfl) (fun i sp hi hs => spa_294 i sp hi hs)) (fun i sp hi hs => spa_294 i sp hi hs) (by decide +kernel) rfl mok tok ow rfl ⟨g0, g1, g2, g3, trivial⟩ hF (by decide) (by decide) (by decide) hrun xsite_slip)
