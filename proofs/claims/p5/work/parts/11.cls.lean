/-! facts of the classes -/
def BIG : List Cond := lw_tbl.filter goodWord
theorem big_good : ∀ w ∈ BIG, goodWord w = true := fun w h => (List.mem_filter.mp h).2
theorem big_in : ∀ w ∈ BIG, w ∈ lw_tbl := fun w h => (List.mem_filter.mp h).1
theorem inB0 : ∀ w ∈ u_ws RX0 TX0 6, w ∈ BIG := fun w h => List.mem_filter.mpr ⟨inX0 w h, (show ∀ w ∈ u_ws RX0 TX0 6, goodWord w = true by decide +kernel) w h⟩
theorem inB1 : ∀ w ∈ u_ws RX1 TX1 9, w ∈ BIG := fun w h => List.mem_filter.mpr ⟨inX1 w h, (show ∀ w ∈ u_ws RX1 TX1 9, goodWord w = true by decide +kernel) w h⟩
theorem inB2 : ∀ w ∈ u_ws RX2 TX2 3, w ∈ BIG := fun w h => List.mem_filter.mpr ⟨inX2 w h, (show ∀ w ∈ u_ws RX2 TX2 3, goodWord w = true by decide +kernel) w h⟩
theorem inB3 : ∀ w ∈ u_ws RX3 TX3 1, w ∈ BIG := fun w h => List.mem_filter.mpr ⟨inX3 w h, (show ∀ w ∈ u_ws RX3 TX3 1, goodWord w = true by decide +kernel) w h⟩
theorem inB4 : ∀ w ∈ u_ws RX4 TX4 3, w ∈ BIG := fun w h => List.mem_filter.mpr ⟨inX4 w h, (show ∀ w ∈ u_ws RX4 TX4 3, goodWord w = true by decide +kernel) w h⟩
theorem inB6 : ∀ w ∈ u_ws RX6 TX6 2, w ∈ BIG := fun w h => List.mem_filter.mpr ⟨inX6 w h, (show ∀ w ∈ u_ws RX6 TX6 2, goodWord w = true by decide +kernel) w h⟩
theorem inB7 : ∀ w ∈ u_ws RX7 TX7 10, w ∈ BIG := fun w h => List.mem_filter.mpr ⟨inX7 w h, (show ∀ w ∈ u_ws RX7 TX7 10, goodWord w = true by decide +kernel) w h⟩
theorem inB8 : ∀ w ∈ u_ws RX8 TX8 6, w ∈ BIG := fun w h => List.mem_filter.mpr ⟨inX8 w h, (show ∀ w ∈ u_ws RX8 TX8 6, goodWord w = true by decide +kernel) w h⟩
theorem inB9 : ∀ w ∈ u_ws RX9 TX9 2, w ∈ BIG := fun w h => List.mem_filter.mpr ⟨inX9 w h, (show ∀ w ∈ u_ws RX9 TX9 2, goodWord w = true by decide +kernel) w h⟩
theorem inB10 : ∀ w ∈ u_ws RX10 TX10 11, w ∈ BIG := fun w h => List.mem_filter.mpr ⟨inX10 w h, (show ∀ w ∈ u_ws RX10 TX10 11, goodWord w = true by decide +kernel) w h⟩
theorem inB11 : ∀ w ∈ u_ws RX11 TX11 18, w ∈ BIG := fun w h => List.mem_filter.mpr ⟨inX11 w h, (show ∀ w ∈ u_ws RX11 TX11 18, goodWord w = true by decide +kernel) w h⟩
theorem inB12 : ∀ w ∈ u_ws RX12 TX12 53, w ∈ BIG := fun w h => List.mem_filter.mpr ⟨inX12 w h, (show ∀ w ∈ u_ws RX12 TX12 53, goodWord w = true by decide +kernel) w h⟩
def clTy (ci : Nat) : Nat → FieldType := match ci with
  | 0 => tyX0
  | 1 => tyX1
  | 2 => tyX2
  | 3 => tyX3
  | 4 => tyX4
  | 5 => tyX6
  | 6 => tyX7
  | 7 => tyX8
  | 8 => tyX9
  | 9 => tyX10
  | 10 => tyX11
  | _ => tyX12
def cl_good (ci : Nat) (q : vw_C) : Prop := (∀ k, k < q.2.2 → parseFieldDescriptor (q.2.1 k).2.2.1 = some (clTy ci k)) ∧ (∀ a, a < q.2.2 → ∀ b, b < q.2.2 → a ≠ b → (q.2.1 a).2.1 ≠ (q.2.1 b).2.1) ∧ ∀ w ∈ u_ws q.1 q.2.1 q.2.2, w ∈ BIG
theorem cl_ok : ∀ (ci : Nat) (q : vw_C), vwCl[ci]? = some q → cl_good ci q := by
  intro ci q h
  match ci, h with
  | 0, h => cases h; exact ⟨tyX0_ok, nmX0, inB0⟩
  | 1, h => cases h; exact ⟨tyX1_ok, nmX1, inB1⟩
  | 2, h => cases h; exact ⟨tyX2_ok, nmX2, inB2⟩
  | 3, h => cases h; exact ⟨tyX3_ok, nmX3, inB3⟩
  | 4, h => cases h; exact ⟨tyX4_ok, nmX4, inB4⟩
  | 5, h => cases h; exact ⟨tyX6_ok, nmX6, inB6⟩
  | 6, h => cases h; exact ⟨tyX7_ok, nmX7, inB7⟩
  | 7, h => cases h; exact ⟨tyX8_ok, nmX8, inB8⟩
  | 8, h => cases h; exact ⟨tyX9_ok, nmX9, inB9⟩
  | 9, h => cases h; exact ⟨tyX10_ok, nmX10, inB10⟩
  | 10, h => cases h; exact ⟨tyX11_ok, nmX11, inB11⟩
  | 11, h => cases h; exact ⟨tyX12_ok, nmX12, inB12⟩
  | n + 12, h => simp [vwCl] at h
