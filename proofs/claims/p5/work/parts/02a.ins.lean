/-! the law's instructions, decoded -/
/-- pc, sort of step, instruction, its length -/
abbrev INS : Type := Nat × Nat × Instr × Nat
def d_chkL (cc : ByteArray) (x : List INS) : Bool := x.all (fun q => match decode cc q.1 with | .ok r => decide (r = (q.2.2.1, q.2.2.2)) | .error _ => false)
theorem d_app {cc : ByteArray} {x y : List INS} (h1 : d_chkL cc x = true) (h2 : d_chkL cc y = true) : d_chkL cc (x ++ y) = true := by
  unfold d_chkL at h1 h2 ⊢
  rw [List.all_append, h1, h2]; rfl
