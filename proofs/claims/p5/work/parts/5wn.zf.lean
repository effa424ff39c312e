/-! bytes that are fed: the low byte of a number shifted either way -/
theorem yb24 (x : Int32) : ((x.toUInt32 >>> (24 : UInt32)).toInt32).toInt8 = (x >>> (24 : Int32)).toInt8 := by
  apply Int8.toBitVec_inj.mp
  apply BitVec.eq_of_getLsbD_eq
  intro i hi
  have e : (x >>> (24 : Int32)).toInt8.toBitVec = (x.toBitVec.sshiftRight 24).signExtend 8 := rfl
  have e2 : ((x.toUInt32 >>> (24 : UInt32)).toInt32).toInt8.toBitVec = (x.toBitVec >>> 24).signExtend 8 := rfl
  rw [e, e2, BitVec.getLsbD_signExtend, BitVec.getLsbD_signExtend, BitVec.getLsbD_sshiftRight, BitVec.getLsbD_ushiftRight]
  simp only [hi, decide_true, Bool.true_and]
  rw [if_pos (by omega), if_pos (by omega)]
  first
  | rfl
  | (rw [if_pos (by omega), show decide (32 ≤ i) = false from decide_eq_false (by omega)]; rfl)
  | (rw [show decide (32 ≤ i) = false from decide_eq_false (by omega), if_pos (by omega)]; rfl)
  | (have h : True = False := by assumption
     exact h.mp trivial |>.elim)
theorem yb16 (x : Int32) : ((x.toUInt32 >>> (16 : UInt32)).toInt32).toInt8 = (x >>> (16 : Int32)).toInt8 := by
  apply Int8.toBitVec_inj.mp
  apply BitVec.eq_of_getLsbD_eq
  intro i hi
  have e : (x >>> (16 : Int32)).toInt8.toBitVec = (x.toBitVec.sshiftRight 16).signExtend 8 := rfl
  have e2 : ((x.toUInt32 >>> (16 : UInt32)).toInt32).toInt8.toBitVec = (x.toBitVec >>> 16).signExtend 8 := rfl
  rw [e, e2, BitVec.getLsbD_signExtend, BitVec.getLsbD_signExtend, BitVec.getLsbD_sshiftRight, BitVec.getLsbD_ushiftRight]
  simp only [hi, decide_true, Bool.true_and]
  rw [if_pos (by omega), if_pos (by omega)]
  first
  | rfl
  | (rw [if_pos (by omega), show decide (32 ≤ i) = false from decide_eq_false (by omega)]; rfl)
  | (rw [show decide (32 ≤ i) = false from decide_eq_false (by omega), if_pos (by omega)]; rfl)
  | (have h : True = False := by assumption
     exact h.mp trivial |>.elim)
theorem yb8 (x : Int32) : ((x.toUInt32 >>> (8 : UInt32)).toInt32).toInt8 = (x >>> (8 : Int32)).toInt8 := by
  apply Int8.toBitVec_inj.mp
  apply BitVec.eq_of_getLsbD_eq
  intro i hi
  have e : (x >>> (8 : Int32)).toInt8.toBitVec = (x.toBitVec.sshiftRight 8).signExtend 8 := rfl
  have e2 : ((x.toUInt32 >>> (8 : UInt32)).toInt32).toInt8.toBitVec = (x.toBitVec >>> 8).signExtend 8 := rfl
  rw [e, e2, BitVec.getLsbD_signExtend, BitVec.getLsbD_signExtend, BitVec.getLsbD_sshiftRight, BitVec.getLsbD_ushiftRight]
  simp only [hi, decide_true, Bool.true_and]
  rw [if_pos (by omega), if_pos (by omega)]
  first
  | rfl
  | (rw [if_pos (by omega), show decide (32 ≤ i) = false from decide_eq_false (by omega)]; rfl)
  | (rw [show decide (32 ≤ i) = false from decide_eq_false (by omega), if_pos (by omega)]; rfl)
  | (have h : True = False := by assumption
     exact h.mp trivial |>.elim)
theorem yb0 (x : Int32) : ((x.toUInt32 >>> (0 : UInt32)).toInt32).toInt8 = (x >>> (0 : Int32)).toInt8 := by
  apply Int8.toBitVec_inj.mp
  apply BitVec.eq_of_getLsbD_eq
  intro i hi
  have e : (x >>> (0 : Int32)).toInt8.toBitVec = (x.toBitVec.sshiftRight 0).signExtend 8 := rfl
  have e2 : ((x.toUInt32 >>> (0 : UInt32)).toInt32).toInt8.toBitVec = (x.toBitVec >>> 0).signExtend 8 := rfl
  rw [e, e2, BitVec.getLsbD_signExtend, BitVec.getLsbD_signExtend, BitVec.getLsbD_sshiftRight, BitVec.getLsbD_ushiftRight]
  simp only [hi, decide_true, Bool.true_and]
  rw [if_pos (by omega), if_pos (by omega)]
  first
  | rfl
  | (rw [if_pos (by omega), show decide (32 ≤ i) = false from decide_eq_false (by omega)]; rfl)
  | (rw [show decide (32 ≤ i) = false from decide_eq_false (by omega), if_pos (by omega)]; rfl)
  | (have h : True = False := by assumption
     exact h.mp trivial |>.elim)
