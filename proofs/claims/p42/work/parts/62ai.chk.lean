/-! specs checked (written by wip/p41/gen4.py) -/
set_option maxRecDepth 1000000
theorem ck_191_1 : chkCn (GGX []) 191 3000 sp_191 1 = true := by decide +kernel
theorem ck_191_2 : chkCn (GGX []) 191 3000 sp_191 2 = true := by decide +kernel
