/-! specs checked (written by wip/p41/gen4.py) -/
set_option maxRecDepth 1000000
theorem ck_183_1 : chkCn (GGX []) 183 3000 sp_183 1 = true := by decide +kernel
theorem ck_183_2 : chkCn (GGX []) 183 3000 sp_183 2 = true := by decide +kernel
