/-! specs checked (written by wip/p41/gen4.py) -/
set_option maxRecDepth 1000000
theorem ck_183_5 : chkCn (GGX []) 183 3000 sp_183 5 = true := by decide +kernel
