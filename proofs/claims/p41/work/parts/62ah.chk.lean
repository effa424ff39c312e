/-! specs checked (written by wip/p41/gen4.py) -/
set_option maxRecDepth 1000000
theorem ck_181_0 : chkCn (GGX []) 181 3000 sp_181 0 = true := by decide +kernel
