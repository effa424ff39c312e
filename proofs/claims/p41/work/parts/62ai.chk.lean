/-! specs checked (written by wip/p41/gen4.py) -/
set_option maxRecDepth 1000000
theorem ck_181_1 : chkCn (GGX []) 181 3000 sp_181 1 = true := by decide +kernel
theorem ck_181_2 : chkCn (GGX []) 181 3000 sp_181 2 = true := by decide +kernel
