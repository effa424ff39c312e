/-! specs checked (written by wip/p41/gen4.py) -/
set_option maxRecDepth 1000000
theorem ck_181_4 : chkCn (GGX []) 181 3000 sp_181 4 = true := by decide +kernel
