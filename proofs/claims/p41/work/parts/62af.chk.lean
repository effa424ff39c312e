/-! specs checked (written by wip/p41/gen4.py) -/
set_option maxRecDepth 1000000
theorem ck_179 : f_chkA (GGX []) 179 3000 sp_179 = true := by decide +kernel
theorem ck_180 : f_chkA (GGX [(193, [179])]) 180 3000 sp_180 = true := by decide +kernel
