/-! specs checked (written by wip/p41/gen4.py) -/
set_option maxRecDepth 1000000
theorem ck_189 : f_chkA (GGX []) 189 3000 sp_189 = true := by decide +kernel
theorem ck_190 : f_chkA (GGX [(193, [189])]) 190 3000 sp_190 = true := by decide +kernel
