/-! specs checked (written by wip/p41/gen4.py) -/
set_option maxRecDepth 1000000
theorem ck_181 : f_chkA (GGX []) 181 3000 sp_181 = true := by decide +kernel
theorem ck_182 : f_chkA (GGX [(193, [181])]) 182 3000 sp_182 = true := by decide +kernel
