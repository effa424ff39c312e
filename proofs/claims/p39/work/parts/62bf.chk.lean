/-! specs checked (written by wip/p41/gen4.py) -/
set_option maxRecDepth 1000000
theorem ck_291 : f_chkA (GGX [(133, [290])]) 291 3000 sp_291 = true := by decide +kernel
theorem ck_292 : f_chkA (GGX [(138, [291])]) 292 3000 sp_292 = true := by decide +kernel
