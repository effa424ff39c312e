/-! specs checked (written by wip/p41/gen4.py) -/
set_option maxRecDepth 1000000
theorem ck_244 : f_chkA (GGX []) 244 3000 sp_244 = true := by decide +kernel
theorem ck_245 : f_chkA (GGX []) 245 3000 sp_245 = true := by decide +kernel
theorem ck_246 : f_chkA (GGX []) 246 3000 sp_246 = true := by decide +kernel
theorem ck_247 : f_chkA (GGX []) 247 3000 sp_247 = true := by decide +kernel
