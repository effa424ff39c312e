/-! specs checked (written by wip/p41/gen4.py) -/
set_option maxRecDepth 1000000
theorem ck_283 : f_chkA (GGX []) 283 3000 sp_283 = true := by decide +kernel
theorem ck_284 : f_chkA (GGX []) 284 3000 sp_284 = true := by decide +kernel
theorem ck_285 : f_chkA (GGX []) 285 3000 sp_285 = true := by decide +kernel
theorem ck_286 : f_chkA (GGX []) 286 3000 sp_286 = true := by decide +kernel
