/-! specs checked (written by wip/p41/gen4.py) -/
set_option maxRecDepth 1000000
theorem ck_285 : f_chkA (GGX [] 285) 285 3000 sp_285 = true := by decide +kernel
theorem ck_286 : f_chkA (GGX [] 286) 286 3000 sp_286 = true := by decide +kernel
theorem ck_287 : f_chkA (GGX [] 287) 287 3000 sp_287 = true := by decide +kernel
