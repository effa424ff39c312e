/-! specs checked (written by wip/p41/gen4.py) -/
set_option maxRecDepth 1000000
theorem ck_228 : f_chkA (GGX []) 228 3000 sp_228 = true := by decide +kernel
theorem ck_229 : f_chkA (GGX []) 229 3000 sp_229 = true := by decide +kernel
theorem ck_230 : f_chkA (GGX []) 230 3000 sp_230 = true := by decide +kernel
theorem ck_231 : f_chkA (GGX []) 231 3000 sp_231 = true := by decide +kernel
