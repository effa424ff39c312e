/-! specs checked (written by wip/p41/gen4.py) -/
set_option maxRecDepth 1000000
theorem ck_218 : f_chkA (GGX []) 218 3000 sp_218 = true := by decide +kernel
theorem ck_219 : f_chkA (GGX [(91, [135, 136]), (116, [137, 138]), (118, [143])]) 219 3000 sp_219 = true := by decide +kernel
theorem ck_220 : f_chkA (GGX []) 220 3000 sp_220 = true := by decide +kernel
theorem ck_221 : f_chkA (GGX [(116, [137, 138])]) 221 3000 sp_221 = true := by decide +kernel
theorem ck_222 : f_chkA (GGX [(122, [151])]) 222 3000 sp_222 = true := by decide +kernel
