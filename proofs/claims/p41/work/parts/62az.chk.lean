/-! specs checked (written by wip/p41/gen4.py) -/
set_option maxRecDepth 1000000
theorem ck_216 : f_chkA (GGX []) 216 3000 sp_216 = true := by decide +kernel
theorem ck_217 : f_chkA (GGX [(91, [133, 134]), (116, [135, 136]), (118, [141])]) 217 3000 sp_217 = true := by decide +kernel
theorem ck_218 : f_chkA (GGX []) 218 3000 sp_218 = true := by decide +kernel
theorem ck_219 : f_chkA (GGX [(116, [135, 136])]) 219 3000 sp_219 = true := by decide +kernel
theorem ck_220 : f_chkA (GGX [(122, [149])]) 220 3000 sp_220 = true := by decide +kernel
