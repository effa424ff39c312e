/-! specs checked (written by wip/p41/gen4.py) -/
set_option maxRecDepth 1000000
theorem ck_234 : f_chkA (GGX []) 234 3000 sp_234 = true := by decide +kernel
theorem ck_235 : f_chkA (GGX [(91, [143, 144]), (116, [145, 146]), (118, [151])]) 235 3000 sp_235 = true := by decide +kernel
theorem ck_236 : f_chkA (GGX []) 236 3000 sp_236 = true := by decide +kernel
theorem ck_237 : f_chkA (GGX [(116, [145, 146])]) 237 3000 sp_237 = true := by decide +kernel
theorem ck_238 : f_chkA (GGX [(122, [159])]) 238 3000 sp_238 = true := by decide +kernel
