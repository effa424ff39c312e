/-! specs checked (written by wip/p41/gen4.py) -/
set_option maxRecDepth 1000000
theorem ck_226 : f_chkA (GGX [(91, [143, 144]), (116, [145, 146]), (118, [151])]) 226 3000 sp_226 = true := by decide +kernel
theorem ck_227 : f_chkA (GGX []) 227 3000 sp_227 = true := by decide +kernel
