/-! specs checked (written by wip/p41/gen4.py) -/
set_option maxRecDepth 1000000
theorem ck_265 : f_chkA (GGX [(91, [179, 180]), (116, [181, 182]), (118, [187])] 265) 265 3000 sp_265 = true := by decide +kernel
theorem ck_266 : f_chkA (GGX [] 266) 266 3000 sp_266 = true := by decide +kernel
