/-! specs checked (written by wip/p41/gen4.py) -/
set_option maxRecDepth 1000000
theorem ck_273 : f_chkA (GGX [] 273) 273 3000 sp_273 = true := by decide +kernel
theorem ck_274 : f_chkA (GGX [(91, [179, 180]), (116, [181, 182]), (118, [187])] 274) 274 3000 sp_274 = true := by decide +kernel
theorem ck_275 : f_chkA (GGX [] 275) 275 3000 sp_275 = true := by decide +kernel
theorem ck_276 : f_chkA (GGX [(116, [181, 182])] 276) 276 3000 sp_276 = true := by decide +kernel
theorem ck_277 : f_chkA (GGX [(122, [195])] 277) 277 3000 sp_277 = true := by decide +kernel
theorem ck_278 : f_chkA (GGX [(161, [230])] 278) 278 3000 sp_278 = true := by decide +kernel
