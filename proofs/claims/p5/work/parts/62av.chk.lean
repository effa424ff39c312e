/-! specs checked (written by wip/p41/gen4.py) -/
set_option maxRecDepth 1000000
theorem ck_251 : f_chkA (GGX [] 251) 251 3000 sp_251 = true := by decide +kernel
theorem ck_252 : f_chkA (GGX [(100, [251]), (153, [250]), (161, [230])] 252) 252 3000 sp_252 = true := by decide +kernel
theorem ck_253 : f_chkA (GGX [] 253) 253 3000 sp_253 = true := by decide +kernel
theorem ck_254 : f_chkA (GGX [] 254) 254 3000 sp_254 = true := by decide +kernel
theorem ck_255 : f_chkA (GGX [] 255) 255 3000 sp_255 = true := by decide +kernel
theorem ck_256 : f_chkA (GGX [] 256) 256 3000 sp_256 = true := by decide +kernel
theorem ck_257 : f_chkA (GGX [] 257) 257 3000 sp_257 = true := by decide +kernel
theorem ck_258 : f_chkA (GGX [] 258) 258 3000 sp_258 = true := by decide +kernel
theorem ck_259 : f_chkA (GGX [] 259) 259 3000 sp_259 = true := by decide +kernel
theorem ck_260 : f_chkA (GGX [] 260) 260 3000 sp_260 = true := by decide +kernel
theorem ck_261 : f_chkA (GGX [] 261) 261 3000 sp_261 = true := by decide +kernel
theorem ck_262 : f_chkA (GGX [] 262) 262 3000 sp_262 = true := by decide +kernel
theorem ck_263 : f_chkA (GGX [(91, [179, 180]), (116, [181, 182]), (118, [187]), (146, [196])] 263) 263 3000 sp_263 = true := by decide +kernel
theorem ck_264 : f_chkA (GGX [(116, [181, 182]), (146, [196])] 264) 264 3000 sp_264 = true := by decide +kernel
