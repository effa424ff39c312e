/-! specs checked (written by wip/p41/gen4.py) -/
set_option maxRecDepth 1000000
theorem ck_245 : f_chkA (GGX [(115, [231, 232, 233, 234, 235, 236, 237, 238]), (134, [239]), (161, [230])] 245) 245 3000 sp_245 = true := by decide +kernel
theorem ck_246 : f_chkA (GGX [(161, [230])] 246) 246 3000 sp_246 = true := by decide +kernel
theorem ck_247 : f_chkA (GGX [(161, [230])] 247) 247 3000 sp_247 = true := by decide +kernel
theorem ck_248 : f_chkA (GGX [(161, [230])] 248) 248 3000 sp_248 = true := by decide +kernel
