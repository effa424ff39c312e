/-! specs checked (written by wip/p41/gen4.py) -/
set_option maxRecDepth 1000000
theorem ck_223 : f_chkA (GGX [(87, [155]), (93, [217]), (98, [145]), (107, [218, 219, 220, 221, 222]), (146, [152]), (161, [183]), (203, [154])]) 223 3000 sp_223 = true := by decide +kernel
theorem ck_224 : f_chkA (GGX []) 224 3000 sp_224 = true := by decide +kernel
theorem ck_225 : f_chkA (GGX []) 225 3000 sp_225 = true := by decide +kernel
theorem ck_226 : f_chkA (GGX []) 226 3000 sp_226 = true := by decide +kernel
theorem ck_227 : f_chkA (GGX [(142, [226])]) 227 3000 sp_227 = true := by decide +kernel
