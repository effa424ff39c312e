/-! specs checked (written by wip/p41/gen4.py) -/
set_option maxRecDepth 1000000
theorem ck_231 : f_chkA (GGX [] 231) 231 3000 sp_231 = true := by decide +kernel
theorem ck_232 : f_chkA (GGX [] 232) 232 3000 sp_232 = true := by decide +kernel
theorem ck_233 : f_chkA (GGX [] 233) 233 3000 sp_233 = true := by decide +kernel
theorem ck_234 : f_chkA (GGX [] 234) 234 3000 sp_234 = true := by decide +kernel
theorem ck_235 : f_chkA (GGX [] 235) 235 3000 sp_235 = true := by decide +kernel
theorem ck_236 : f_chkA (GGX [] 236) 236 3000 sp_236 = true := by decide +kernel
theorem ck_237 : f_chkA (GGX [] 237) 237 3000 sp_237 = true := by decide +kernel
theorem ck_238 : f_chkA (GGX [] 238) 238 3000 sp_238 = true := by decide +kernel
theorem ck_239 : f_chkA (GGX [] 239) 239 3000 sp_239 = true := by decide +kernel
theorem ck_240 : f_chkA (GGX [(115, [231, 232, 233, 234, 235, 236, 237, 238]), (134, [239]), (161, [230])] 240) 240 3000 sp_240 = true := by decide +kernel
theorem ck_241 : f_chkA (GGX [(115, [231, 232, 233, 234, 235, 236, 237, 238]), (134, [239]), (161, [230])] 241) 241 3000 sp_241 = true := by decide +kernel
theorem ck_242 : f_chkA (GGX [(115, [231, 232, 233, 234, 235, 236, 237, 238]), (134, [239]), (161, [230])] 242) 242 3000 sp_242 = true := by decide +kernel
