/-! specs checked (written by wip/p41/gen4.py) -/
set_option maxRecDepth 1000000
theorem ck_239 : f_chkA (GGX [(87, [163]), (93, [233]), (98, [153]), (107, [234, 235, 236, 237, 238]), (146, [160]), (161, [191]), (203, [162])]) 239 3000 sp_239 = true := by decide +kernel
theorem ck_240 : f_chkA (GGX []) 240 3000 sp_240 = true := by decide +kernel
theorem ck_241 : f_chkA (GGX []) 241 3000 sp_241 = true := by decide +kernel
theorem ck_242 : f_chkA (GGX []) 242 3000 sp_242 = true := by decide +kernel
theorem ck_243 : f_chkA (GGX [(142, [242])]) 243 3000 sp_243 = true := by decide +kernel
