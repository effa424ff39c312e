/-! specs checked (written by wip/p41/gen4.py) -/
set_option maxRecDepth 1000000
theorem ck_278 : f_chkA (GGX [(87, [199]), (93, [272]), (98, [189]), (107, [273, 274, 275, 276, 277]), (146, [196]), (161, [230]), (203, [198])]) 278 3000 sp_278 = true := by decide +kernel
theorem ck_279 : f_chkA (GGX []) 279 3000 sp_279 = true := by decide +kernel
theorem ck_280 : f_chkA (GGX []) 280 3000 sp_280 = true := by decide +kernel
theorem ck_281 : f_chkA (GGX []) 281 3000 sp_281 = true := by decide +kernel
theorem ck_282 : f_chkA (GGX [(142, [281])]) 282 3000 sp_282 = true := by decide +kernel
