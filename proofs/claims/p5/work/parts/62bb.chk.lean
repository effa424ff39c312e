/-! specs checked (written by wip/p41/gen4.py) -/
set_option maxRecDepth 1000000
theorem ck_279 : f_chkA (GGX [(87, [199]), (93, [272]), (98, [189]), (107, [273, 274, 275, 276, 277]), (146, [196]), (161, [230]), (191, [278]), (203, [198])] 279) 279 3000 sp_279 = true := by decide +kernel
theorem ck_280 : f_chkA (GGX [] 280) 280 3000 sp_280 = true := by decide +kernel
theorem ck_281 : f_chkA (GGX [] 281) 281 3000 sp_281 = true := by decide +kernel
theorem ck_282 : f_chkA (GGX [] 282) 282 3000 sp_282 = true := by decide +kernel
theorem ck_283 : f_chkA (GGX [(142, [282])] 283) 283 3000 sp_283 = true := by decide +kernel
theorem ck_284 : f_chkA (GGX [] 284) 284 3000 sp_284 = true := by decide +kernel
