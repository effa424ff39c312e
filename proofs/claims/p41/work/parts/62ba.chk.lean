/-! specs checked (written by wip/p41/gen4.py) -/
set_option maxRecDepth 1000000
theorem ck_221 : f_chkA (GGX [(87, [153]), (93, [215]), (98, [143]), (107, [216, 217, 218, 219, 220]), (146, [150]), (161, [181]), (203, [152])]) 221 3000 sp_221 = true := by decide +kernel
theorem ck_222 : f_chkA (GGX []) 222 3000 sp_222 = true := by decide +kernel
theorem ck_223 : f_chkA (GGX [(142, [222])]) 223 3000 sp_223 = true := by decide +kernel
