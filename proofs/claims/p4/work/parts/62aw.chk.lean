/-! specs checked (written by wip/p41/gen4.py) -/
set_option maxRecDepth 1000000
theorem ck_211 : f_chkA (GGX []) 211 3000 sp_211 = true := by decide +kernel
theorem ck_212 : f_chkA (GGX [(97, [144]), (116, [137, 138])]) 212 3000 sp_212 = true := by decide +kernel
theorem ck_213 : f_chkA (GGX [(105, [150]), (109, [212])]) 213 3000 sp_213 = true := by decide +kernel
theorem ck_214 : f_chkA (GGX [(111, [213]), (146, [152])]) 214 3000 sp_214 = true := by decide +kernel
theorem ck_215 : f_chkA (GGX [(87, [155]), (111, [213]), (203, [154])]) 215 3000 sp_215 = true := by decide +kernel
