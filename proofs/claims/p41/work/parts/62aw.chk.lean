/-! specs checked (written by wip/p41/gen4.py) -/
set_option maxRecDepth 1000000
theorem ck_209 : f_chkA (GGX []) 209 3000 sp_209 = true := by decide +kernel
theorem ck_210 : f_chkA (GGX [(97, [142]), (116, [135, 136])]) 210 3000 sp_210 = true := by decide +kernel
theorem ck_211 : f_chkA (GGX [(105, [148]), (109, [210])]) 211 3000 sp_211 = true := by decide +kernel
theorem ck_212 : f_chkA (GGX [(111, [211]), (146, [150])]) 212 3000 sp_212 = true := by decide +kernel
theorem ck_213 : f_chkA (GGX [(87, [153]), (111, [211]), (203, [152])]) 213 3000 sp_213 = true := by decide +kernel
