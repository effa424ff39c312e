/-! specs checked (written by wip/p41/gen4.py) -/
set_option maxRecDepth 1000000
theorem ck_198 : f_chkA (GGX [(115, [184, 185, 186, 187, 188, 189, 190, 191]), (134, [192]), (161, [183])]) 198 3000 sp_198 = true := by decide +kernel
theorem ck_199 : f_chkA (GGX [(161, [183])]) 199 3000 sp_199 = true := by decide +kernel
theorem ck_200 : f_chkA (GGX [(161, [183])]) 200 3000 sp_200 = true := by decide +kernel
theorem ck_201 : f_chkA (GGX [(161, [183])]) 201 3000 sp_201 = true := by decide +kernel
