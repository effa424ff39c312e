/-! specs checked (written by wip/p41/gen4.py) -/
set_option maxRecDepth 1000000
theorem ck_206 : f_chkA (GGX [(115, [192, 193, 194, 195, 196, 197, 198, 199]), (134, [200]), (161, [191])]) 206 3000 sp_206 = true := by decide +kernel
theorem ck_207 : f_chkA (GGX [(161, [191])]) 207 3000 sp_207 = true := by decide +kernel
theorem ck_208 : f_chkA (GGX [(161, [191])]) 208 3000 sp_208 = true := by decide +kernel
theorem ck_209 : f_chkA (GGX [(161, [191])]) 209 3000 sp_209 = true := by decide +kernel
