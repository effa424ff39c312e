/-! specs checked (written by wip/p41/gen4.py) -/
set_option maxRecDepth 1000000
theorem ck_196 : f_chkA (GGX [(115, [182, 183, 184, 185, 186, 187, 188, 189]), (134, [190]), (161, [181])]) 196 3000 sp_196 = true := by decide +kernel
theorem ck_197 : f_chkA (GGX [(161, [181])]) 197 3000 sp_197 = true := by decide +kernel
theorem ck_198 : f_chkA (GGX [(161, [181])]) 198 3000 sp_198 = true := by decide +kernel
theorem ck_199 : f_chkA (GGX [(161, [181])]) 199 3000 sp_199 = true := by decide +kernel
