/-! specs checked (written by wip/p41/gen4.py) -/
set_option maxRecDepth 1000000
theorem ck_196 : f_chkA (GGX [(115, [184, 185, 186, 187, 188, 189, 190, 191]), (134, [192]), (161, [183])]) 196 3000 sp_196 = true := by decide +kernel
theorem ck_197 : f_chkA (GGX [(115, [184, 185, 186, 187, 188, 189, 190, 191]), (134, [192]), (161, [183])]) 197 3000 sp_197 = true := by decide +kernel
