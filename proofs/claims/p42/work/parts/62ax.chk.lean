/-! specs checked (written by wip/p41/gen4.py) -/
set_option maxRecDepth 1000000
theorem ck_228 : f_chkA (GGX [(97, [152]), (116, [145, 146])]) 228 3000 sp_228 = true := by decide +kernel
theorem ck_229 : f_chkA (GGX [(105, [158]), (109, [228])]) 229 3000 sp_229 = true := by decide +kernel
theorem ck_230 : f_chkA (GGX [(111, [229]), (146, [160])]) 230 3000 sp_230 = true := by decide +kernel
theorem ck_231 : f_chkA (GGX [(87, [163]), (111, [229]), (203, [162])]) 231 3000 sp_231 = true := by decide +kernel
