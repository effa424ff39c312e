/-! specs checked (written by wip/p41/gen4.py) -/
set_option maxRecDepth 1000000
theorem ck_194 : f_chkA (GGX [(115, [182, 183, 184, 185, 186, 187, 188, 189]), (134, [190]), (161, [181])]) 194 3000 sp_194 = true := by decide +kernel
theorem ck_195 : f_chkA (GGX [(115, [182, 183, 184, 185, 186, 187, 188, 189]), (134, [190]), (161, [181])]) 195 3000 sp_195 = true := by decide +kernel
