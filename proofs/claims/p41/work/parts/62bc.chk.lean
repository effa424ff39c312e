/-! specs checked (written by wip/p41/gen4.py) -/
set_option maxRecDepth 1000000
theorem ck_228 : f_chkA (GGX [(115, [182, 183, 184, 185, 186, 187, 188, 189]), (134, [190]), (148, [227]), (161, [181])]) 228 3000 sp_228 = true := by decide +kernel
