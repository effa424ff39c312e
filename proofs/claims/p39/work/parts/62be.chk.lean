/-! specs checked (written by wip/p41/gen4.py) -/
set_option maxRecDepth 1000000
theorem ck_288 : f_chkA (GGX [(145, [283, 284]), (161, [230]), (162, [285])]) 288 3000 sp_288 = true := by decide +kernel
theorem ck_289 : f_chkA (GGX [(89, [288]), (145, [283, 284]), (161, [230]), (162, [285]), (167, [287])]) 289 3000 sp_289 = true := by decide +kernel
theorem ck_290 : f_chkA (GGX [(91, [179, 180]), (118, [187])]) 290 3000 sp_290 = true := by decide +kernel
