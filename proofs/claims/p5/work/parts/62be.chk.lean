/-! specs checked (written by wip/p41/gen4.py) -/
set_option maxRecDepth 1000000
theorem ck_289 : f_chkA (GGX [(145, [284, 285]), (161, [230]), (162, [286])] 289) 289 3000 sp_289 = true := by decide +kernel
theorem ck_290 : f_chkA (GGX [(89, [289]), (145, [284, 285]), (161, [230]), (162, [286]), (167, [288])] 290) 290 3000 sp_290 = true := by decide +kernel
theorem ck_291 : f_chkA (GGX [(91, [179, 180]), (118, [187])] 291) 291 3000 sp_291 = true := by decide +kernel
