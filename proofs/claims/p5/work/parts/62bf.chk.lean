/-! specs checked (written by wip/p41/gen4.py) -/
set_option maxRecDepth 1000000
theorem ck_292 : f_chkA (GGX [(133, [291])] 292) 292 3000 sp_292 = true := by decide +kernel
theorem ck_293 : f_chkA (GGX [(138, [292])] 293) 293 3000 sp_293 = true := by decide +kernel
