/-! specs checked (written by wip/p41/gen4.py) -/
set_option maxRecDepth 1000000
theorem ck_236 : f_chkA (GGX [(133, [235])]) 236 3000 sp_236 = true := by decide +kernel
theorem ck_237 : f_chkA (GGX [(138, [236])]) 237 3000 sp_237 = true := by decide +kernel
