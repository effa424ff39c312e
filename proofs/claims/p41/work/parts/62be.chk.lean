/-! specs checked (written by wip/p41/gen4.py) -/
set_option maxRecDepth 1000000
theorem ck_232 : f_chkA (GGX [(133, [231])]) 232 3000 sp_232 = true := by decide +kernel
theorem ck_233 : f_chkA (GGX [(138, [232])]) 233 3000 sp_233 = true := by decide +kernel
