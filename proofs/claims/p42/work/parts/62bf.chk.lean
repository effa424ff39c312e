/-! specs checked (written by wip/p41/gen4.py) -/
set_option maxRecDepth 1000000
theorem ck_252 : f_chkA (GGX [(133, [251])]) 252 3000 sp_252 = true := by decide +kernel
theorem ck_253 : f_chkA (GGX [(138, [252])]) 253 3000 sp_253 = true := by decide +kernel
