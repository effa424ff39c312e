/-! specs checked (written by wip/p41/gen4.py) -/
set_option maxRecDepth 1000000
theorem ck_228 : f_chkA (GGX [] 228) 228 3000 sp_228 = true := by decide +kernel
theorem ck_229 : f_chkA (GGX [(193, [228])] 229) 229 3000 sp_229 = true := by decide +kernel
