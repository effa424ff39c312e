/-! specs checked (written by wip/p41/gen4.py) -/
set_option maxRecDepth 1000000
theorem ck_78 : f_chkA (GGX [] 78) 78 3000 sp_78 = true := by decide +kernel
theorem ck_79 : f_chkA (GGX [(27, [68]), (211, [78])] 79) 79 3000 sp_79 = true := by decide +kernel
