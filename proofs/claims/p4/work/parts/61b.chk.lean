/-! specs checked (written by wip/p41/gen4.py) -/
set_option maxRecDepth 1000000
theorem ck_49 : f_chkA (GGX []) 49 3000 sp_49 = true := by decide +kernel
theorem ck_50 : f_chkA (GGX [(27, [39]), (211, [49])]) 50 3000 sp_50 = true := by decide +kernel
theorem ck_51 : f_chkA (GGX [(27, [39]), (217, [50])]) 51 3000 sp_51 = true := by decide +kernel
theorem ck_52 : f_chkA (GGX [(27, [39])]) 52 3000 sp_52 = true := by decide +kernel
theorem ck_53 : f_chkA (GGX [(259, [17])]) 53 3000 sp_53 = true := by decide +kernel
theorem ck_54 : f_chkA (GGX [(246, [21]), (268, [4])]) 54 3000 sp_54 = true := by decide +kernel
