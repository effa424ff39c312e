/-! specs checked (written by wip/p41/gen4.py) -/
set_option maxRecDepth 1000000
theorem ck_164 : f_chkA (GGX [(118, [151]), (155, [150])]) 164 3000 sp_164 = true := by decide +kernel
theorem ck_165 : f_chkA (GGX [(146, [160])]) 165 3000 sp_165 = true := by decide +kernel
theorem ck_166 : f_chkA (GGX [(146, [160])]) 166 3000 sp_166 = true := by decide +kernel
theorem ck_167 : f_chkA (GGX [(146, [160])]) 167 3000 sp_167 = true := by decide +kernel
theorem ck_168 : f_chkA (GGX [(146, [160])]) 168 3000 sp_168 = true := by decide +kernel
theorem ck_169 : f_chkA (GGX [(122, [159]), (146, [160])]) 169 3000 sp_169 = true := by decide +kernel
theorem ck_170 : f_chkA (GGX [(118, [151])]) 170 3000 sp_170 = true := by decide +kernel
theorem ck_171 : f_chkA (GGX [(91, [143, 144]), (118, [151])]) 171 3000 sp_171 = true := by decide +kernel
theorem ck_172 : f_chkA (GGX []) 172 3000 sp_172 = true := by decide +kernel
