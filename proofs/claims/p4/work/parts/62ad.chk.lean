/-! specs checked (written by wip/p41/gen4.py) -/
set_option maxRecDepth 1000000
theorem ck_156 : f_chkA (GGX [(118, [143]), (155, [142])]) 156 3000 sp_156 = true := by decide +kernel
theorem ck_157 : f_chkA (GGX [(146, [152])]) 157 3000 sp_157 = true := by decide +kernel
theorem ck_158 : f_chkA (GGX [(146, [152])]) 158 3000 sp_158 = true := by decide +kernel
theorem ck_159 : f_chkA (GGX [(146, [152])]) 159 3000 sp_159 = true := by decide +kernel
theorem ck_160 : f_chkA (GGX [(146, [152])]) 160 3000 sp_160 = true := by decide +kernel
theorem ck_161 : f_chkA (GGX [(122, [151]), (146, [152])]) 161 3000 sp_161 = true := by decide +kernel
theorem ck_162 : f_chkA (GGX [(118, [143])]) 162 3000 sp_162 = true := by decide +kernel
theorem ck_163 : f_chkA (GGX [(91, [135, 136]), (118, [143])]) 163 3000 sp_163 = true := by decide +kernel
theorem ck_164 : f_chkA (GGX []) 164 3000 sp_164 = true := by decide +kernel
