/-! specs checked (written by wip/p41/gen4.py) -/
set_option maxRecDepth 1000000
theorem ck_154 : f_chkA (GGX [(118, [141]), (155, [140])]) 154 3000 sp_154 = true := by decide +kernel
theorem ck_155 : f_chkA (GGX [(146, [150])]) 155 3000 sp_155 = true := by decide +kernel
theorem ck_156 : f_chkA (GGX [(146, [150])]) 156 3000 sp_156 = true := by decide +kernel
theorem ck_157 : f_chkA (GGX [(146, [150])]) 157 3000 sp_157 = true := by decide +kernel
theorem ck_158 : f_chkA (GGX [(146, [150])]) 158 3000 sp_158 = true := by decide +kernel
theorem ck_159 : f_chkA (GGX [(122, [149]), (146, [150])]) 159 3000 sp_159 = true := by decide +kernel
theorem ck_160 : f_chkA (GGX [(118, [141])]) 160 3000 sp_160 = true := by decide +kernel
theorem ck_161 : f_chkA (GGX [(91, [133, 134]), (118, [141])]) 161 3000 sp_161 = true := by decide +kernel
theorem ck_162 : f_chkA (GGX []) 162 3000 sp_162 = true := by decide +kernel
