/-! specs checked (written by wip/p41/gen4.py) -/
set_option maxRecDepth 1000000
theorem ck_150 : f_chkA (GGX []) 150 3000 sp_150 = true := by decide +kernel
theorem ck_151 : f_chkA (GGX [(155, [150])]) 151 3000 sp_151 = true := by decide +kernel
theorem ck_152 : f_chkA (GGX []) 152 3000 sp_152 = true := by decide +kernel
theorem ck_153 : f_chkA (GGX []) 153 3000 sp_153 = true := by decide +kernel
theorem ck_154 : f_chkA (GGX []) 154 3000 sp_154 = true := by decide +kernel
theorem ck_155 : f_chkA (GGX [(97, [152])]) 155 3000 sp_155 = true := by decide +kernel
theorem ck_156 : f_chkA (GGX [(155, [150])]) 156 3000 sp_156 = true := by decide +kernel
theorem ck_157 : f_chkA (GGX [(98, [153])]) 157 3000 sp_157 = true := by decide +kernel
theorem ck_158 : f_chkA (GGX []) 158 3000 sp_158 = true := by decide +kernel
theorem ck_159 : f_chkA (GGX [(105, [158])]) 159 3000 sp_159 = true := by decide +kernel
theorem ck_160 : f_chkA (GGX []) 160 3000 sp_160 = true := by decide +kernel
theorem ck_161 : f_chkA (GGX []) 161 3000 sp_161 = true := by decide +kernel
theorem ck_162 : f_chkA (GGX []) 162 3000 sp_162 = true := by decide +kernel
theorem ck_163 : f_chkA (GGX []) 163 3000 sp_163 = true := by decide +kernel
