/-! specs checked (written by wip/p41/gen4.py) -/
set_option maxRecDepth 1000000
theorem ck_142 : f_chkA (GGX []) 142 3000 sp_142 = true := by decide +kernel
theorem ck_143 : f_chkA (GGX [(155, [142])]) 143 3000 sp_143 = true := by decide +kernel
theorem ck_144 : f_chkA (GGX []) 144 3000 sp_144 = true := by decide +kernel
theorem ck_145 : f_chkA (GGX []) 145 3000 sp_145 = true := by decide +kernel
theorem ck_146 : f_chkA (GGX []) 146 3000 sp_146 = true := by decide +kernel
theorem ck_147 : f_chkA (GGX [(97, [144])]) 147 3000 sp_147 = true := by decide +kernel
theorem ck_148 : f_chkA (GGX [(155, [142])]) 148 3000 sp_148 = true := by decide +kernel
theorem ck_149 : f_chkA (GGX [(98, [145])]) 149 3000 sp_149 = true := by decide +kernel
theorem ck_150 : f_chkA (GGX []) 150 3000 sp_150 = true := by decide +kernel
theorem ck_151 : f_chkA (GGX [(105, [150])]) 151 3000 sp_151 = true := by decide +kernel
theorem ck_152 : f_chkA (GGX []) 152 3000 sp_152 = true := by decide +kernel
theorem ck_153 : f_chkA (GGX []) 153 3000 sp_153 = true := by decide +kernel
theorem ck_154 : f_chkA (GGX []) 154 3000 sp_154 = true := by decide +kernel
theorem ck_155 : f_chkA (GGX []) 155 3000 sp_155 = true := by decide +kernel
