/-! specs checked (written by wip/p41/gen4.py) -/
set_option maxRecDepth 1000000
theorem ck_173 : f_chkA (GGX [(116, [145, 146]), (118, [151])]) 173 3000 sp_173 = true := by decide +kernel
theorem ck_174 : f_chkA (GGX [(91, [143, 144]), (127, [164])]) 174 3000 sp_174 = true := by decide +kernel
theorem ck_175 : f_chkA (GGX []) 175 3000 sp_175 = true := by decide +kernel
theorem ck_176 : f_chkA (GGX []) 176 3000 sp_176 = true := by decide +kernel
theorem ck_177 : f_chkA (GGX []) 177 3000 sp_177 = true := by decide +kernel
theorem ck_178 : f_chkA (GGX [(91, [143, 144]), (118, [151])]) 178 3000 sp_178 = true := by decide +kernel
theorem ck_179 : f_chkA (GGX []) 179 3000 sp_179 = true := by decide +kernel
theorem ck_180 : f_chkA (GGX []) 180 3000 sp_180 = true := by decide +kernel
theorem ck_181 : f_chkA (GGX []) 181 3000 sp_181 = true := by decide +kernel
theorem ck_182 : f_chkA (GGX []) 182 3000 sp_182 = true := by decide +kernel
theorem ck_183 : f_chkA (GGX []) 183 3000 sp_183 = true := by decide +kernel
theorem ck_184 : f_chkA (GGX []) 184 3000 sp_184 = true := by decide +kernel
theorem ck_185 : f_chkA (GGX []) 185 3000 sp_185 = true := by decide +kernel
theorem ck_186 : f_chkA (GGX []) 186 3000 sp_186 = true := by decide +kernel
theorem ck_187 : f_chkA (GGX [(157, [186])]) 187 3000 sp_187 = true := by decide +kernel
theorem ck_188 : f_chkA (GGX [(116, [145, 146]), (118, [151]), (155, [150]), (156, [187]), (188, [185])]) 188 3000 sp_188 = true := by decide +kernel
