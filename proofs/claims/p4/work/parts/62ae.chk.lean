/-! specs checked (written by wip/p41/gen4.py) -/
set_option maxRecDepth 1000000
theorem ck_165 : f_chkA (GGX [(116, [137, 138]), (118, [143])]) 165 3000 sp_165 = true := by decide +kernel
theorem ck_166 : f_chkA (GGX [(91, [135, 136]), (127, [156])]) 166 3000 sp_166 = true := by decide +kernel
theorem ck_167 : f_chkA (GGX []) 167 3000 sp_167 = true := by decide +kernel
theorem ck_168 : f_chkA (GGX []) 168 3000 sp_168 = true := by decide +kernel
theorem ck_169 : f_chkA (GGX []) 169 3000 sp_169 = true := by decide +kernel
theorem ck_170 : f_chkA (GGX [(91, [135, 136]), (118, [143])]) 170 3000 sp_170 = true := by decide +kernel
theorem ck_171 : f_chkA (GGX []) 171 3000 sp_171 = true := by decide +kernel
theorem ck_172 : f_chkA (GGX []) 172 3000 sp_172 = true := by decide +kernel
theorem ck_173 : f_chkA (GGX []) 173 3000 sp_173 = true := by decide +kernel
theorem ck_174 : f_chkA (GGX []) 174 3000 sp_174 = true := by decide +kernel
theorem ck_175 : f_chkA (GGX []) 175 3000 sp_175 = true := by decide +kernel
theorem ck_176 : f_chkA (GGX []) 176 3000 sp_176 = true := by decide +kernel
theorem ck_177 : f_chkA (GGX []) 177 3000 sp_177 = true := by decide +kernel
theorem ck_178 : f_chkA (GGX []) 178 3000 sp_178 = true := by decide +kernel
theorem ck_179 : f_chkA (GGX [(157, [178])]) 179 3000 sp_179 = true := by decide +kernel
theorem ck_180 : f_chkA (GGX [(116, [137, 138]), (118, [143]), (155, [142]), (156, [179]), (188, [177])]) 180 3000 sp_180 = true := by decide +kernel
