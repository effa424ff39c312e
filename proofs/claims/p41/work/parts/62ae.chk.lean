/-! specs checked (written by wip/p41/gen4.py) -/
set_option maxRecDepth 1000000
theorem ck_163 : f_chkA (GGX [(116, [135, 136]), (118, [141])]) 163 3000 sp_163 = true := by decide +kernel
theorem ck_164 : f_chkA (GGX [(91, [133, 134]), (127, [154])]) 164 3000 sp_164 = true := by decide +kernel
theorem ck_165 : f_chkA (GGX []) 165 3000 sp_165 = true := by decide +kernel
theorem ck_166 : f_chkA (GGX []) 166 3000 sp_166 = true := by decide +kernel
theorem ck_167 : f_chkA (GGX []) 167 3000 sp_167 = true := by decide +kernel
theorem ck_168 : f_chkA (GGX [(91, [133, 134]), (118, [141])]) 168 3000 sp_168 = true := by decide +kernel
theorem ck_169 : f_chkA (GGX []) 169 3000 sp_169 = true := by decide +kernel
theorem ck_170 : f_chkA (GGX []) 170 3000 sp_170 = true := by decide +kernel
theorem ck_171 : f_chkA (GGX []) 171 3000 sp_171 = true := by decide +kernel
theorem ck_172 : f_chkA (GGX []) 172 3000 sp_172 = true := by decide +kernel
theorem ck_173 : f_chkA (GGX []) 173 3000 sp_173 = true := by decide +kernel
theorem ck_174 : f_chkA (GGX []) 174 3000 sp_174 = true := by decide +kernel
theorem ck_175 : f_chkA (GGX []) 175 3000 sp_175 = true := by decide +kernel
theorem ck_176 : f_chkA (GGX []) 176 3000 sp_176 = true := by decide +kernel
theorem ck_177 : f_chkA (GGX [(157, [176])]) 177 3000 sp_177 = true := by decide +kernel
theorem ck_178 : f_chkA (GGX [(116, [135, 136]), (118, [141]), (155, [140]), (156, [177]), (188, [175])]) 178 3000 sp_178 = true := by decide +kernel
