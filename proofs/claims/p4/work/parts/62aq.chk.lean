/-! specs checked (written by wip/p41/gen4.py) -/
set_option maxRecDepth 1000000
theorem ck_184 : f_chkA (GGX []) 184 3000 sp_184 = true := by decide +kernel
theorem ck_185 : f_chkA (GGX []) 185 3000 sp_185 = true := by decide +kernel
theorem ck_186 : f_chkA (GGX []) 186 3000 sp_186 = true := by decide +kernel
theorem ck_187 : f_chkA (GGX []) 187 3000 sp_187 = true := by decide +kernel
theorem ck_188 : f_chkA (GGX []) 188 3000 sp_188 = true := by decide +kernel
theorem ck_189 : f_chkA (GGX []) 189 3000 sp_189 = true := by decide +kernel
theorem ck_190 : f_chkA (GGX []) 190 3000 sp_190 = true := by decide +kernel
theorem ck_191 : f_chkA (GGX []) 191 3000 sp_191 = true := by decide +kernel
theorem ck_192 : f_chkA (GGX []) 192 3000 sp_192 = true := by decide +kernel
theorem ck_193 : f_chkA (GGX [(115, [184, 185, 186, 187, 188, 189, 190, 191]), (134, [192]), (161, [183])]) 193 3000 sp_193 = true := by decide +kernel
theorem ck_194 : f_chkA (GGX [(115, [184, 185, 186, 187, 188, 189, 190, 191]), (134, [192]), (161, [183])]) 194 3000 sp_194 = true := by decide +kernel
theorem ck_195 : f_chkA (GGX [(115, [184, 185, 186, 187, 188, 189, 190, 191]), (134, [192]), (161, [183])]) 195 3000 sp_195 = true := by decide +kernel
