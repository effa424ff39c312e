/-! specs checked (written by wip/p41/gen4.py) -/
set_option maxRecDepth 1000000
theorem ck_185 : f_chkA (GGX []) 185 3000 sp_185 = true := by decide +kernel
theorem ck_186 : f_chkA (GGX []) 186 3000 sp_186 = true := by decide +kernel
theorem ck_187 : f_chkA (GGX []) 187 3000 sp_187 = true := by decide +kernel
theorem ck_188 : f_chkA (GGX []) 188 3000 sp_188 = true := by decide +kernel
theorem ck_189 : f_chkA (GGX []) 189 3000 sp_189 = true := by decide +kernel
theorem ck_190 : f_chkA (GGX []) 190 3000 sp_190 = true := by decide +kernel
theorem ck_191 : f_chkA (GGX []) 191 3000 sp_191 = true := by decide +kernel
theorem ck_192 : f_chkA (GGX []) 192 3000 sp_192 = true := by decide +kernel
theorem ck_193 : f_chkA (GGX []) 193 3000 sp_193 = true := by decide +kernel
theorem ck_194 : f_chkA (GGX [(115, [185, 186, 187, 188, 189, 190, 191, 192]), (134, [193]), (161, [184])]) 194 3000 sp_194 = true := by decide +kernel
theorem ck_195 : f_chkA (GGX [(115, [185, 186, 187, 188, 189, 190, 191, 192]), (134, [193]), (161, [184])]) 195 3000 sp_195 = true := by decide +kernel
theorem ck_196 : f_chkA (GGX [(115, [185, 186, 187, 188, 189, 190, 191, 192]), (134, [193]), (161, [184])]) 196 3000 sp_196 = true := by decide +kernel
theorem ck_197 : f_chkA (GGX [(115, [185, 186, 187, 188, 189, 190, 191, 192]), (134, [193]), (161, [184])]) 197 3000 sp_197 = true := by decide +kernel
theorem ck_198 : f_chkA (GGX [(115, [185, 186, 187, 188, 189, 190, 191, 192]), (134, [193]), (161, [184])]) 198 3000 sp_198 = true := by decide +kernel
theorem ck_199 : f_chkA (GGX [(115, [185, 186, 187, 188, 189, 190, 191, 192]), (134, [193]), (161, [184])]) 199 3000 sp_199 = true := by decide +kernel
theorem ck_200 : f_chkA (GGX [(161, [184])]) 200 3000 sp_200 = true := by decide +kernel
theorem ck_201 : f_chkA (GGX [(161, [184])]) 201 3000 sp_201 = true := by decide +kernel
theorem ck_202 : f_chkA (GGX [(161, [184])]) 202 3000 sp_202 = true := by decide +kernel
theorem ck_203 : f_chkA (GGX [(161, [184])]) 203 3000 sp_203 = true := by decide +kernel
theorem ck_204 : f_chkA (GGX [(166, [200, 201, 202, 203]), (177, [194, 195]), (178, [197]), (179, [196]), (180, [198, 199])]) 204 3000 sp_204 = true := by decide +kernel
