/-! specs checked (written by wip/p41/gen4.py) -/
set_option maxRecDepth 1000000
theorem ck_192 : f_chkA (GGX []) 192 3000 sp_192 = true := by decide +kernel
theorem ck_193 : f_chkA (GGX []) 193 3000 sp_193 = true := by decide +kernel
theorem ck_194 : f_chkA (GGX []) 194 3000 sp_194 = true := by decide +kernel
theorem ck_195 : f_chkA (GGX []) 195 3000 sp_195 = true := by decide +kernel
theorem ck_196 : f_chkA (GGX []) 196 3000 sp_196 = true := by decide +kernel
theorem ck_197 : f_chkA (GGX []) 197 3000 sp_197 = true := by decide +kernel
theorem ck_198 : f_chkA (GGX []) 198 3000 sp_198 = true := by decide +kernel
theorem ck_199 : f_chkA (GGX []) 199 3000 sp_199 = true := by decide +kernel
theorem ck_200 : f_chkA (GGX []) 200 3000 sp_200 = true := by decide +kernel
theorem ck_201 : f_chkA (GGX [(115, [192, 193, 194, 195, 196, 197, 198, 199]), (134, [200]), (161, [191])]) 201 3000 sp_201 = true := by decide +kernel
theorem ck_202 : f_chkA (GGX [(115, [192, 193, 194, 195, 196, 197, 198, 199]), (134, [200]), (161, [191])]) 202 3000 sp_202 = true := by decide +kernel
theorem ck_203 : f_chkA (GGX [(115, [192, 193, 194, 195, 196, 197, 198, 199]), (134, [200]), (161, [191])]) 203 3000 sp_203 = true := by decide +kernel
