/-! specs checked (written by wip/p41/gen4.py) -/
set_option maxRecDepth 1000000
theorem ck_212 : f_chkA (GGX []) 212 3000 sp_212 = true := by decide +kernel
theorem ck_213 : f_chkA (GGX [(100, [212]), (153, [211]), (161, [191])]) 213 3000 sp_213 = true := by decide +kernel
theorem ck_214 : f_chkA (GGX []) 214 3000 sp_214 = true := by decide +kernel
theorem ck_215 : f_chkA (GGX []) 215 3000 sp_215 = true := by decide +kernel
theorem ck_216 : f_chkA (GGX []) 216 3000 sp_216 = true := by decide +kernel
theorem ck_217 : f_chkA (GGX []) 217 3000 sp_217 = true := by decide +kernel
theorem ck_218 : f_chkA (GGX []) 218 3000 sp_218 = true := by decide +kernel
theorem ck_219 : f_chkA (GGX []) 219 3000 sp_219 = true := by decide +kernel
theorem ck_220 : f_chkA (GGX []) 220 3000 sp_220 = true := by decide +kernel
theorem ck_221 : f_chkA (GGX []) 221 3000 sp_221 = true := by decide +kernel
theorem ck_222 : f_chkA (GGX []) 222 3000 sp_222 = true := by decide +kernel
theorem ck_223 : f_chkA (GGX []) 223 3000 sp_223 = true := by decide +kernel
theorem ck_224 : f_chkA (GGX [(91, [143, 144]), (116, [145, 146]), (118, [151]), (146, [160])]) 224 3000 sp_224 = true := by decide +kernel
theorem ck_225 : f_chkA (GGX [(116, [145, 146]), (146, [160])]) 225 3000 sp_225 = true := by decide +kernel
