/-! specs checked (written by wip/p41/gen4.py) -/
set_option maxRecDepth 1000000
theorem ck_204 : f_chkA (GGX []) 204 3000 sp_204 = true := by decide +kernel
theorem ck_205 : f_chkA (GGX [(100, [204]), (153, [203]), (161, [183])]) 205 3000 sp_205 = true := by decide +kernel
theorem ck_206 : f_chkA (GGX []) 206 3000 sp_206 = true := by decide +kernel
theorem ck_207 : f_chkA (GGX []) 207 3000 sp_207 = true := by decide +kernel
theorem ck_208 : f_chkA (GGX [(91, [135, 136]), (116, [137, 138]), (118, [143]), (146, [152])]) 208 3000 sp_208 = true := by decide +kernel
theorem ck_209 : f_chkA (GGX [(116, [137, 138]), (146, [152])]) 209 3000 sp_209 = true := by decide +kernel
theorem ck_210 : f_chkA (GGX [(91, [135, 136]), (116, [137, 138]), (118, [143])]) 210 3000 sp_210 = true := by decide +kernel
