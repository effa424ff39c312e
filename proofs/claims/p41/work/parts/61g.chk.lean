/-! specs checked (written by wip/p41/gen4.py) -/
set_option maxRecDepth 1000000
theorem ck_205 : f_chkA (GGX []) 205 3000 sp_205 = true := by decide +kernel
theorem ck_206 : f_chkA (GGX [(100, [205]), (153, [204]), (161, [184])]) 206 3000 sp_206 = true := by decide +kernel
theorem ck_207 : f_chkA (GGX []) 207 3000 sp_207 = true := by decide +kernel
theorem ck_208 : f_chkA (GGX []) 208 3000 sp_208 = true := by decide +kernel
theorem ck_209 : f_chkA (GGX [(91, [136, 137]), (116, [138, 139]), (118, [144]), (146, [153])]) 209 3000 sp_209 = true := by decide +kernel
theorem ck_210 : f_chkA (GGX [(116, [138, 139]), (146, [153])]) 210 3000 sp_210 = true := by decide +kernel
theorem ck_211 : f_chkA (GGX [(91, [136, 137]), (116, [138, 139]), (118, [144])]) 211 3000 sp_211 = true := by decide +kernel
theorem ck_212 : f_chkA (GGX []) 212 3000 sp_212 = true := by decide +kernel
theorem ck_213 : f_chkA (GGX [(97, [145]), (116, [138, 139])]) 213 3000 sp_213 = true := by decide +kernel
theorem ck_214 : f_chkA (GGX [(105, [151]), (109, [213])]) 214 3000 sp_214 = true := by decide +kernel
theorem ck_215 : f_chkA (GGX [(111, [214]), (146, [153])]) 215 3000 sp_215 = true := by decide +kernel
theorem ck_216 : f_chkA (GGX [(87, [156]), (111, [214]), (203, [155])]) 216 3000 sp_216 = true := by decide +kernel
theorem ck_217 : f_chkA (GGX [(115, [185, 186, 187, 188, 189, 190, 191, 192]), (134, [193]), (161, [184])]) 217 3000 sp_217 = true := by decide +kernel
theorem ck_218 : f_chkA (GGX [(115, [185, 186, 187, 188, 189, 190, 191, 192]), (134, [193]), (161, [184]), (198, [217])]) 218 3000 sp_218 = true := by decide +kernel
