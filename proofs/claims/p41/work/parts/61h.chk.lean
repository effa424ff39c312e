/-! specs checked (written by wip/p41/gen4.py) -/
set_option maxRecDepth 1000000
theorem ck_219 : f_chkA (GGX []) 219 3000 sp_219 = true := by decide +kernel
theorem ck_220 : f_chkA (GGX [(91, [136, 137]), (116, [138, 139]), (118, [144])]) 220 3000 sp_220 = true := by decide +kernel
theorem ck_221 : f_chkA (GGX []) 221 3000 sp_221 = true := by decide +kernel
theorem ck_222 : f_chkA (GGX [(116, [138, 139])]) 222 3000 sp_222 = true := by decide +kernel
theorem ck_223 : f_chkA (GGX [(122, [152])]) 223 3000 sp_223 = true := by decide +kernel
theorem ck_224 : f_chkA (GGX [(87, [156]), (93, [218]), (98, [146]), (107, [219, 220, 221, 222, 223]), (146, [153]), (161, [184]), (203, [155])]) 224 3000 sp_224 = true := by decide +kernel
theorem ck_225 : f_chkA (GGX []) 225 3000 sp_225 = true := by decide +kernel
theorem ck_226 : f_chkA (GGX [(142, [225])]) 226 3000 sp_226 = true := by decide +kernel
theorem ck_227 : f_chkA (GGX []) 227 3000 sp_227 = true := by decide +kernel
theorem ck_228 : f_chkA (GGX []) 228 3000 sp_228 = true := by decide +kernel
theorem ck_229 : f_chkA (GGX []) 229 3000 sp_229 = true := by decide +kernel
theorem ck_230 : f_chkA (GGX []) 230 3000 sp_230 = true := by decide +kernel
theorem ck_231 : f_chkA (GGX [(115, [185, 186, 187, 188, 189, 190, 191, 192]), (134, [193]), (148, [230]), (161, [184])]) 231 3000 sp_231 = true := by decide +kernel
theorem ck_232 : f_chkA (GGX [(145, [227, 228]), (161, [184]), (162, [229])]) 232 3000 sp_232 = true := by decide +kernel
theorem ck_233 : f_chkA (GGX [(89, [232]), (145, [227, 228]), (161, [184]), (162, [229]), (167, [231])]) 233 3000 sp_233 = true := by decide +kernel
theorem ck_234 : f_chkA (GGX [(91, [136, 137]), (118, [144])]) 234 3000 sp_234 = true := by decide +kernel
theorem ck_235 : f_chkA (GGX [(133, [234])]) 235 3000 sp_235 = true := by decide +kernel
theorem ck_236 : f_chkA (GGX [(138, [235])]) 236 3000 sp_236 = true := by decide +kernel
