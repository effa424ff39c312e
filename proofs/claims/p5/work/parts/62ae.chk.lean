/-! specs checked (written by wip/p41/gen4.py) -/
set_option maxRecDepth 1000000
theorem ck_209 : f_chkA (GGX [(116, [181, 182]), (118, [187])] 209) 209 3000 sp_209 = true := by decide +kernel
theorem ck_210 : f_chkA (GGX [(91, [179, 180]), (127, [200])] 210) 210 3000 sp_210 = true := by decide +kernel
theorem ck_211 : f_chkA (GGX [] 211) 211 3000 sp_211 = true := by decide +kernel
theorem ck_212 : f_chkA (GGX [] 212) 212 3000 sp_212 = true := by decide +kernel
theorem ck_213 : f_chkA (GGX [] 213) 213 3000 sp_213 = true := by decide +kernel
theorem ck_214 : f_chkA (GGX [(91, [179, 180]), (118, [187])] 214) 214 3000 sp_214 = true := by decide +kernel
theorem ck_215 : f_chkA (GGX [] 215) 215 3000 sp_215 = true := by decide +kernel
theorem ck_216 : f_chkA (GGX [] 216) 216 3000 sp_216 = true := by decide +kernel
theorem ck_217 : f_chkA (GGX [] 217) 217 3000 sp_217 = true := by decide +kernel
theorem ck_218 : f_chkA (GGX [] 218) 218 3000 sp_218 = true := by decide +kernel
theorem ck_219 : f_chkA (GGX [] 219) 219 3000 sp_219 = true := by decide +kernel
theorem ck_220 : f_chkA (GGX [] 220) 220 3000 sp_220 = true := by decide +kernel
theorem ck_221 : f_chkA (GGX [] 221) 221 3000 sp_221 = true := by decide +kernel
theorem ck_222 : f_chkA (GGX [] 222) 222 3000 sp_222 = true := by decide +kernel
theorem ck_223 : f_chkA (GGX [] 223) 223 3000 sp_223 = true := by decide +kernel
theorem ck_224 : f_chkA (GGX [] 224) 224 3000 sp_224 = true := by decide +kernel
theorem ck_225 : f_chkA (GGX [] 225) 225 3000 sp_225 = true := by decide +kernel
theorem ck_226 : f_chkA (GGX [(157, [225])] 226) 226 3000 sp_226 = true := by decide +kernel
theorem ck_227 : f_chkA (GGX [(116, [181, 182]), (118, [187]), (155, [186]), (156, [226]), (188, [224])] 227) 227 3000 sp_227 = true := by decide +kernel
