/-! specs checked (written by wip/p41/gen4.py) -/
set_option maxRecDepth 1000000
theorem ck_187 : f_chkA (GGX [(155, [186])] 187) 187 3000 sp_187 = true := by decide +kernel
theorem ck_188 : f_chkA (GGX [] 188) 188 3000 sp_188 = true := by decide +kernel
theorem ck_189 : f_chkA (GGX [] 189) 189 3000 sp_189 = true := by decide +kernel
theorem ck_190 : f_chkA (GGX [] 190) 190 3000 sp_190 = true := by decide +kernel
theorem ck_191 : f_chkA (GGX [(97, [188])] 191) 191 3000 sp_191 = true := by decide +kernel
theorem ck_192 : f_chkA (GGX [(155, [186])] 192) 192 3000 sp_192 = true := by decide +kernel
theorem ck_193 : f_chkA (GGX [(98, [189])] 193) 193 3000 sp_193 = true := by decide +kernel
theorem ck_194 : f_chkA (GGX [] 194) 194 3000 sp_194 = true := by decide +kernel
theorem ck_195 : f_chkA (GGX [(105, [194])] 195) 195 3000 sp_195 = true := by decide +kernel
theorem ck_196 : f_chkA (GGX [] 196) 196 3000 sp_196 = true := by decide +kernel
theorem ck_197 : f_chkA (GGX [] 197) 197 3000 sp_197 = true := by decide +kernel
theorem ck_198 : f_chkA (GGX [] 198) 198 3000 sp_198 = true := by decide +kernel
theorem ck_199 : f_chkA (GGX [] 199) 199 3000 sp_199 = true := by decide +kernel
