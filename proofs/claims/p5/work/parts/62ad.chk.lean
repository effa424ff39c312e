/-! specs checked (written by wip/p41/gen4.py) -/
set_option maxRecDepth 1000000
theorem ck_200 : f_chkA (GGX [(118, [187]), (155, [186])] 200) 200 3000 sp_200 = true := by decide +kernel
theorem ck_201 : f_chkA (GGX [(146, [196])] 201) 201 3000 sp_201 = true := by decide +kernel
theorem ck_202 : f_chkA (GGX [(146, [196])] 202) 202 3000 sp_202 = true := by decide +kernel
theorem ck_203 : f_chkA (GGX [(146, [196])] 203) 203 3000 sp_203 = true := by decide +kernel
theorem ck_204 : f_chkA (GGX [(146, [196])] 204) 204 3000 sp_204 = true := by decide +kernel
theorem ck_205 : f_chkA (GGX [(122, [195]), (146, [196])] 205) 205 3000 sp_205 = true := by decide +kernel
theorem ck_206 : f_chkA (GGX [(118, [187])] 206) 206 3000 sp_206 = true := by decide +kernel
theorem ck_207 : f_chkA (GGX [(91, [179, 180]), (118, [187])] 207) 207 3000 sp_207 = true := by decide +kernel
theorem ck_208 : f_chkA (GGX [] 208) 208 3000 sp_208 = true := by decide +kernel
