/-! specs checked (written by wip/p41/gen4.py) -/
set_option maxRecDepth 1000000
theorem ck_202 : f_chkA (GGX []) 202 3000 sp_202 = true := by decide +kernel
theorem ck_203 : f_chkA (GGX [(100, [202]), (153, [201]), (161, [181])]) 203 3000 sp_203 = true := by decide +kernel
theorem ck_204 : f_chkA (GGX []) 204 3000 sp_204 = true := by decide +kernel
theorem ck_205 : f_chkA (GGX []) 205 3000 sp_205 = true := by decide +kernel
theorem ck_206 : f_chkA (GGX [(91, [133, 134]), (116, [135, 136]), (118, [141]), (146, [150])]) 206 3000 sp_206 = true := by decide +kernel
theorem ck_207 : f_chkA (GGX [(116, [135, 136]), (146, [150])]) 207 3000 sp_207 = true := by decide +kernel
theorem ck_208 : f_chkA (GGX [(91, [133, 134]), (116, [135, 136]), (118, [141])]) 208 3000 sp_208 = true := by decide +kernel
