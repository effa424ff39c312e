/-! specs checked (written by wip/p41/gen4.py) -/
set_option maxRecDepth 1000000
theorem ck_134 : f_chkA (GGX [(8, [132]), (11, [130]), (23, [133]), (234, [53]), (259, [17])]) 134 3000 sp_134 = true := by decide +kernel
theorem ck_135 : f_chkA (GGX []) 135 3000 sp_135 = true := by decide +kernel
theorem ck_136 : f_chkA (GGX []) 136 3000 sp_136 = true := by decide +kernel
theorem ck_137 : f_chkA (GGX []) 137 3000 sp_137 = true := by decide +kernel
theorem ck_138 : f_chkA (GGX []) 138 3000 sp_138 = true := by decide +kernel
theorem ck_139 : f_chkA (GGX []) 139 3000 sp_139 = true := by decide +kernel
theorem ck_140 : f_chkA (GGX []) 140 3000 sp_140 = true := by decide +kernel
theorem ck_141 : f_chkA (GGX [(223, [139]), (225, [138]), (226, [137]), (227, [140])]) 141 3000 sp_141 = true := by decide +kernel
theorem ck_142 : f_chkA (GGX [(224, [141])]) 142 3000 sp_142 = true := by decide +kernel
theorem ck_143 : f_chkA (GGX []) 143 3000 sp_143 = true := by decide +kernel
theorem ck_144 : f_chkA (GGX []) 144 3000 sp_144 = true := by decide +kernel
theorem ck_145 : f_chkA (GGX []) 145 3000 sp_145 = true := by decide +kernel
theorem ck_146 : f_chkA (GGX []) 146 3000 sp_146 = true := by decide +kernel
theorem ck_147 : f_chkA (GGX []) 147 3000 sp_147 = true := by decide +kernel
theorem ck_148 : f_chkA (GGX [(119, [147])]) 148 3000 sp_148 = true := by decide +kernel
theorem ck_149 : f_chkA (GGX []) 149 3000 sp_149 = true := by decide +kernel
