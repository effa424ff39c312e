/-! specs checked (written by wip/p41/gen4.py) -/
set_option maxRecDepth 1000000
theorem ck_170 : f_chkA (GGX [(8, [167, 168]), (11, [164]), (23, [169]), (233, [83]), (234, [82]), (259, [38, 39, 42, 43, 40, 41, 30, 31, 32, 33, 34, 35, 36, 37])] 170) 170 3000 sp_170 = true := by decide +kernel
theorem ck_171 : f_chkA (GGX [] 171) 171 3000 sp_171 = true := by decide +kernel
theorem ck_172 : f_chkA (GGX [] 172) 172 3000 sp_172 = true := by decide +kernel
theorem ck_173 : f_chkA (GGX [] 173) 173 3000 sp_173 = true := by decide +kernel
theorem ck_174 : f_chkA (GGX [] 174) 174 3000 sp_174 = true := by decide +kernel
theorem ck_175 : f_chkA (GGX [] 175) 175 3000 sp_175 = true := by decide +kernel
theorem ck_176 : f_chkA (GGX [] 176) 176 3000 sp_176 = true := by decide +kernel
theorem ck_177 : f_chkA (GGX [(223, [175]), (225, [174]), (226, [173]), (227, [176])] 177) 177 3000 sp_177 = true := by decide +kernel
theorem ck_178 : f_chkA (GGX [(224, [177])] 178) 178 3000 sp_178 = true := by decide +kernel
theorem ck_179 : f_chkA (GGX [] 179) 179 3000 sp_179 = true := by decide +kernel
theorem ck_180 : f_chkA (GGX [] 180) 180 3000 sp_180 = true := by decide +kernel
theorem ck_181 : f_chkA (GGX [] 181) 181 3000 sp_181 = true := by decide +kernel
theorem ck_182 : f_chkA (GGX [] 182) 182 3000 sp_182 = true := by decide +kernel
theorem ck_183 : f_chkA (GGX [] 183) 183 3000 sp_183 = true := by decide +kernel
theorem ck_184 : f_chkA (GGX [(119, [183])] 184) 184 3000 sp_184 = true := by decide +kernel
theorem ck_185 : f_chkA (GGX [] 185) 185 3000 sp_185 = true := by decide +kernel
theorem ck_186 : f_chkA (GGX [] 186) 186 3000 sp_186 = true := by decide +kernel
