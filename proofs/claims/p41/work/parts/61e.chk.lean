/-! specs checked (written by wip/p41/gen4.py) -/
set_option maxRecDepth 1000000
theorem ck_129 : f_chkA (GGX [(8, [127]), (11, [125]), (23, [128]), (234, [53]), (259, [17])]) 129 3000 sp_129 = true := by decide +kernel
theorem ck_130 : f_chkA (GGX []) 130 3000 sp_130 = true := by decide +kernel
theorem ck_131 : f_chkA (GGX []) 131 3000 sp_131 = true := by decide +kernel
theorem ck_132 : f_chkA (GGX []) 132 3000 sp_132 = true := by decide +kernel
theorem ck_133 : f_chkA (GGX []) 133 3000 sp_133 = true := by decide +kernel
theorem ck_134 : f_chkA (GGX [(223, [132]), (225, [131]), (226, [130]), (227, [133])]) 134 3000 sp_134 = true := by decide +kernel
theorem ck_135 : f_chkA (GGX [(224, [134])]) 135 3000 sp_135 = true := by decide +kernel
theorem ck_136 : f_chkA (GGX []) 136 3000 sp_136 = true := by decide +kernel
theorem ck_137 : f_chkA (GGX []) 137 3000 sp_137 = true := by decide +kernel
theorem ck_138 : f_chkA (GGX []) 138 3000 sp_138 = true := by decide +kernel
theorem ck_139 : f_chkA (GGX []) 139 3000 sp_139 = true := by decide +kernel
theorem ck_140 : f_chkA (GGX []) 140 3000 sp_140 = true := by decide +kernel
theorem ck_141 : f_chkA (GGX [(119, [140])]) 141 3000 sp_141 = true := by decide +kernel
theorem ck_142 : f_chkA (GGX []) 142 3000 sp_142 = true := by decide +kernel
theorem ck_143 : f_chkA (GGX []) 143 3000 sp_143 = true := by decide +kernel
theorem ck_144 : f_chkA (GGX [(155, [143])]) 144 3000 sp_144 = true := by decide +kernel
theorem ck_145 : f_chkA (GGX []) 145 3000 sp_145 = true := by decide +kernel
theorem ck_146 : f_chkA (GGX []) 146 3000 sp_146 = true := by decide +kernel
theorem ck_147 : f_chkA (GGX []) 147 3000 sp_147 = true := by decide +kernel
theorem ck_148 : f_chkA (GGX [(97, [145])]) 148 3000 sp_148 = true := by decide +kernel
theorem ck_149 : f_chkA (GGX [(155, [143])]) 149 3000 sp_149 = true := by decide +kernel
theorem ck_150 : f_chkA (GGX [(98, [146])]) 150 3000 sp_150 = true := by decide +kernel
theorem ck_151 : f_chkA (GGX []) 151 3000 sp_151 = true := by decide +kernel
theorem ck_152 : f_chkA (GGX [(105, [151])]) 152 3000 sp_152 = true := by decide +kernel
theorem ck_153 : f_chkA (GGX []) 153 3000 sp_153 = true := by decide +kernel
theorem ck_154 : f_chkA (GGX []) 154 3000 sp_154 = true := by decide +kernel
theorem ck_155 : f_chkA (GGX []) 155 3000 sp_155 = true := by decide +kernel
theorem ck_156 : f_chkA (GGX []) 156 3000 sp_156 = true := by decide +kernel
theorem ck_157 : f_chkA (GGX [(118, [144]), (155, [143])]) 157 3000 sp_157 = true := by decide +kernel
theorem ck_158 : f_chkA (GGX [(146, [153])]) 158 3000 sp_158 = true := by decide +kernel
theorem ck_159 : f_chkA (GGX [(146, [153])]) 159 3000 sp_159 = true := by decide +kernel
theorem ck_160 : f_chkA (GGX [(146, [153])]) 160 3000 sp_160 = true := by decide +kernel
theorem ck_161 : f_chkA (GGX [(146, [153])]) 161 3000 sp_161 = true := by decide +kernel
theorem ck_162 : f_chkA (GGX [(122, [152]), (146, [153])]) 162 3000 sp_162 = true := by decide +kernel
theorem ck_163 : f_chkA (GGX [(118, [144])]) 163 3000 sp_163 = true := by decide +kernel
theorem ck_164 : f_chkA (GGX [(91, [136, 137]), (118, [144])]) 164 3000 sp_164 = true := by decide +kernel
theorem ck_165 : f_chkA (GGX []) 165 3000 sp_165 = true := by decide +kernel
theorem ck_166 : f_chkA (GGX [(116, [138, 139]), (118, [144])]) 166 3000 sp_166 = true := by decide +kernel
theorem ck_167 : f_chkA (GGX [(91, [136, 137]), (127, [157])]) 167 3000 sp_167 = true := by decide +kernel
theorem ck_168 : f_chkA (GGX []) 168 3000 sp_168 = true := by decide +kernel
theorem ck_169 : f_chkA (GGX []) 169 3000 sp_169 = true := by decide +kernel
theorem ck_170 : f_chkA (GGX []) 170 3000 sp_170 = true := by decide +kernel
theorem ck_171 : f_chkA (GGX [(91, [136, 137]), (118, [144])]) 171 3000 sp_171 = true := by decide +kernel
theorem ck_172 : f_chkA (GGX []) 172 3000 sp_172 = true := by decide +kernel
theorem ck_173 : f_chkA (GGX []) 173 3000 sp_173 = true := by decide +kernel
theorem ck_174 : f_chkA (GGX []) 174 3000 sp_174 = true := by decide +kernel
theorem ck_175 : f_chkA (GGX []) 175 3000 sp_175 = true := by decide +kernel
theorem ck_176 : f_chkA (GGX []) 176 3000 sp_176 = true := by decide +kernel
theorem ck_177 : f_chkA (GGX []) 177 3000 sp_177 = true := by decide +kernel
theorem ck_178 : f_chkA (GGX []) 178 3000 sp_178 = true := by decide +kernel
theorem ck_179 : f_chkA (GGX []) 179 3000 sp_179 = true := by decide +kernel
theorem ck_180 : f_chkA (GGX [(157, [179])]) 180 3000 sp_180 = true := by decide +kernel
theorem ck_181 : f_chkA (GGX [(116, [138, 139]), (118, [144]), (155, [143]), (156, [180]), (188, [178])]) 181 3000 sp_181 = true := by decide +kernel
theorem ck_182 : f_chkA (GGX []) 182 3000 sp_182 = true := by decide +kernel
theorem ck_183 : f_chkA (GGX [(193, [182])]) 183 3000 sp_183 = true := by decide +kernel
theorem ck_184 : f_chkA (GGX []) 184 3000 sp_184 = true := by decide +kernel
