/-! specs checked (written by wip/p41/gen4.py) -/
set_option maxRecDepth 1000000
theorem ck_124 : f_chkA (GGX [(233, [83]), (234, [82]), (272, [24, 25])] 124) 124 3000 sp_124 = true := by decide +kernel
theorem ck_125 : f_chkA (GGX [(233, [83]), (234, [82]), (261, [26, 27])] 125) 125 3000 sp_125 = true := by decide +kernel
theorem ck_126 : f_chkA (GGX [(233, [83]), (234, [82]), (274, [28, 29])] 126) 126 3000 sp_126 = true := by decide +kernel
theorem ck_127 : f_chkA (GGX [(233, [83]), (234, [82]), (270, [16, 17])] 127) 127 3000 sp_127 = true := by decide +kernel
theorem ck_128 : f_chkA (GGX [(236, [84])] 128) 128 3000 sp_128 = true := by decide +kernel
theorem ck_129 : f_chkA (GGX [(262, [12, 13]), (268, [4, 5])] 129) 129 3000 sp_129 = true := by decide +kernel
theorem ck_130 : f_chkA (GGX [(243, [47])] 130) 130 3000 sp_130 = true := by decide +kernel
theorem ck_131 : f_chkA (GGX [] 131) 131 3000 sp_131 = true := by decide +kernel
theorem ck_132 : f_chkA (GGX [(246, [48]), (268, [4, 5])] 132) 132 3000 sp_132 = true := by decide +kernel
theorem ck_133 : f_chkA (GGX [(242, [51])] 133) 133 3000 sp_133 = true := by decide +kernel
theorem ck_134 : f_chkA (GGX [] 134) 134 3000 sp_134 = true := by decide +kernel
theorem ck_135 : f_chkA (GGX [] 135) 135 3000 sp_135 = true := by decide +kernel
theorem ck_136 : f_chkA (GGX [] 136) 136 3000 sp_136 = true := by decide +kernel
theorem ck_137 : f_chkA (GGX [(241, [52])] 137) 137 3000 sp_137 = true := by decide +kernel
theorem ck_138 : f_chkA (GGX [] 138) 138 3000 sp_138 = true := by decide +kernel
theorem ck_139 : f_chkA (GGX [(252, [61])] 139) 139 3000 sp_139 = true := by decide +kernel
theorem ck_140 : f_chkA (GGX [] 140) 140 3000 sp_140 = true := by decide +kernel
theorem ck_141 : f_chkA (GGX [(239, [55])] 141) 141 3000 sp_141 = true := by decide +kernel
theorem ck_142 : f_chkA (GGX [(76, [66]), (77, [67])] 142) 142 3000 sp_142 = true := by decide +kernel
theorem ck_143 : f_chkA (GGX [] 143) 143 3000 sp_143 = true := by decide +kernel
theorem ck_144 : f_chkA (GGX [(230, [64, 65]), (233, [83]), (234, [82])] 144) 144 3000 sp_144 = true := by decide +kernel
theorem ck_145 : f_chkA (GGX [(230, [64, 65]), (259, [38, 39, 42, 43, 40, 41, 30, 31, 32, 33, 34, 35, 36, 37])] 145) 145 3000 sp_145 = true := by decide +kernel
theorem ck_146 : f_chkA (GGX [] 146) 146 3000 sp_146 = true := by decide +kernel
theorem ck_147 : f_chkA (GGX [(23, [77])] 147) 147 3000 sp_147 = true := by decide +kernel
theorem ck_148 : f_chkA (GGX [(34, [3]), (284, [86])] 148) 148 3000 sp_148 = true := by decide +kernel
theorem ck_149 : f_chkA (GGX [(259, [38, 39, 42, 43, 40, 41, 30, 31, 32, 33, 34, 35, 36, 37])] 149) 149 3000 sp_149 = true := by decide +kernel
theorem ck_150 : f_chkA (GGX [(259, [38, 39, 42, 43, 40, 41, 30, 31, 32, 33, 34, 35, 36, 37])] 150) 150 3000 sp_150 = true := by decide +kernel
theorem ck_151 : f_chkA (GGX [] 151) 151 3000 sp_151 = true := by decide +kernel
theorem ck_152 : f_chkA (GGX [] 152) 152 3000 sp_152 = true := by decide +kernel
theorem ck_153 : f_chkA (GGX [(259, [38, 39, 42, 43, 40, 41, 30, 31, 32, 33, 34, 35, 36, 37])] 153) 153 3000 sp_153 = true := by decide +kernel
theorem ck_154 : f_chkA (GGX [] 154) 154 3000 sp_154 = true := by decide +kernel
theorem ck_155 : f_chkA (GGX [(259, [38, 39, 42, 43, 40, 41, 30, 31, 32, 33, 34, 35, 36, 37])] 155) 155 3000 sp_155 = true := by decide +kernel
theorem ck_156 : f_chkA (GGX [] 156) 156 3000 sp_156 = true := by decide +kernel
theorem ck_157 : f_chkA (GGX [] 157) 157 3000 sp_157 = true := by decide +kernel
theorem ck_158 : f_chkA (GGX [] 158) 158 3000 sp_158 = true := by decide +kernel
theorem ck_159 : f_chkA (GGX [] 159) 159 3000 sp_159 = true := by decide +kernel
theorem ck_160 : f_chkA (GGX [] 160) 160 3000 sp_160 = true := by decide +kernel
theorem ck_161 : f_chkA (GGX [] 161) 161 3000 sp_161 = true := by decide +kernel
theorem ck_162 : f_chkA (GGX [] 162) 162 3000 sp_162 = true := by decide +kernel
theorem ck_163 : f_chkA (GGX [(211, [78])] 163) 163 3000 sp_163 = true := by decide +kernel
theorem ck_164 : f_chkA (GGX [(14, [163]), (211, [78])] 164) 164 3000 sp_164 = true := by decide +kernel
theorem ck_165 : f_chkA (GGX [(257, [22, 23]), (261, [26, 27]), (270, [16, 17]), (272, [24, 25]), (273, [20, 21]), (274, [28, 29]), (275, [18, 19])] 165) 165 3000 sp_165 = true := by decide +kernel
theorem ck_166 : f_chkA (GGX [(257, [22, 23]), (261, [26, 27]), (270, [16, 17]), (272, [24, 25]), (273, [20, 21]), (274, [28, 29]), (275, [18, 19])] 166) 166 3000 sp_166 = true := by decide +kernel
theorem ck_167 : f_chkA (GGX [(10, [165, 166]), (253, [8, 9])] 167) 167 3000 sp_167 = true := by decide +kernel
theorem ck_168 : f_chkA (GGX [(10, [165, 166]), (253, [8, 9])] 168) 168 3000 sp_168 = true := by decide +kernel
theorem ck_169 : f_chkA (GGX [(17, [1]), (25, [76]), (27, [68])] 169) 169 3000 sp_169 = true := by decide +kernel
