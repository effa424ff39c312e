/-! specs checked (written by wip/p41/gen4.py) -/
set_option maxRecDepth 1000000
theorem ck_126 : f_chkA (GGX [(8, [124]), (11, [122]), (23, [125]), (234, [53]), (259, [17])]) 126 3000 sp_126 = true := by decide +kernel
theorem ck_127 : f_chkA (GGX []) 127 3000 sp_127 = true := by decide +kernel
theorem ck_128 : f_chkA (GGX []) 128 3000 sp_128 = true := by decide +kernel
theorem ck_129 : f_chkA (GGX []) 129 3000 sp_129 = true := by decide +kernel
theorem ck_130 : f_chkA (GGX []) 130 3000 sp_130 = true := by decide +kernel
theorem ck_131 : f_chkA (GGX []) 131 3000 sp_131 = true := by decide +kernel
theorem ck_132 : f_chkA (GGX []) 132 3000 sp_132 = true := by decide +kernel
theorem ck_133 : f_chkA (GGX [(223, [131]), (225, [130]), (226, [129]), (227, [132])]) 133 3000 sp_133 = true := by decide +kernel
theorem ck_134 : f_chkA (GGX [(224, [133])]) 134 3000 sp_134 = true := by decide +kernel
theorem ck_135 : f_chkA (GGX []) 135 3000 sp_135 = true := by decide +kernel
theorem ck_136 : f_chkA (GGX []) 136 3000 sp_136 = true := by decide +kernel
theorem ck_137 : f_chkA (GGX []) 137 3000 sp_137 = true := by decide +kernel
theorem ck_138 : f_chkA (GGX []) 138 3000 sp_138 = true := by decide +kernel
theorem ck_139 : f_chkA (GGX []) 139 3000 sp_139 = true := by decide +kernel
theorem ck_140 : f_chkA (GGX [(119, [139])]) 140 3000 sp_140 = true := by decide +kernel
theorem ck_141 : f_chkA (GGX []) 141 3000 sp_141 = true := by decide +kernel
