/-! specs checked (written by wip/p41/gen4.py) -/
set_option maxRecDepth 1000000
theorem ck_107 : f_chkA (GGX []) 107 3000 sp_107 = true := by decide +kernel
theorem ck_108 : f_chkA (GGX [(252, [34])]) 108 3000 sp_108 = true := by decide +kernel
theorem ck_109 : f_chkA (GGX []) 109 3000 sp_109 = true := by decide +kernel
theorem ck_110 : f_chkA (GGX [(239, [28])]) 110 3000 sp_110 = true := by decide +kernel
theorem ck_111 : f_chkA (GGX [(76, [37]), (77, [38])]) 111 3000 sp_111 = true := by decide +kernel
theorem ck_112 : f_chkA (GGX []) 112 3000 sp_112 = true := by decide +kernel
theorem ck_113 : f_chkA (GGX [(230, [36]), (234, [53])]) 113 3000 sp_113 = true := by decide +kernel
theorem ck_114 : f_chkA (GGX [(230, [36]), (259, [17])]) 114 3000 sp_114 = true := by decide +kernel
theorem ck_115 : f_chkA (GGX []) 115 3000 sp_115 = true := by decide +kernel
theorem ck_116 : f_chkA (GGX [(23, [48])]) 116 3000 sp_116 = true := by decide +kernel
theorem ck_117 : f_chkA (GGX [(34, [3]), (284, [55])]) 117 3000 sp_117 = true := by decide +kernel
theorem ck_118 : f_chkA (GGX [(259, [17])]) 118 3000 sp_118 = true := by decide +kernel
theorem ck_119 : f_chkA (GGX [(259, [17])]) 119 3000 sp_119 = true := by decide +kernel
theorem ck_120 : f_chkA (GGX []) 120 3000 sp_120 = true := by decide +kernel
theorem ck_121 : f_chkA (GGX [(211, [49])]) 121 3000 sp_121 = true := by decide +kernel
theorem ck_122 : f_chkA (GGX [(14, [121]), (211, [49])]) 122 3000 sp_122 = true := by decide +kernel
theorem ck_123 : f_chkA (GGX [(257, [13]), (261, [15]), (270, [10]), (272, [14]), (273, [12]), (274, [16]), (275, [11])]) 123 3000 sp_123 = true := by decide +kernel
theorem ck_124 : f_chkA (GGX [(10, [123]), (253, [6])]) 124 3000 sp_124 = true := by decide +kernel
theorem ck_125 : f_chkA (GGX [(17, [1]), (25, [47]), (27, [39])]) 125 3000 sp_125 = true := by decide +kernel
