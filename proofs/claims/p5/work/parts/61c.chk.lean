/-! specs checked (written by wip/p41/gen4.py) -/
set_option maxRecDepth 1000000
theorem ck_80 : f_chkA (GGX [(27, [68]), (217, [79])] 80) 80 3000 sp_80 = true := by decide +kernel
theorem ck_81 : f_chkA (GGX [(27, [68])] 81) 81 3000 sp_81 = true := by decide +kernel
theorem ck_82 : f_chkA (GGX [(235, [44]), (259, [38, 39, 42, 43, 40, 41, 30, 31, 32, 33, 34, 35, 36, 37])] 82) 82 3000 sp_82 = true := by decide +kernel
theorem ck_83 : f_chkA (GGX [(235, [44])] 83) 83 3000 sp_83 = true := by decide +kernel
theorem ck_84 : f_chkA (GGX [(235, [44]), (259, [38, 39, 42, 43, 40, 41, 30, 31, 32, 33, 34, 35, 36, 37])] 84) 84 3000 sp_84 = true := by decide +kernel
theorem ck_85 : f_chkA (GGX [(246, [48]), (268, [4, 5])] 85) 85 3000 sp_85 = true := by decide +kernel
theorem ck_86 : f_chkA (GGX [(285, [85])] 86) 86 3000 sp_86 = true := by decide +kernel
theorem ck_87 : f_chkA (GGX [(27, [68]), (29, [81]), (211, [78])] 87) 87 3000 sp_87 = true := by decide +kernel
theorem ck_88 : f_chkA (GGX [] 88) 88 3000 sp_88 = true := by decide +kernel
theorem ck_89 : f_chkA (GGX [(27, [68])] 89) 89 3000 sp_89 = true := by decide +kernel
theorem ck_90 : f_chkA (GGX [(27, [68])] 90) 90 3000 sp_90 = true := by decide +kernel
theorem ck_91 : f_chkA (GGX [(27, [68]), (282, [87])] 91) 91 3000 sp_91 = true := by decide +kernel
theorem ck_92 : f_chkA (GGX [(27, [68])] 92) 92 3000 sp_92 = true := by decide +kernel
theorem ck_93 : f_chkA (GGX [(27, [68])] 93) 93 3000 sp_93 = true := by decide +kernel
theorem ck_94 : f_chkA (GGX [(27, [68]), (282, [87])] 94) 94 3000 sp_94 = true := by decide +kernel
theorem ck_95 : f_chkA (GGX [(27, [68])] 95) 95 3000 sp_95 = true := by decide +kernel
theorem ck_96 : f_chkA (GGX [(27, [68])] 96) 96 3000 sp_96 = true := by decide +kernel
theorem ck_97 : f_chkA (GGX [(27, [68]), (282, [87])] 97) 97 3000 sp_97 = true := by decide +kernel
theorem ck_98 : f_chkA (GGX [(27, [68])] 98) 98 3000 sp_98 = true := by decide +kernel
theorem ck_99 : f_chkA (GGX [(27, [68])] 99) 99 3000 sp_99 = true := by decide +kernel
theorem ck_100 : f_chkA (GGX [(27, [68]), (282, [87])] 100) 100 3000 sp_100 = true := by decide +kernel
theorem ck_101 : f_chkA (GGX [(27, [68])] 101) 101 3000 sp_101 = true := by decide +kernel
theorem ck_102 : f_chkA (GGX [(27, [68])] 102) 102 3000 sp_102 = true := by decide +kernel
theorem ck_103 : f_chkA (GGX [(27, [68]), (282, [87])] 103) 103 3000 sp_103 = true := by decide +kernel
theorem ck_104 : f_chkA (GGX [(27, [68])] 104) 104 3000 sp_104 = true := by decide +kernel
theorem ck_105 : f_chkA (GGX [(27, [68])] 105) 105 3000 sp_105 = true := by decide +kernel
theorem ck_106 : f_chkA (GGX [(27, [68]), (282, [87])] 106) 106 3000 sp_106 = true := by decide +kernel
theorem ck_107 : f_chkA (GGX [(27, [68])] 107) 107 3000 sp_107 = true := by decide +kernel
theorem ck_108 : f_chkA (GGX [(27, [68])] 108) 108 3000 sp_108 = true := by decide +kernel
theorem ck_109 : f_chkA (GGX [(27, [68]), (282, [87])] 109) 109 3000 sp_109 = true := by decide +kernel
theorem ck_110 : f_chkA (GGX [(27, [68])] 110) 110 3000 sp_110 = true := by decide +kernel
theorem ck_111 : f_chkA (GGX [(27, [68])] 111) 111 3000 sp_111 = true := by decide +kernel
theorem ck_112 : f_chkA (GGX [(27, [68]), (282, [87])] 112) 112 3000 sp_112 = true := by decide +kernel
theorem ck_113 : f_chkA (GGX [(27, [68])] 113) 113 3000 sp_113 = true := by decide +kernel
theorem ck_114 : f_chkA (GGX [(27, [68])] 114) 114 3000 sp_114 = true := by decide +kernel
theorem ck_115 : f_chkA (GGX [(286, [0])] 115) 115 3000 sp_115 = true := by decide +kernel
theorem ck_116 : f_chkA (GGX [] 116) 116 3000 sp_116 = true := by decide +kernel
theorem ck_117 : f_chkA (GGX [(23, [77]), (216, [80]), (256, [45])] 117) 117 3000 sp_117 = true := by decide +kernel
theorem ck_118 : f_chkA (GGX [] 118) 118 3000 sp_118 = true := by decide +kernel
theorem ck_119 : f_chkA (GGX [(268, [4, 5])] 119) 119 3000 sp_119 = true := by decide +kernel
theorem ck_120 : f_chkA (GGX [(253, [8, 9]), (254, [10, 11])] 120) 120 3000 sp_120 = true := by decide +kernel
theorem ck_121 : f_chkA (GGX [(233, [83]), (234, [82]), (275, [18, 19])] 121) 121 3000 sp_121 = true := by decide +kernel
theorem ck_122 : f_chkA (GGX [(233, [83]), (234, [82]), (273, [20, 21])] 122) 122 3000 sp_122 = true := by decide +kernel
theorem ck_123 : f_chkA (GGX [(233, [83]), (234, [82]), (257, [22, 23])] 123) 123 3000 sp_123 = true := by decide +kernel
