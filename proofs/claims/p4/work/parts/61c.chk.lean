/-! specs checked (written by wip/p41/gen4.py) -/
set_option maxRecDepth 1000000
theorem ck_55 : f_chkA (GGX [(285, [54])]) 55 3000 sp_55 = true := by decide +kernel
theorem ck_56 : f_chkA (GGX [(27, [39]), (29, [52]), (211, [49])]) 56 3000 sp_56 = true := by decide +kernel
theorem ck_57 : f_chkA (GGX []) 57 3000 sp_57 = true := by decide +kernel
theorem ck_58 : f_chkA (GGX [(27, [39])]) 58 3000 sp_58 = true := by decide +kernel
theorem ck_59 : f_chkA (GGX [(27, [39])]) 59 3000 sp_59 = true := by decide +kernel
theorem ck_60 : f_chkA (GGX [(27, [39]), (282, [56])]) 60 3000 sp_60 = true := by decide +kernel
theorem ck_61 : f_chkA (GGX [(27, [39])]) 61 3000 sp_61 = true := by decide +kernel
theorem ck_62 : f_chkA (GGX [(27, [39])]) 62 3000 sp_62 = true := by decide +kernel
theorem ck_63 : f_chkA (GGX [(27, [39]), (282, [56])]) 63 3000 sp_63 = true := by decide +kernel
theorem ck_64 : f_chkA (GGX [(27, [39])]) 64 3000 sp_64 = true := by decide +kernel
theorem ck_65 : f_chkA (GGX [(27, [39])]) 65 3000 sp_65 = true := by decide +kernel
theorem ck_66 : f_chkA (GGX [(27, [39]), (282, [56])]) 66 3000 sp_66 = true := by decide +kernel
theorem ck_67 : f_chkA (GGX [(27, [39])]) 67 3000 sp_67 = true := by decide +kernel
theorem ck_68 : f_chkA (GGX [(27, [39])]) 68 3000 sp_68 = true := by decide +kernel
theorem ck_69 : f_chkA (GGX [(27, [39]), (282, [56])]) 69 3000 sp_69 = true := by decide +kernel
theorem ck_70 : f_chkA (GGX [(27, [39])]) 70 3000 sp_70 = true := by decide +kernel
theorem ck_71 : f_chkA (GGX [(27, [39])]) 71 3000 sp_71 = true := by decide +kernel
theorem ck_72 : f_chkA (GGX [(27, [39]), (282, [56])]) 72 3000 sp_72 = true := by decide +kernel
theorem ck_73 : f_chkA (GGX [(27, [39])]) 73 3000 sp_73 = true := by decide +kernel
theorem ck_74 : f_chkA (GGX [(27, [39])]) 74 3000 sp_74 = true := by decide +kernel
theorem ck_75 : f_chkA (GGX [(27, [39]), (282, [56])]) 75 3000 sp_75 = true := by decide +kernel
theorem ck_76 : f_chkA (GGX [(27, [39])]) 76 3000 sp_76 = true := by decide +kernel
theorem ck_77 : f_chkA (GGX [(27, [39])]) 77 3000 sp_77 = true := by decide +kernel
theorem ck_78 : f_chkA (GGX [(27, [39]), (282, [56])]) 78 3000 sp_78 = true := by decide +kernel
theorem ck_79 : f_chkA (GGX [(27, [39])]) 79 3000 sp_79 = true := by decide +kernel
theorem ck_80 : f_chkA (GGX [(27, [39])]) 80 3000 sp_80 = true := by decide +kernel
theorem ck_81 : f_chkA (GGX [(27, [39]), (282, [56])]) 81 3000 sp_81 = true := by decide +kernel
theorem ck_82 : f_chkA (GGX [(27, [39])]) 82 3000 sp_82 = true := by decide +kernel
theorem ck_83 : f_chkA (GGX [(27, [39])]) 83 3000 sp_83 = true := by decide +kernel
theorem ck_84 : f_chkA (GGX [(286, [0])]) 84 3000 sp_84 = true := by decide +kernel
theorem ck_85 : f_chkA (GGX []) 85 3000 sp_85 = true := by decide +kernel
theorem ck_86 : f_chkA (GGX [(23, [48]), (216, [51]), (256, [18])]) 86 3000 sp_86 = true := by decide +kernel
theorem ck_87 : f_chkA (GGX []) 87 3000 sp_87 = true := by decide +kernel
theorem ck_88 : f_chkA (GGX [(268, [4])]) 88 3000 sp_88 = true := by decide +kernel
theorem ck_89 : f_chkA (GGX [(253, [6]), (254, [7])]) 89 3000 sp_89 = true := by decide +kernel
theorem ck_90 : f_chkA (GGX [(234, [53]), (275, [11])]) 90 3000 sp_90 = true := by decide +kernel
theorem ck_91 : f_chkA (GGX [(234, [53]), (273, [12])]) 91 3000 sp_91 = true := by decide +kernel
theorem ck_92 : f_chkA (GGX [(234, [53]), (257, [13])]) 92 3000 sp_92 = true := by decide +kernel
theorem ck_93 : f_chkA (GGX [(234, [53]), (272, [14])]) 93 3000 sp_93 = true := by decide +kernel
theorem ck_94 : f_chkA (GGX [(234, [53]), (261, [15])]) 94 3000 sp_94 = true := by decide +kernel
theorem ck_95 : f_chkA (GGX [(234, [53]), (274, [16])]) 95 3000 sp_95 = true := by decide +kernel
theorem ck_96 : f_chkA (GGX [(234, [53]), (270, [10])]) 96 3000 sp_96 = true := by decide +kernel
theorem ck_97 : f_chkA (GGX [(259, [17])]) 97 3000 sp_97 = true := by decide +kernel
theorem ck_98 : f_chkA (GGX [(262, [8]), (268, [4])]) 98 3000 sp_98 = true := by decide +kernel
theorem ck_99 : f_chkA (GGX [(243, [20])]) 99 3000 sp_99 = true := by decide +kernel
theorem ck_100 : f_chkA (GGX []) 100 3000 sp_100 = true := by decide +kernel
theorem ck_101 : f_chkA (GGX [(246, [21]), (268, [4])]) 101 3000 sp_101 = true := by decide +kernel
theorem ck_102 : f_chkA (GGX [(242, [24])]) 102 3000 sp_102 = true := by decide +kernel
theorem ck_103 : f_chkA (GGX []) 103 3000 sp_103 = true := by decide +kernel
theorem ck_104 : f_chkA (GGX []) 104 3000 sp_104 = true := by decide +kernel
theorem ck_105 : f_chkA (GGX []) 105 3000 sp_105 = true := by decide +kernel
theorem ck_106 : f_chkA (GGX [(241, [25])]) 106 3000 sp_106 = true := by decide +kernel
