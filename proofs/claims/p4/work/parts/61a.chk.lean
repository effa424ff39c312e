/-! specs checked (written by wip/p41/gen4.py) -/
set_option maxRecDepth 1000000
theorem ck_0 : f_chkA (GGX []) 0 3000 sp_0 = true := by decide +kernel
theorem ck_1 : f_chkA (GGX []) 1 3000 sp_1 = true := by decide +kernel
theorem ck_2 : f_chkA (GGX []) 2 3000 sp_2 = true := by decide +kernel
theorem ck_3 : f_chkA (GGX []) 3 3000 sp_3 = true := by decide +kernel
theorem ck_4 : f_chkA (GGX []) 4 3000 sp_4 = true := by decide +kernel
theorem ck_5 : f_chkA (GGX []) 5 3000 sp_5 = true := by decide +kernel
theorem ck_6 : f_chkA (GGX []) 6 3000 sp_6 = true := by decide +kernel
theorem ck_7 : f_chkA (GGX []) 7 3000 sp_7 = true := by decide +kernel
theorem ck_8 : f_chkA (GGX []) 8 3000 sp_8 = true := by decide +kernel
theorem ck_9 : f_chkA (GGX []) 9 3000 sp_9 = true := by decide +kernel
theorem ck_10 : f_chkA (GGX [(269, [9])]) 10 3000 sp_10 = true := by decide +kernel
theorem ck_11 : f_chkA (GGX []) 11 3000 sp_11 = true := by decide +kernel
theorem ck_12 : f_chkA (GGX [(262, [8]), (268, [4])]) 12 3000 sp_12 = true := by decide +kernel
theorem ck_13 : f_chkA (GGX []) 13 3000 sp_13 = true := by decide +kernel
theorem ck_14 : f_chkA (GGX []) 14 3000 sp_14 = true := by decide +kernel
theorem ck_15 : f_chkA (GGX []) 15 3000 sp_15 = true := by decide +kernel
theorem ck_16 : f_chkA (GGX []) 16 3000 sp_16 = true := by decide +kernel
theorem ck_17 : f_chkA (GGX []) 17 3000 sp_17 = true := by decide +kernel
theorem ck_18 : f_chkA (GGX []) 18 3000 sp_18 = true := by decide +kernel
theorem ck_19 : f_chkA (GGX []) 19 3000 sp_19 = true := by decide +kernel
theorem ck_20 : f_chkA (GGX [(240, [19]), (262, [8]), (268, [4])]) 20 3000 sp_20 = true := by decide +kernel
theorem ck_21 : f_chkA (GGX [(262, [8])]) 21 3000 sp_21 = true := by decide +kernel
theorem ck_22 : f_chkA (GGX [(262, [8]), (268, [4])]) 22 3000 sp_22 = true := by decide +kernel
theorem ck_23 : f_chkA (GGX [(246, [21])]) 23 3000 sp_23 = true := by decide +kernel
theorem ck_24 : f_chkA (GGX [(237, [23]), (240, [19]), (268, [4])]) 24 3000 sp_24 = true := by decide +kernel
theorem ck_25 : f_chkA (GGX [(240, [19]), (262, [8]), (268, [4])]) 25 3000 sp_25 = true := by decide +kernel
theorem ck_26 : f_chkA (GGX []) 26 3000 sp_26 = true := by decide +kernel
theorem ck_27 : f_chkA (GGX [(238, [26])]) 27 3000 sp_27 = true := by decide +kernel
theorem ck_28 : f_chkA (GGX [(245, [27])]) 28 3000 sp_28 = true := by decide +kernel
theorem ck_29 : f_chkA (GGX []) 29 3000 sp_29 = true := by decide +kernel
theorem ck_30 : f_chkA (GGX []) 30 3000 sp_30 = true := by decide +kernel
theorem ck_31 : f_chkA (GGX []) 31 3000 sp_31 = true := by decide +kernel
theorem ck_32 : f_chkA (GGX [(250, [30])]) 32 3000 sp_32 = true := by decide +kernel
theorem ck_33 : f_chkA (GGX [(247, [31]), (249, [29])]) 33 3000 sp_33 = true := by decide +kernel
theorem ck_34 : f_chkA (GGX [(248, [33]), (249, [29]), (251, [32]), (268, [4])]) 34 3000 sp_34 = true := by decide +kernel
theorem ck_35 : f_chkA (GGX [(257, [13]), (258, [5]), (261, [15]), (272, [14]), (274, [16]), (275, [11])]) 35 3000 sp_35 = true := by decide +kernel
theorem ck_36 : f_chkA (GGX [(231, [35]), (269, [9])]) 36 3000 sp_36 = true := by decide +kernel
theorem ck_37 : f_chkA (GGX []) 37 3000 sp_37 = true := by decide +kernel
theorem ck_38 : f_chkA (GGX [(76, [37])]) 38 3000 sp_38 = true := by decide +kernel
theorem ck_39 : f_chkA (GGX []) 39 3000 sp_39 = true := by decide +kernel
theorem ck_40 : f_chkA (GGX []) 40 3000 sp_40 = true := by decide +kernel
theorem ck_41 : f_chkA (GGX []) 41 3000 sp_41 = true := by decide +kernel
theorem ck_42 : f_chkA (GGX []) 42 3000 sp_42 = true := by decide +kernel
theorem ck_43 : f_chkA (GGX []) 43 3000 sp_43 = true := by decide +kernel
theorem ck_44 : f_chkA (GGX []) 44 3000 sp_44 = true := by decide +kernel
theorem ck_45 : f_chkA (GGX []) 45 3000 sp_45 = true := by decide +kernel
theorem ck_46 : f_chkA (GGX []) 46 3000 sp_46 = true := by decide +kernel
theorem ck_47 : f_chkA (GGX [(32, [46])]) 47 3000 sp_47 = true := by decide +kernel
theorem ck_48 : f_chkA (GGX [(17, [1]), (25, [47]), (27, [39])]) 48 3000 sp_48 = true := by decide +kernel
