/-! specs checked (written by wip/p41/gen4.py) -/
set_option maxRecDepth 1000000
theorem ck_0 : f_chkA (GGX [] 0) 0 3000 sp_0 = true := by decide +kernel
theorem ck_1 : f_chkA (GGX [] 1) 1 3000 sp_1 = true := by decide +kernel
theorem ck_2 : f_chkA (GGX [] 2) 2 3000 sp_2 = true := by decide +kernel
theorem ck_3 : f_chkA (GGX [] 3) 3 3000 sp_3 = true := by decide +kernel
theorem ck_4 : f_chkA (GGX [] 4) 4 3000 sp_4 = true := by decide +kernel
theorem ck_5 : f_chkA (GGX [] 5) 5 3000 sp_5 = true := by decide +kernel
theorem ck_6 : f_chkA (GGX [] 6) 6 3000 sp_6 = true := by decide +kernel
theorem ck_7 : f_chkA (GGX [] 7) 7 3000 sp_7 = true := by decide +kernel
theorem ck_8 : f_chkA (GGX [] 8) 8 3000 sp_8 = true := by decide +kernel
theorem ck_9 : f_chkA (GGX [] 9) 9 3000 sp_9 = true := by decide +kernel
theorem ck_10 : f_chkA (GGX [] 10) 10 3000 sp_10 = true := by decide +kernel
theorem ck_11 : f_chkA (GGX [] 11) 11 3000 sp_11 = true := by decide +kernel
theorem ck_12 : f_chkA (GGX [] 12) 12 3000 sp_12 = true := by decide +kernel
theorem ck_13 : f_chkA (GGX [] 13) 13 3000 sp_13 = true := by decide +kernel
theorem ck_14 : f_chkA (GGX [] 14) 14 3000 sp_14 = true := by decide +kernel
theorem ck_15 : f_chkA (GGX [] 15) 15 3000 sp_15 = true := by decide +kernel
theorem ck_16 : f_chkA (GGX [(269, [14, 15])] 16) 16 3000 sp_16 = true := by decide +kernel
theorem ck_17 : f_chkA (GGX [(269, [14, 15])] 17) 17 3000 sp_17 = true := by decide +kernel
theorem ck_18 : f_chkA (GGX [] 18) 18 3000 sp_18 = true := by decide +kernel
theorem ck_19 : f_chkA (GGX [] 19) 19 3000 sp_19 = true := by decide +kernel
theorem ck_20 : f_chkA (GGX [(262, [12, 13]), (268, [4, 5])] 20) 20 3000 sp_20 = true := by decide +kernel
theorem ck_21 : f_chkA (GGX [(262, [12, 13]), (268, [4, 5])] 21) 21 3000 sp_21 = true := by decide +kernel
theorem ck_22 : f_chkA (GGX [] 22) 22 3000 sp_22 = true := by decide +kernel
theorem ck_23 : f_chkA (GGX [] 23) 23 3000 sp_23 = true := by decide +kernel
theorem ck_24 : f_chkA (GGX [] 24) 24 3000 sp_24 = true := by decide +kernel
theorem ck_25 : f_chkA (GGX [] 25) 25 3000 sp_25 = true := by decide +kernel
theorem ck_26 : f_chkA (GGX [] 26) 26 3000 sp_26 = true := by decide +kernel
theorem ck_27 : f_chkA (GGX [] 27) 27 3000 sp_27 = true := by decide +kernel
theorem ck_28 : f_chkA (GGX [] 28) 28 3000 sp_28 = true := by decide +kernel
theorem ck_29 : f_chkA (GGX [] 29) 29 3000 sp_29 = true := by decide +kernel
theorem ck_30 : f_chkA (GGX [] 30) 30 3000 sp_30 = true := by decide +kernel
theorem ck_31 : f_chkA (GGX [] 31) 31 3000 sp_31 = true := by decide +kernel
theorem ck_32 : f_chkA (GGX [] 32) 32 3000 sp_32 = true := by decide +kernel
theorem ck_33 : f_chkA (GGX [] 33) 33 3000 sp_33 = true := by decide +kernel
theorem ck_34 : f_chkA (GGX [] 34) 34 3000 sp_34 = true := by decide +kernel
theorem ck_35 : f_chkA (GGX [] 35) 35 3000 sp_35 = true := by decide +kernel
theorem ck_36 : f_chkA (GGX [] 36) 36 3000 sp_36 = true := by decide +kernel
theorem ck_37 : f_chkA (GGX [] 37) 37 3000 sp_37 = true := by decide +kernel
theorem ck_38 : f_chkA (GGX [] 38) 38 3000 sp_38 = true := by decide +kernel
theorem ck_39 : f_chkA (GGX [] 39) 39 3000 sp_39 = true := by decide +kernel
theorem ck_40 : f_chkA (GGX [] 40) 40 3000 sp_40 = true := by decide +kernel
theorem ck_41 : f_chkA (GGX [] 41) 41 3000 sp_41 = true := by decide +kernel
theorem ck_42 : f_chkA (GGX [] 42) 42 3000 sp_42 = true := by decide +kernel
theorem ck_43 : f_chkA (GGX [] 43) 43 3000 sp_43 = true := by decide +kernel
theorem ck_44 : f_chkA (GGX [] 44) 44 3000 sp_44 = true := by decide +kernel
theorem ck_45 : f_chkA (GGX [] 45) 45 3000 sp_45 = true := by decide +kernel
theorem ck_46 : f_chkA (GGX [] 46) 46 3000 sp_46 = true := by decide +kernel
theorem ck_47 : f_chkA (GGX [(240, [46]), (262, [12, 13]), (268, [4, 5])] 47) 47 3000 sp_47 = true := by decide +kernel
theorem ck_48 : f_chkA (GGX [(262, [12, 13])] 48) 48 3000 sp_48 = true := by decide +kernel
theorem ck_49 : f_chkA (GGX [(262, [12, 13]), (268, [4, 5])] 49) 49 3000 sp_49 = true := by decide +kernel
theorem ck_50 : f_chkA (GGX [(246, [48])] 50) 50 3000 sp_50 = true := by decide +kernel
theorem ck_51 : f_chkA (GGX [(237, [50]), (240, [46]), (268, [4, 5])] 51) 51 3000 sp_51 = true := by decide +kernel
theorem ck_52 : f_chkA (GGX [(240, [46]), (262, [12, 13]), (268, [4, 5])] 52) 52 3000 sp_52 = true := by decide +kernel
theorem ck_53 : f_chkA (GGX [] 53) 53 3000 sp_53 = true := by decide +kernel
theorem ck_54 : f_chkA (GGX [(238, [53])] 54) 54 3000 sp_54 = true := by decide +kernel
theorem ck_55 : f_chkA (GGX [(245, [54])] 55) 55 3000 sp_55 = true := by decide +kernel
theorem ck_56 : f_chkA (GGX [] 56) 56 3000 sp_56 = true := by decide +kernel
theorem ck_57 : f_chkA (GGX [] 57) 57 3000 sp_57 = true := by decide +kernel
theorem ck_58 : f_chkA (GGX [] 58) 58 3000 sp_58 = true := by decide +kernel
theorem ck_59 : f_chkA (GGX [(250, [57])] 59) 59 3000 sp_59 = true := by decide +kernel
theorem ck_60 : f_chkA (GGX [(247, [58]), (249, [56])] 60) 60 3000 sp_60 = true := by decide +kernel
theorem ck_61 : f_chkA (GGX [(248, [60]), (249, [56]), (251, [59]), (268, [4, 5])] 61) 61 3000 sp_61 = true := by decide +kernel
theorem ck_62 : f_chkA (GGX [(257, [22, 23]), (258, [6, 7]), (261, [26, 27]), (272, [24, 25]), (274, [28, 29]), (275, [18, 19])] 62) 62 3000 sp_62 = true := by decide +kernel
theorem ck_63 : f_chkA (GGX [(257, [22, 23]), (258, [6, 7]), (261, [26, 27]), (272, [24, 25]), (274, [28, 29]), (275, [18, 19])] 63) 63 3000 sp_63 = true := by decide +kernel
theorem ck_64 : f_chkA (GGX [(231, [62, 63]), (269, [14, 15])] 64) 64 3000 sp_64 = true := by decide +kernel
theorem ck_65 : f_chkA (GGX [(231, [62, 63]), (269, [14, 15])] 65) 65 3000 sp_65 = true := by decide +kernel
theorem ck_66 : f_chkA (GGX [] 66) 66 3000 sp_66 = true := by decide +kernel
theorem ck_67 : f_chkA (GGX [(76, [66])] 67) 67 3000 sp_67 = true := by decide +kernel
theorem ck_68 : f_chkA (GGX [] 68) 68 3000 sp_68 = true := by decide +kernel
theorem ck_69 : f_chkA (GGX [] 69) 69 3000 sp_69 = true := by decide +kernel
theorem ck_70 : f_chkA (GGX [] 70) 70 3000 sp_70 = true := by decide +kernel
theorem ck_71 : f_chkA (GGX [] 71) 71 3000 sp_71 = true := by decide +kernel
theorem ck_72 : f_chkA (GGX [] 72) 72 3000 sp_72 = true := by decide +kernel
theorem ck_73 : f_chkA (GGX [] 73) 73 3000 sp_73 = true := by decide +kernel
theorem ck_74 : f_chkA (GGX [] 74) 74 3000 sp_74 = true := by decide +kernel
theorem ck_75 : f_chkA (GGX [] 75) 75 3000 sp_75 = true := by decide +kernel
theorem ck_76 : f_chkA (GGX [(32, [75])] 76) 76 3000 sp_76 = true := by decide +kernel
theorem ck_77 : f_chkA (GGX [(17, [1]), (25, [76]), (27, [68])] 77) 77 3000 sp_77 = true := by decide +kernel
