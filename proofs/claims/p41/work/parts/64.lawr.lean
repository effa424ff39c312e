/-! a round of the law's loop (written by wip/p41/gen6.py) -/
def tbl : List INS := tbl_0 ++ (tbl_1 ++ (tbl_2 ++ (tbl_3 ++ (tbl_4 ++ (tbl_5 ++ (tbl_6 ++ (tbl_7 ++ (tbl_8 ++ (tbl_9 ++ (tbl_10 ++ (tbl_11 ++ (tbl_12 ++ (tbl_13 ++ (tbl_14 ++ (tbl_15 ++ (tbl_16 ++ (tbl_17 ++ (tbl_18 ++ (tbl_19 ++ (tbl_20 ++ (tbl_21 ++ (tbl_22 ++ (tbl_23 ++ (tbl_24 ++ (tbl_25 ++ (tbl_26 ++ (tbl_27 ++ (tbl_28 ++ (tbl_29 ++ (tbl_30 ++ (tbl_31 ++ (tbl_32 ++ (tbl_33 ++ (tbl_34 ++ (tbl_35)))))))))))))))))))))))))))))))))))
theorem tdl : d_chkL code tbl = true := d_app tdl_0 (d_app tdl_1 (d_app tdl_2 (d_app tdl_3 (d_app tdl_4 (d_app tdl_5 (d_app tdl_6 (d_app tdl_7 (d_app tdl_8 (d_app tdl_9 (d_app tdl_10 (d_app tdl_11 (d_app tdl_12 (d_app tdl_13 (d_app tdl_14 (d_app tdl_15 (d_app tdl_16 (d_app tdl_17 (d_app tdl_18 (d_app tdl_19 (d_app tdl_20 (d_app tdl_21 (d_app tdl_22 (d_app tdl_23 (d_app tdl_24 (d_app tdl_25 (d_app tdl_26 (d_app tdl_27 (d_app tdl_28 (d_app tdl_29 (d_app tdl_30 (d_app tdl_31 (d_app tdl_32 (d_app tdl_33 (d_app tdl_34 (tdl_35)))))))))))))))))))))))))))))))))))
def mt_law : MT := (yL_law, code, 7, some .boolean, (12, 0, 1, 99), (0, 0, 0, 0), tbl)
def FA6 : List SFt := [(30, []), (31, []), (32, []), (34, []), (35, []), (74, [])]
def E7 : EB := [(0, 0, 3066), (1, iMin, iMax), (2, iMin, iMax), (3, iMin, iMax), (4, iMin, iMax), (5, iMin, iMax), (6, iMin, iMax)]
def LO7 (d : Int) : List (Nat × BV) := [(0, bX 0), (1, bP 0 true none), (2, bP 25 true none), (3, bP 24 true none), (4, bV 0 d)]
def CUTL : List CUt' := [(23, LO7 6, [], (7, E7, [], FA6), (1000, 14000), ([], 0))]
def MKL : List (Nat × Nat × Nat) := [(23, 0, 0), (290, 1, 140), (315, 1, 140)]
def WRL : WR := (List.range 64).map (fun k => (k, 0, 100000))
def DML : List (Nat × List Nat) := [(33, [91]), (35, [126]), (36, [112]), (37, [106]), (38, [107]), (39, [86]), (41, [120]), (42, [102]), (43, [103]), (44, [96]), (45, [113]), (46, [85]), (47, [87]), (48, [84]), (50, [98]), (51, [90]), (53, [118]), (56, [95]), (57, [88]), (58, [92]), (59, [110]), (60, [89]), (61, [114]), (63, [111]), (64, [93]), (65, [94]), (66, [108]), (67, [109]), (68, [119]), (69, [117]), (70, [99]), (71, [100]), (72, [116]), (73, [105]), (78, [132]), (79, [104]), (81, [115]), (82, [101]), (83, [97]), (85, [206]), (92, [221]), (94, [171]), (95, [168]), (96, [169]), (99, [203]), (102, [173]), (103, [164]), (104, [165]), (106, [159]), (110, [212]), (112, [139]), (113, [174]), (114, [138]), (117, [160]), (121, [155]), (125, [204]), (149, [207]), (152, [146]), (158, [156]), (160, [209]), (163, [147]), (165, [213]), (169, [145]), (170, [180]), (172, [157]), (174, [158]), (181, [178]), (182, [170]), (183, [205]), (184, [233]), (185, [161]), (186, [162]), (189, [230]), (190, [167]), (192, [208]), (194, [223]), (195, [166]), (200, [144]), (202, [172]), (204, [163]), (206, [151])]
def GGL : GT := (T2, PR2, RB2, DML, SPL, HKF, OXL)
def RML : RMt := (2000, 1000, 14000, 80000)
def law_chk : Bool := match f_run GGL 234 WRL 7 none CUTL MKL [] 3000 true 0 RML mt_law (e_suf tbl 33) (33, LO7 0, [], (7, E7, [], FA6), none, 0, 0) with | some [] => true | _ => false
set_option maxRecDepth 1000000 in
theorem law_ok : law_chk = true := by decide +kernel
theorem ln_spl : SPL.length = 234 := by decide +kernel
