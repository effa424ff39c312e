/-! a round of the law's loop (written by wip/p41/gen6.py) -/
def tbl : List INS := tbl_0 ++ (tbl_1 ++ (tbl_2 ++ (tbl_3 ++ (tbl_4 ++ (tbl_5 ++ (tbl_6 ++ (tbl_7 ++ (tbl_8 ++ (tbl_9 ++ (tbl_10 ++ (tbl_11 ++ (tbl_12 ++ (tbl_13 ++ (tbl_14 ++ (tbl_15 ++ (tbl_16 ++ (tbl_17 ++ (tbl_18 ++ (tbl_19 ++ (tbl_20 ++ (tbl_21 ++ (tbl_22 ++ (tbl_23 ++ (tbl_24 ++ (tbl_25 ++ (tbl_26 ++ (tbl_27 ++ (tbl_28 ++ (tbl_29 ++ (tbl_30 ++ (tbl_31 ++ (tbl_32 ++ (tbl_33 ++ (tbl_34 ++ (tbl_35)))))))))))))))))))))))))))))))))))
theorem tdl : d_chkL code tbl = true := d_app tdl_0 (d_app tdl_1 (d_app tdl_2 (d_app tdl_3 (d_app tdl_4 (d_app tdl_5 (d_app tdl_6 (d_app tdl_7 (d_app tdl_8 (d_app tdl_9 (d_app tdl_10 (d_app tdl_11 (d_app tdl_12 (d_app tdl_13 (d_app tdl_14 (d_app tdl_15 (d_app tdl_16 (d_app tdl_17 (d_app tdl_18 (d_app tdl_19 (d_app tdl_20 (d_app tdl_21 (d_app tdl_22 (d_app tdl_23 (d_app tdl_24 (d_app tdl_25 (d_app tdl_26 (d_app tdl_27 (d_app tdl_28 (d_app tdl_29 (d_app tdl_30 (d_app tdl_31 (d_app tdl_32 (d_app tdl_33 (d_app tdl_34 (tdl_35)))))))))))))))))))))))))))))))))))
def mt_law : MT := (yL_law, code, 7, some .boolean, (12, 0, 1, 99), (0, 0, 0, 0), tbl)
def FA6 : List SFt := [(30, []), (31, []), (32, []), (34, []), (35, []), (74, [])]
def E7 : EB := [(0, 0, 3066), (1, iMin, iMax), (2, iMin, iMax), (3, iMin, iMax), (4, iMin, iMax), (5, iMin, iMax), (6, iMin, iMax)]
def LO7 (d : Int) : List (Nat × BV) := [(0, bX 0), (1, bP 0 true none), (2, bP 25 true none), (3, bP 24 true none), (4, bV 0 d)]
def CUTL : List CUt' := [(23, LO7 6, [], (7, E7, [], FA6), (1000, 14000), ([], 0))]
def MKL : List (Nat × Nat × Nat) := [(23, 0, 0), (255, 1, 141), (293, 1, 142), (304, 1, 141), (317, 1, 142), (317, 1, 3), (331, 1, 142), (985, 1, 142), (1307, 1, 143), (1321, 1, 142), (1359, 1, 142)]
def WRL : WR := (List.range 64).map (fun k => (k, 0, 100000))
def DML : List (Nat × List Nat) := [(33, [91]), (35, [126, 127, 128]), (36, [112]), (37, [106]), (38, [107]), (39, [86]), (41, [120]), (42, [102]), (43, [103]), (44, [96]), (45, [113]), (46, [85]), (47, [87]), (48, [84]), (50, [98]), (51, [90]), (53, [118]), (56, [95]), (57, [88]), (58, [92]), (59, [110]), (60, [89]), (61, [114]), (63, [111]), (64, [93]), (65, [94]), (66, [108]), (67, [109]), (68, [119]), (69, [117]), (70, [99]), (71, [100]), (72, [116]), (73, [105]), (78, [134]), (79, [104]), (81, [115]), (82, [101]), (83, [97]), (85, [208]), (92, [223, 224, 225]), (94, [173]), (95, [170]), (96, [171]), (99, [205]), (102, [175]), (103, [166]), (104, [167]), (106, [161]), (110, [214]), (112, [141]), (113, [176]), (114, [140]), (117, [162]), (121, [157]), (125, [206]), (149, [209]), (152, [148]), (158, [158]), (160, [211]), (163, [149]), (165, [215]), (169, [147]), (170, [182]), (172, [159]), (174, [160]), (181, [180]), (182, [172]), (183, [207]), (184, [237]), (185, [163]), (186, [164]), (189, [234]), (190, [169]), (192, [210]), (194, [227]), (195, [168]), (200, [146]), (202, [174]), (204, [165]), (206, [153])]
def GGL : GT := (T2, PR2, RB2, DML, SPL, HKF, OXL)
def RML : RMt := (2000, 1000, 14000, 80000)
def law_chk : Bool := match f_run GGL 238 WRL 7 none CUTL MKL [] 3000 true 0 RML mt_law (e_suf tbl 33) (33, LO7 0, [], (7, E7, [], FA6), none, 0, 0) with | some [] => true | _ => false
set_option maxRecDepth 1000000 in
theorem law_ok : law_chk = true := by decide +kernel
theorem ln_spl : SPL.length = 238 := by decide +kernel
