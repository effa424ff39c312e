/-! the makers, and the first steps of the law, for the first engine (written by wip/p41/gen1.py) -/
def tb_X0_init : List INS := [(0, 0, .aload_n 0, 1), (1, 2, .invokespecial 3, 3), (4, 0, .aload_n 0, 1), (5, 0, .bipush 40, 2), (7, 2, .newarray .int, 2), (9, 2, .putfield 9, 3), (12, 0, .aload_n 0, 1), (13, 0, .bipush 40, 2), (15, 2, .newarray .int, 2), (17, 2, .putfield 15, 3), (20, 0, .aload_n 0, 1), (21, 0, .bipush 40, 2), (23, 2, .newarray .int, 2), (25, 2, .putfield 18, 3), (28, 0, .aload_n 0, 1), (29, 0, .bipush 40, 2), (31, 2, .newarray .int, 2), (33, 2, .putfield 21, 3), (36, 0, .aload_n 0, 1), (37, 0, .iconst 0, 1), (38, 2, .putfield 24, 3), (41, 0, .aload_n 0, 1), (42, 0, .iconst 4, 1), (43, 2, .newarray .int, 2), (45, 0, .dup, 1), (46, 0, .iconst 0, 1), (47, 0, .iconst (-1), 1), (48, 3, .iastore, 1), (49, 0, .dup, 1), (50, 0, .iconst 1, 1), (51, 0, .iconst (-1), 1), (52, 3, .iastore, 1), (53, 0, .dup, 1), (54, 0, .iconst 2, 1), (55, 0, .iconst (-1), 1), (56, 3, .iastore, 1), (57, 0, .dup, 1), (58, 0, .iconst 3, 1), (59, 0, .iconst (-1), 1), (60, 3, .iastore, 1), (61, 2, .putfield 28, 3), (64, 5, .return_, 1)]
def mt_X0_init : MT := (yX0_init, cX0_init, 1, none, (1, 2, 0, 0), (1, 5, 164, 12), tb_X0_init)
def tb_X10_init : List INS := [(0, 0, .aload_n 0, 1), (1, 2, .invokespecial 3, 3), (4, 0, .aload_n 0, 1), (5, 0, .sipush 941, 3), (8, 2, .newarray .int, 2), (10, 2, .putfield 9, 3), (13, 0, .aload_n 0, 1), (14, 0, .sipush 941, 3), (17, 2, .newarray .int, 2), (19, 2, .putfield 15, 3), (22, 0, .aload_n 0, 1), (23, 0, .sipush 941, 3), (26, 2, .newarray .long, 2), (28, 2, .putfield 18, 3), (31, 0, .aload_n 0, 1), (32, 0, .iconst 0, 1), (33, 2, .putfield 22, 3), (36, 0, .aload_n 0, 1), (37, 0, .iconst 0, 1), (38, 2, .putfield 26, 3), (41, 0, .aload_n 0, 1), (42, 0, .iconst 0, 1), (43, 2, .putfield 29, 3), (46, 0, .aload_n 0, 1), (47, 0, .iconst 0, 1), (48, 2, .putfield 32, 3), (51, 0, .aload_n 0, 1), (52, 0, .lconst 0, 1), (53, 2, .putfield 35, 3), (56, 0, .aload_n 0, 1), (57, 0, .iconst 0, 1), (58, 2, .putfield 39, 3), (61, 0, .aload_n 0, 1), (62, 0, .iconst 0, 1), (63, 2, .putfield 42, 3), (66, 0, .aload_n 0, 1), (67, 0, .aload_n 1, 1), (68, 2, .putfield 45, 3), (71, 5, .return_, 1)]
def mt_X10_init : MT := (yX10_init, cX10_init, 2, none, (11, 2, 1, 9), (1, 3, 2823, 12), tb_X10_init)
def tc_X11_init_0 : List INS := [(0, 0, .aload_n 0, 1), (1, 2, .invokespecial 1, 3), (4, 0, .aload_n 0, 1), (5, 2, .new 7, 3), (8, 0, .dup, 1), (9, 4, .invokespecial 9, 3), (12, 2, .putfield 10, 3), (15, 0, .aload_n 0, 1), (16, 2, .new 16, 3), (19, 0, .dup, 1), (20, 0, .aload_n 0, 1), (21, 2, .getfield 10, 3), (24, 4, .invokespecial 18, 3), (27, 2, .putfield 21, 3), (30, 0, .aload_n 0, 1), (31, 2, .new 25, 3), (34, 0, .dup, 1), (35, 2, .new 27, 3), (38, 0, .dup, 1), (39, 4, .invokespecial 29, 3), (42, 4, .invokespecial 30, 3), (45, 2, .putfield 33, 3), (48, 0, .aload_n 0, 1), (49, 2, .new 25, 3), (52, 0, .dup, 1)]
def tc_X11_init_1 : List INS := [(53, 0, .aload_n 0, 1), (54, 2, .getfield 33, 3), (57, 2, .getfield 37, 3), (60, 4, .invokespecial 30, 3), (63, 2, .putfield 41, 3), (66, 0, .aload_n 0, 1), (67, 2, .new 44, 3), (70, 0, .dup, 1), (71, 4, .invokespecial 46, 3), (74, 2, .putfield 47, 3), (77, 0, .aload_n 0, 1), (78, 2, .new 51, 3), (81, 0, .dup, 1), (82, 4, .invokespecial 53, 3), (85, 2, .putfield 54, 3), (88, 0, .aload_n 0, 1), (89, 2, .new 58, 3), (92, 0, .dup, 1), (93, 4, .invokespecial 60, 3), (96, 2, .putfield 61, 3), (99, 0, .aload_n 0, 1), (100, 2, .new 65, 3), (103, 0, .dup, 1), (104, 4, .invokespecial 67, 3), (107, 2, .putfield 68, 3)]
def tc_X11_init_2 : List INS := [(110, 0, .aload_n 0, 1), (111, 2, .new 72, 3), (114, 0, .dup, 1), (115, 4, .invokespecial 74, 3), (118, 2, .putfield 75, 3), (121, 0, .aload_n 0, 1), (122, 0, .iconst 2, 1), (123, 2, .anewarray 25, 3), (126, 2, .putfield 79, 3), (129, 0, .aload_n 0, 1), (130, 0, .iconst 2, 1), (131, 2, .anewarray 83, 3), (134, 2, .putfield 85, 3), (137, 0, .aload_n 0, 1), (138, 0, .bipush 96, 2), (140, 2, .newarray .byte, 2), (142, 2, .putfield 89, 3), (145, 0, .aload_n 0, 1), (146, 0, .iconst 0, 1), (147, 2, .putfield 93, 3), (150, 0, .aload_n 0, 1), (151, 0, .aconst_null, 1), (152, 2, .putfield 97, 3), (155, 0, .aload_n 0, 1), (156, 0, .iconst 0, 1)]
def tc_X11_init_3 : List INS := [(157, 2, .putfield 101, 3), (160, 0, .aload_n 0, 1), (161, 0, .iconst (-1), 1), (162, 2, .putfield 104, 3), (165, 0, .aload_n 0, 1), (166, 0, .iconst (-1), 1), (167, 2, .putfield 107, 3), (170, 0, .aload_n 0, 1), (171, 0, .iconst (-1), 1), (172, 2, .putfield 110, 3), (175, 5, .return_, 1)]
def tb_X11_init : List INS := tc_X11_init_0 ++ (tc_X11_init_1 ++ (tc_X11_init_2 ++ (tc_X11_init_3)))
def mt_X11_init : MT := (yX11_init, cX11_init, 1, none, (0, 2, 0, 10), (2, 45, 4285, 33), tb_X11_init)
def tb_X12_clears : List INS := [(0, 0, .iconst 0, 1), (1, 0, .istore_n 1, 1), (2, 0, .iload_n 1, 1), (3, 0, .bipush 43, 2), (5, 1, .if_icmp .ge 16, 3), (8, 0, .aload_n 0, 1), (9, 2, .getfield 41, 3), (12, 0, .iload_n 1, 1), (13, 0, .iconst 0, 1), (14, 3, .iastore, 1), (15, 0, .iinc 1 1, 3), (18, 1, .goto (-16), 3), (21, 0, .aload_n 0, 1), (22, 2, .getfield 41, 3), (25, 0, .iconst 4, 1), (26, 0, .iconst 3, 1), (27, 3, .iastore, 1), (28, 0, .aload_n 0, 1), (29, 2, .getfield 41, 3), (32, 0, .iconst 5, 1), (33, 0, .iconst 1, 1), (34, 3, .iastore, 1), (35, 0, .aload_n 0, 1), (36, 2, .getfield 41, 3), (39, 0, .bipush 6, 2), (41, 0, .iconst 2, 1), (42, 3, .iastore, 1), (43, 0, .aload_n 0, 1), (44, 2, .getfield 41, 3), (47, 0, .bipush 7, 2), (49, 0, .iconst 5, 1), (50, 3, .iastore, 1), (51, 5, .return_, 1)]
def mt_X12_clears : MT := (yX12_clears, cX12_clears, 2, none, (13, 1, 0, 11), (0, 0, 0, 0), tb_X12_clears)
def tc_X12_init_0 : List INS := [(0, 0, .aload_n 0, 1), (1, 2, .invokespecial 31, 3), (4, 0, .aload_n 0, 1), (5, 0, .sipush 940, 3), (8, 2, .newarray .byte, 2), (10, 2, .putfield 14, 3), (13, 0, .aload_n 0, 1), (14, 0, .sipush 269, 3), (17, 2, .newarray .int, 2), (19, 2, .putfield 37, 3), (22, 0, .aload_n 0, 1), (23, 0, .bipush 43, 2), (25, 2, .newarray .int, 2), (27, 2, .putfield 41, 3), (30, 0, .aload_n 0, 1), (31, 0, .sipush 160, 3), (34, 2, .newarray .int, 2), (36, 2, .putfield 44, 3), (39, 0, .aload_n 0, 1), (40, 0, .bipush 56, 2), (42, 2, .newarray .long, 2), (44, 2, .putfield 47, 3), (47, 0, .aload_n 0, 1), (48, 0, .bipush 29, 2), (50, 2, .newarray .long, 2)]
def tc_X12_init_1 : List INS := [(52, 2, .putfield 51, 3), (55, 0, .aload_n 0, 1), (56, 0, .sipush 360, 3), (59, 2, .newarray .int, 2), (61, 2, .putfield 54, 3), (64, 0, .aload_n 0, 1), (65, 0, .bipush 45, 2), (67, 2, .newarray .int, 2), (69, 2, .putfield 57, 3), (72, 0, .aload_n 0, 1), (73, 0, .bipush 10, 2), (75, 2, .newarray .int, 2), (77, 2, .putfield 60, 3), (80, 0, .aload_n 0, 1), (81, 0, .bipush 8, 2), (83, 2, .newarray .int, 2), (85, 2, .putfield 63, 3), (88, 0, .aload_n 0, 1), (89, 0, .bipush 8, 2), (91, 2, .newarray .int, 2), (93, 2, .putfield 66, 3), (96, 0, .aload_n 0, 1), (97, 0, .bipush 96, 2), (99, 2, .newarray .byte, 2), (101, 2, .putfield 69, 3)]
def tc_X12_init_2 : List INS := [(104, 0, .aload_n 0, 1), (105, 0, .iconst 4, 1), (106, 2, .newarray .int, 2), (108, 2, .putfield 72, 3), (111, 0, .aload_n 0, 1), (112, 0, .bipush 45, 2), (114, 2, .newarray .int, 2), (116, 2, .putfield 75, 3), (119, 0, .aload_n 0, 1), (120, 0, .bipush 45, 2), (122, 2, .newarray .boolean, 2), (124, 2, .putfield 78, 3), (127, 0, .aload_n 0, 1), (128, 0, .sipush 538, 3), (131, 2, .newarray .int, 2), (133, 2, .putfield 82, 3), (136, 0, .aload_n 0, 1), (137, 0, .bipush 56, 2), (139, 2, .newarray .long, 2), (141, 2, .putfield 85, 3), (144, 0, .aload_n 0, 1), (145, 0, .iconst 2, 1), (146, 2, .newarray .boolean, 2), (148, 2, .putfield 88, 3), (151, 0, .aload_n 0, 1)]
def tc_X12_init_3 : List INS := [(152, 2, .getfield 51, 3), (155, 0, .iconst 0, 1), (156, 2, .ldc2_w 91, 3), (159, 3, .lastore, 1), (160, 0, .aload_n 0, 1), (161, 2, .getfield 51, 3), (164, 0, .iconst 1, 1), (165, 2, .ldc2_w 93, 3), (168, 3, .lastore, 1), (169, 0, .aload_n 0, 1), (170, 2, .getfield 51, 3), (173, 0, .iconst 2, 1), (174, 2, .ldc2_w 95, 3), (177, 3, .lastore, 1), (178, 0, .aload_n 0, 1), (179, 2, .getfield 51, 3), (182, 0, .iconst 3, 1), (183, 2, .ldc2_w 97, 3), (186, 3, .lastore, 1), (187, 0, .aload_n 0, 1), (188, 2, .getfield 51, 3), (191, 0, .iconst 4, 1), (192, 2, .ldc2_w 99, 3), (195, 3, .lastore, 1), (196, 0, .aload_n 0, 1)]
def tc_X12_init_4 : List INS := [(197, 2, .getfield 51, 3), (200, 0, .iconst 5, 1), (201, 2, .ldc2_w 101, 3), (204, 3, .lastore, 1), (205, 0, .aload_n 0, 1), (206, 2, .getfield 51, 3), (209, 0, .bipush 6, 2), (211, 2, .ldc2_w 103, 3), (214, 3, .lastore, 1), (215, 0, .aload_n 0, 1), (216, 2, .getfield 51, 3), (219, 0, .bipush 7, 2), (221, 2, .ldc2_w 105, 3), (224, 3, .lastore, 1), (225, 0, .aload_n 0, 1), (226, 2, .getfield 51, 3), (229, 0, .bipush 8, 2), (231, 2, .ldc2_w 107, 3), (234, 3, .lastore, 1), (235, 0, .aload_n 0, 1), (236, 2, .getfield 51, 3), (239, 0, .bipush 9, 2), (241, 2, .ldc2_w 109, 3), (244, 3, .lastore, 1), (245, 0, .aload_n 0, 1)]
def tc_X12_init_5 : List INS := [(246, 2, .getfield 51, 3), (249, 0, .bipush 10, 2), (251, 2, .ldc2_w 111, 3), (254, 3, .lastore, 1), (255, 0, .aload_n 0, 1), (256, 2, .getfield 51, 3), (259, 0, .bipush 11, 2), (261, 2, .ldc2_w 113, 3), (264, 3, .lastore, 1), (265, 0, .aload_n 0, 1), (266, 2, .getfield 51, 3), (269, 0, .bipush 12, 2), (271, 2, .ldc2_w 115, 3), (274, 3, .lastore, 1), (275, 0, .aload_n 0, 1), (276, 2, .getfield 51, 3), (279, 0, .bipush 13, 2), (281, 2, .ldc2_w 117, 3), (284, 3, .lastore, 1), (285, 0, .aload_n 0, 1), (286, 2, .getfield 51, 3), (289, 0, .bipush 14, 2), (291, 2, .ldc2_w 119, 3), (294, 3, .lastore, 1), (295, 0, .aload_n 0, 1)]
def tc_X12_init_6 : List INS := [(296, 2, .getfield 51, 3), (299, 0, .bipush 15, 2), (301, 2, .ldc2_w 121, 3), (304, 3, .lastore, 1), (305, 0, .aload_n 0, 1), (306, 2, .getfield 51, 3), (309, 0, .bipush 16, 2), (311, 2, .ldc2_w 123, 3), (314, 3, .lastore, 1), (315, 0, .aload_n 0, 1), (316, 2, .getfield 51, 3), (319, 0, .bipush 17, 2), (321, 2, .ldc2_w 125, 3), (324, 3, .lastore, 1), (325, 0, .aload_n 0, 1), (326, 2, .getfield 51, 3), (329, 0, .bipush 18, 2), (331, 2, .ldc2_w 127, 3), (334, 3, .lastore, 1), (335, 0, .aload_n 0, 1), (336, 2, .getfield 51, 3), (339, 0, .bipush 19, 2), (341, 2, .ldc2_w 129, 3), (344, 3, .lastore, 1), (345, 0, .aload_n 0, 1)]
def tc_X12_init_7 : List INS := [(346, 2, .getfield 51, 3), (349, 0, .bipush 20, 2), (351, 2, .ldc2_w 131, 3), (354, 3, .lastore, 1), (355, 0, .aload_n 0, 1), (356, 2, .getfield 51, 3), (359, 0, .bipush 21, 2), (361, 2, .ldc2_w 133, 3), (364, 3, .lastore, 1), (365, 0, .aload_n 0, 1), (366, 2, .getfield 51, 3), (369, 0, .bipush 22, 2), (371, 2, .ldc2_w 135, 3), (374, 3, .lastore, 1), (375, 0, .aload_n 0, 1), (376, 2, .getfield 51, 3), (379, 0, .bipush 23, 2), (381, 2, .ldc2_w 137, 3), (384, 3, .lastore, 1), (385, 0, .aload_n 0, 1), (386, 2, .getfield 51, 3), (389, 0, .bipush 24, 2), (391, 2, .ldc2_w 139, 3), (394, 3, .lastore, 1), (395, 0, .aload_n 0, 1)]
def tc_X12_init_8 : List INS := [(396, 2, .getfield 51, 3), (399, 0, .bipush 25, 2), (401, 2, .ldc2_w 141, 3), (404, 3, .lastore, 1), (405, 0, .aload_n 0, 1), (406, 2, .getfield 51, 3), (409, 0, .bipush 26, 2), (411, 2, .ldc2_w 143, 3), (414, 3, .lastore, 1), (415, 0, .aload_n 0, 1), (416, 2, .getfield 51, 3), (419, 0, .bipush 27, 2), (421, 2, .ldc2_w 145, 3), (424, 3, .lastore, 1), (425, 0, .aload_n 0, 1), (426, 2, .getfield 51, 3), (429, 0, .bipush 28, 2), (431, 2, .ldc2_w 147, 3), (434, 3, .lastore, 1), (435, 0, .aload_n 0, 1), (436, 4, .invokevirtual 149, 3), (439, 0, .iconst 0, 1), (440, 0, .istore_n 1, 1), (441, 0, .iload_n 1, 1), (442, 0, .bipush 43, 2)]
def tc_X12_init_9 : List INS := [(444, 1, .if_icmp .ge 21, 3), (447, 0, .aload_n 0, 1), (448, 2, .getfield 37, 3), (451, 0, .iload_n 1, 1), (452, 0, .aload_n 0, 1), (453, 2, .getfield 41, 3), (456, 0, .iload_n 1, 1), (457, 3, .iaload, 1), (458, 3, .iastore, 1), (459, 0, .iinc 1 1, 3), (462, 1, .goto (-21), 3), (465, 5, .return_, 1)]
def tb_X12_init : List INS := tc_X12_init_0 ++ (tc_X12_init_1 ++ (tc_X12_init_2 ++ (tc_X12_init_3 ++ (tc_X12_init_4 ++ (tc_X12_init_5 ++ (tc_X12_init_6 ++ (tc_X12_init_7 ++ (tc_X12_init_8 ++ (tc_X12_init_9)))))))))
def mt_X12_init : MT := (yX12_init, cX12_init, 2, none, (13, 2, 0, 11), (1, 18, 2714, 21), tb_X12_init)
def tc_X1_init_0 : List INS := [(0, 0, .aload_n 0, 1), (1, 2, .invokespecial 3, 3), (4, 0, .aload_n 0, 1), (5, 0, .bipush 8, 2), (7, 2, .newarray .int, 2), (9, 0, .dup, 1), (10, 0, .iconst 0, 1), (11, 0, .iconst 0, 1), (12, 3, .iastore, 1), (13, 0, .dup, 1), (14, 0, .iconst 1, 1), (15, 0, .iconst 0, 1), (16, 3, .iastore, 1), (17, 0, .dup, 1), (18, 0, .iconst 2, 1), (19, 0, .iconst 0, 1), (20, 3, .iastore, 1), (21, 0, .dup, 1), (22, 0, .iconst 3, 1), (23, 0, .iconst 0, 1), (24, 3, .iastore, 1), (25, 0, .dup, 1), (26, 0, .iconst 4, 1), (27, 0, .iconst 3, 1), (28, 3, .iastore, 1)]
def tc_X1_init_1 : List INS := [(29, 0, .dup, 1), (30, 0, .iconst 5, 1), (31, 0, .iconst 1, 1), (32, 3, .iastore, 1), (33, 0, .dup, 1), (34, 0, .bipush 6, 2), (36, 0, .iconst 2, 1), (37, 3, .iastore, 1), (38, 0, .dup, 1), (39, 0, .bipush 7, 2), (41, 0, .iconst 5, 1), (42, 3, .iastore, 1), (43, 2, .putfield 9, 3), (46, 0, .aload_n 0, 1), (47, 0, .bipush 40, 2), (49, 2, .newarray .long, 2), (51, 2, .putfield 15, 3), (54, 0, .aload_n 0, 1), (55, 0, .bipush 8, 2), (57, 2, .newarray .int, 2), (59, 2, .putfield 19, 3), (62, 0, .aload_n 0, 1), (63, 0, .bipush 8, 2), (65, 2, .newarray .int, 2), (67, 2, .putfield 22, 3)]
def tc_X1_init_2 : List INS := [(70, 0, .aload_n 0, 1), (71, 0, .bipush 6, 2), (73, 2, .newarray .int, 2), (75, 2, .putfield 25, 3), (78, 0, .aload_n 0, 1), (79, 0, .bipush 6, 2), (81, 2, .newarray .int, 2), (83, 2, .putfield 28, 3), (86, 0, .aload_n 0, 1), (87, 0, .bipush 6, 2), (89, 2, .newarray .int, 2), (91, 2, .putfield 31, 3), (94, 0, .aload_n 0, 1), (95, 0, .iconst 0, 1), (96, 2, .putfield 34, 3), (99, 0, .aload_n 0, 1), (100, 0, .iconst 0, 1), (101, 2, .putfield 38, 3), (104, 5, .return_, 1)]
def tb_X1_init : List INS := tc_X1_init_0 ++ (tc_X1_init_1 ++ (tc_X1_init_2))
def mt_X1_init : MT := (yX1_init, cX1_init, 1, none, (2, 2, 0, 1), (1, 7, 82, 12), tb_X1_init)
def tb_X2_init : List INS := [(0, 0, .aload_n 0, 1), (1, 2, .invokespecial 3, 3), (4, 0, .aload_n 0, 1), (5, 0, .bipush 8, 2), (7, 2, .newarray .int, 2), (9, 2, .putfield 9, 3), (12, 0, .aload_n 0, 1), (13, 0, .iconst (-1), 1), (14, 2, .putfield 15, 3), (17, 0, .aload_n 0, 1), (18, 0, .iconst (-1), 1), (19, 2, .putfield 19, 3), (22, 5, .return_, 1)]
def mt_X2_init : MT := (yX2_init, cX2_init, 1, none, (3, 2, 0, 2), (1, 1, 8, 12), tb_X2_init)
def tb_X3_init : List INS := [(0, 0, .aload_n 0, 1), (1, 2, .invokespecial 3, 3), (4, 0, .aload_n 0, 1), (5, 0, .iconst 0, 1), (6, 2, .putfield 9, 3), (9, 5, .return_, 1)]
def mt_X3_init : MT := (yX3_init, cX3_init, 1, none, (4, 2, 0, 3), (1, 0, 0, 12), tb_X3_init)
def tb_X4_init : List INS := [(0, 0, .aload_n 0, 1), (1, 2, .invokespecial 3, 3), (4, 0, .aload_n 0, 1), (5, 0, .bipush 9, 2), (7, 2, .anewarray 9, 3), (10, 2, .putfield 11, 3), (13, 0, .aload_n 0, 1), (14, 0, .iconst 0, 1), (15, 2, .putfield 17, 3), (18, 0, .aload_n 0, 1), (19, 0, .iconst 0, 1), (20, 2, .putfield 21, 3), (23, 5, .return_, 1)]
def mt_X4_init : MT := (yX4_init, cX4_init, 1, none, (5, 2, 0, 4), (1, 1, 9, 12), tb_X4_init)
def tb_X6_init : List INS := [(0, 0, .aload_n 0, 1), (1, 2, .invokespecial 3, 3), (4, 0, .aload_n 0, 1), (5, 0, .bipush 8, 2), (7, 2, .newarray .int, 2), (9, 0, .dup, 1), (10, 0, .iconst 0, 1), (11, 0, .iconst (-1), 1), (12, 3, .iastore, 1), (13, 0, .dup, 1), (14, 0, .iconst 1, 1), (15, 0, .iconst (-1), 1), (16, 3, .iastore, 1), (17, 0, .dup, 1), (18, 0, .iconst 2, 1), (19, 0, .iconst (-1), 1), (20, 3, .iastore, 1), (21, 0, .dup, 1), (22, 0, .iconst 3, 1), (23, 0, .iconst (-1), 1), (24, 3, .iastore, 1), (25, 0, .dup, 1), (26, 0, .iconst 4, 1), (27, 0, .iconst (-1), 1), (28, 3, .iastore, 1), (29, 0, .dup, 1), (30, 0, .iconst 5, 1), (31, 0, .iconst (-1), 1), (32, 3, .iastore, 1), (33, 0, .dup, 1), (34, 0, .bipush 6, 2), (36, 0, .iconst (-1), 1), (37, 3, .iastore, 1), (38, 0, .dup, 1), (39, 0, .bipush 7, 2), (41, 0, .iconst (-1), 1), (42, 3, .iastore, 1), (43, 2, .putfield 9, 3), (46, 0, .aload_n 0, 1), (47, 0, .bipush 10, 2), (49, 2, .newarray .int, 2), (51, 2, .putfield 15, 3), (54, 5, .return_, 1)]
def mt_X6_init : MT := (yX6_init, cX6_init, 1, none, (7, 2, 0, 5), (1, 2, 18, 12), tb_X6_init)
def tb_X7_init : List INS := [(0, 0, .aload_n 0, 1), (1, 2, .invokespecial 3, 3), (4, 0, .aload_n 0, 1), (5, 0, .bipush 8, 2), (7, 2, .newarray .int, 2), (9, 2, .putfield 9, 3), (12, 0, .aload_n 0, 1), (13, 0, .bipush 8, 2), (15, 2, .newarray .int, 2), (17, 2, .putfield 15, 3), (20, 0, .aload_n 0, 1), (21, 0, .bipush 8, 2), (23, 2, .newarray .int, 2), (25, 2, .putfield 18, 3), (28, 0, .aload_n 0, 1), (29, 0, .bipush 6, 2), (31, 2, .newarray .int, 2), (33, 2, .putfield 21, 3), (36, 0, .aload_n 0, 1), (37, 0, .bipush 6, 2), (39, 2, .newarray .int, 2), (41, 2, .putfield 24, 3), (44, 0, .aload_n 0, 1), (45, 0, .bipush 6, 2), (47, 2, .newarray .int, 2), (49, 2, .putfield 27, 3), (52, 0, .aload_n 0, 1), (53, 0, .iconst 0, 1), (54, 2, .putfield 30, 3), (57, 0, .aload_n 0, 1), (58, 0, .iconst 0, 1), (59, 2, .putfield 34, 3), (62, 0, .aload_n 0, 1), (63, 0, .iconst 0, 1), (64, 2, .putfield 37, 3), (67, 0, .aload_n 0, 1), (68, 0, .aload_n 1, 1), (69, 2, .putfield 40, 3), (72, 5, .return_, 1)]
def mt_X7_init : MT := (yX7_init, cX7_init, 2, none, (8, 2, 1, 6), (1, 6, 42, 12), tb_X7_init)
def tb_X8_init : List INS := [(0, 0, .aload_n 0, 1), (1, 2, .invokespecial 3, 3), (4, 0, .aload_n 0, 1), (5, 0, .bipush 40, 2), (7, 2, .newarray .int, 2), (9, 2, .putfield 9, 3), (12, 0, .aload_n 0, 1), (13, 0, .bipush 40, 2), (15, 2, .newarray .int, 2), (17, 2, .putfield 15, 3), (20, 0, .aload_n 0, 1), (21, 0, .bipush 40, 2), (23, 2, .newarray .int, 2), (25, 2, .putfield 18, 3), (28, 0, .aload_n 0, 1), (29, 0, .bipush 40, 2), (31, 2, .newarray .int, 2), (33, 2, .putfield 21, 3), (36, 0, .aload_n 0, 1), (37, 0, .iconst 0, 1), (38, 2, .putfield 24, 3), (41, 0, .aload_n 0, 1), (42, 0, .iconst 0, 1), (43, 2, .putfield 28, 3), (46, 5, .return_, 1)]
def mt_X8_init : MT := (yX8_init, cX8_init, 1, none, (9, 2, 0, 7), (1, 4, 160, 12), tb_X8_init)
def tb_X9_init : List INS := [(0, 0, .aload_n 0, 1), (1, 2, .invokespecial 3, 3), (4, 0, .aload_n 0, 1), (5, 0, .sipush 940, 3), (8, 2, .newarray .byte, 2), (10, 2, .putfield 9, 3), (13, 0, .aload_n 0, 1), (14, 0, .iconst 0, 1), (15, 2, .putfield 15, 3), (18, 5, .return_, 1)]
def mt_X9_init : MT := (yX9_init, cX9_init, 1, none, (10, 2, 0, 8), (1, 1, 940, 12), tb_X9_init)
def PRG1 : List MT := [mt_X0_init, mt_X10_init, mt_X11_init, mt_X12_clears, mt_X12_init, mt_X1_init, mt_X2_init, mt_X3_init, mt_X4_init, mt_X6_init, mt_X7_init, mt_X8_init, mt_X9_init]
def rt1_0 : List (Nat × RES) := [(1, (6, 0, 0, 0)), (7, (2, 8, 2, 0)), (9, (5, 12, 0, 0)), (10, (0, 10, 0, 0)), (16, (2, 9, 11, 0)), (18, (4, 1, 0, 0)), (21, (0, 10, 1, 0)), (25, (2, 6, 10, 0)), (27, (2, 1, 9, 0)), (29, (5, 5, 0, 0)), (30, (4, 10, 0, 0)), (33, (0, 10, 2, 0)), (37, (0, 6, 0, 0)), (41, (0, 10, 3, 0)), (44, (2, 4, 3, 0)), (46, (5, 8, 0, 0)), (47, (0, 10, 4, 0)), (51, (2, 0, 6, 0)), (53, (5, 0, 0, 0)), (54, (0, 10, 5, 0)), (58, (2, 5, 2, 0)), (60, (5, 9, 0, 0)), (61, (0, 10, 6, 0)), (65, (2, 2, 3, 0)), (67, (5, 6, 0, 0)), (68, (0, 10, 7, 0)), (72, (2, 3, 1, 0)), (74, (5, 7, 0, 0)), (75, (0, 10, 8, 0)), (79, (0, 10, 9, 0)), (83, (2, 7, 6, 0)), (85, (0, 10, 10, 0)), (89, (0, 10, 11, 0)), (93, (0, 10, 12, 0)), (97, (0, 10, 13, 0)), (101, (0, 10, 14, 0)), (104, (0, 10, 15, 0)), (107, (0, 10, 16, 0)), (110, (0, 10, 17, 0)), (100025, (3, 4, 0, 0)), (100083, (3, 5, 0, 0))]
def rt1_1 : List (Nat × RES) := [(3, (6, 0, 0, 0)), (9, (0, 0, 0, 0)), (15, (0, 0, 1, 0)), (18, (0, 0, 2, 0)), (21, (0, 0, 3, 0)), (24, (0, 0, 4, 0)), (28, (0, 0, 5, 0))]
def rt1_2 : List (Nat × RES) := [(3, (6, 0, 0, 0)), (9, (0, 1, 0, 0)), (15, (0, 1, 1, 0)), (19, (0, 1, 2, 0)), (22, (0, 1, 3, 0)), (25, (0, 1, 4, 0)), (28, (0, 1, 5, 0)), (31, (0, 1, 6, 0)), (34, (0, 1, 7, 0)), (38, (0, 1, 8, 0))]
def rt1_3 : List (Nat × RES) := [(3, (6, 0, 0, 0)), (9, (0, 2, 0, 0)), (15, (0, 2, 1, 0)), (19, (0, 2, 2, 0))]
def rt1_4 : List (Nat × RES) := [(3, (6, 0, 0, 0)), (9, (0, 3, 0, 0))]
def rt1_5 : List (Nat × RES) := [(3, (6, 0, 0, 0)), (9, (2, 6, 10, 0)), (11, (0, 4, 0, 0)), (17, (0, 4, 1, 0)), (21, (0, 4, 2, 0)), (100009, (3, 4, 0, 0))]
def rt1_6 : List (Nat × RES) := []
def rt1_7 : List (Nat × RES) := [(3, (6, 0, 0, 0)), (9, (0, 5, 0, 0)), (15, (0, 5, 1, 0))]
def rt1_8 : List (Nat × RES) := [(3, (6, 0, 0, 0)), (9, (0, 6, 1, 0)), (15, (0, 6, 2, 0)), (18, (0, 6, 3, 0)), (21, (0, 6, 4, 0)), (24, (0, 6, 5, 0)), (27, (0, 6, 6, 0)), (30, (0, 6, 7, 0)), (34, (0, 6, 8, 0)), (37, (0, 6, 9, 0)), (40, (0, 6, 0, 0))]
def rt1_9 : List (Nat × RES) := [(3, (6, 0, 0, 0)), (9, (0, 7, 0, 0)), (15, (0, 7, 1, 0)), (18, (0, 7, 2, 0)), (21, (0, 7, 3, 0)), (24, (0, 7, 4, 0)), (28, (0, 7, 5, 0))]
def rt1_10 : List (Nat × RES) := [(3, (6, 0, 0, 0)), (9, (0, 8, 0, 0)), (15, (0, 8, 1, 0))]
def rt1_11 : List (Nat × RES) := [(3, (6, 0, 0, 0)), (9, (0, 9, 1, 0)), (15, (0, 9, 2, 0)), (18, (0, 9, 3, 0)), (22, (0, 9, 4, 0)), (26, (0, 9, 5, 0)), (29, (0, 9, 6, 0)), (32, (0, 9, 7, 0)), (35, (0, 9, 8, 0)), (39, (0, 9, 9, 0)), (42, (0, 9, 10, 0)), (45, (0, 9, 0, 0))]
def rt1_12 : List (Nat × RES) := [(8, (2, 10, 18, 0)), (22, (4, 2, 0, 0)), (23, (2, 11, 53, 0)), (25, (4, 4, 0, 0))]
def rt1_13 : List (Nat × RES) := [(1, (0, 11, 0, 0)), (7, (0, 11, 2, 0)), (14, (0, 11, 1, 0)), (18, (0, 11, 3, 0)), (21, (0, 11, 4, 0)), (24, (0, 11, 5, 0)), (31, (6, 0, 0, 0)), (37, (0, 11, 6, 0)), (41, (0, 11, 7, 0)), (44, (0, 11, 8, 0)), (47, (0, 11, 9, 0)), (51, (0, 11, 10, 0)), (54, (0, 11, 21, 0)), (57, (0, 11, 22, 0)), (60, (0, 11, 33, 0)), (63, (0, 11, 34, 0)), (66, (0, 11, 35, 0)), (69, (0, 11, 37, 0)), (72, (0, 11, 41, 0)), (75, (0, 11, 43, 0)), (78, (0, 11, 49, 0)), (82, (0, 11, 50, 0)), (85, (0, 11, 51, 0)), (88, (0, 11, 52, 0)), (91, (9, 0, 0, 482854658917)), (93, (9, 0, 0, 1835102827)), (95, (9, 0, 0, 499967946343)), (97, (9, 0, 0, 26995)), (99, (9, 0, 0, 123581014175598)), (101, (9, 0, 0, 28832984742848366)), (103, (9, 0, 0, 461414299507)), (105, (9, 0, 0, 1718185573)), (107, (9, 0, 0, 1835627621)), (109, (9, 0, 0, 2002872165)), (111, (9, 0, 0, 1717662580)), (113, (9, 0, 0, 1735353715)), (115, (9, 0, 0, 1634954099)), (117, (9, 0, 0, 474080961907)), (119, (9, 0, 0, 123623812527219)), (121, (9, 0, 0, 1886745715)), (123, (9, 0, 0, 119182682386035)), (125, (9, 0, 0, 6578553)), (127, (9, 0, 0, 28530)), (129, (9, 0, 0, 6385252)), (131, (9, 0, 0, 7237492)), (133, (9, 0, 0, 27973166868030820)), (135, (9, 0, 0, 1819242085)), (137, (9, 0, 0, 6840691)), (139, (9, 0, 0, 24948)), (141, (9, 0, 0, 2003399784)), (143, (9, 0, 0, 469786323827)), (145, (9, 0, 0, 474080961892)), (147, (9, 0, 0, 121450625394034)), (149, (4, 3, 0, 0)), (360, (0, 11, 27, 0))]
def rt1_14 : List (Nat × RES) := []
def rt1_15 : List (Nat × RES) := []
def rt1_16 : List (Nat × RES) := []
def rt1_17 : List (Nat × RES) := []
def rt1_18 : List (Nat × RES) := []
def rt1_19 : List (Nat × RES) := []
def rt1_20 : List (Nat × RES) := []
def rt1_21 : List (Nat × RES) := []
def rt1_22 : List (Nat × RES) := []
def rt1_23 : List (Nat × RES) := []
def rt1_24 : List (Nat × RES) := []
def rt1_25 : List (Nat × RES) := []
def RTB1 : List (List (Nat × RES)) := [rt1_0, rt1_1, rt1_2, rt1_3, rt1_4, rt1_5, rt1_6, rt1_7, rt1_8, rt1_9, rt1_10, rt1_11, rt1_12, rt1_13, rt1_14, rt1_15, rt1_16, rt1_17, rt1_18, rt1_19, rt1_20, rt1_21, rt1_22, rt1_23, rt1_24, rt1_25]
abbrev d1_chk (M : MT) : Bool := d_chkL (mC M) (mT M)
theorem d1_chk_ok {M : MT} (h : d1_chk M = true) : ∀ q ∈ mT M, decode (mC M) q.1 = .ok (q.2.2.1, q.2.2.2) := by
  intro q hq
  have h1 := List.all_eq_true.mp h q hq
  split at h1
  · rename_i r hr
    have h1 := of_decide_eq_true h1
    rw [hr, h1]
  · cases h1

def i1_chk (M : MT) : Bool := !(Nat.beq (mK M) 2) || (match vwCl[mCi M]? with | some r => (List.range r.2.2).all (fun k => decide (OW2[mO M]? = some (r.2.1 k).1)) | none => true)
theorem i1_chk_ok {M : MT} (h : i1_chk M = true) : mK M = 2 → ∀ r : vw_C, vwCl[mCi M]? = some r → ∀ k, k < r.2.2 → OW2[mO M]? = some (r.2.1 k).1 := by
  intro h2 r hr k hk
  unfold i1_chk at h
  rw [h2, hr] at h
  simp only [Nat.beq, Bool.not_true, Bool.false_or] at h
  exact of_decide_eq_true (List.all_eq_true.mp h k (List.mem_range.mpr hk))
def m1_chk (M : MT) (ps : Nat × Nat × Nat × Nat) : Bool := plainFor (mY M) && (h_at ps.1 (.code (mY M) (mC M) (mL M) (mR M)) && (h_at ps.2.1 (.initialized (mY M).cls) && (decide ((mY M).cls ≠ "java/lang/invoke/MethodHandle") && (decide ((mY M).cls ≠ "java/lang/invoke/VarHandle") && (decide ((parseMethodDescriptor (mY M).desc).map (fun d => d.parameters.length) = some (mA M)) &&
  ((match mK M with
  | 0 => h_at ps.2.2.1 (.static (mY M))
  | 1 => h_at ps.2.2.1 (.instanceMethod (mY M)) && (h_at ps.2.2.2 (.selects (mY M).cls (mY M) (mY M)) && (match vwCl[mCi M]? with | some r => decide (r.1 = (mY M).cls) | none => false))
  | 2 => decide ((mY M).name = "<init>") && (h_at ps.2.2.1 (.instanceMethod (mY M)) && decide (mR M = none))
  | _ => false) && (decide (mR M = none ∨ mR M = some .int ∨ mR M = some .boolean ∨ mR M = some .long) && (decide (OW2[mO M]? = some (mY M).cls) && i1_chk M))))))))
theorem m1_chk_ok {M : MT} {ps : Nat × Nat × Nat × Nat} (h : m1_chk M ps = true) (hd : d1_chk M = true) : MOK M ∧ TOK OW2 M ∧ OW2[mO M]? = some (mY M).cls := by
  simp only [m1_chk, Bool.and_eq_true, decide_eq_true_eq] at h
  obtain ⟨h1, h2, h3, h4, h5, h6, h7, h8, h9, h10⟩ := h
  refine ⟨⟨h1, h_at_ok h2, h_at_ok h3, ⟨h4, h5⟩, h6, fun hk => ?_, fun hk => ?_, fun hk => ?_, h8⟩, ⟨d1_chk_ok hd, i1_chk_ok h10⟩, h9⟩
  · rw [hk] at h7
    exact h_at_ok h7
  · rw [hk] at h7
    simp only [Bool.and_eq_true] at h7
    obtain ⟨a1, a2, a3⟩ := h7
    refine ⟨h_at_ok a1, h_at_ok a2, ?_⟩
    split at a3
    · rename_i r hr
      exact ⟨r, hr, of_decide_eq_true a3⟩
    · cases a3
  · rw [hk] at h7
    simp only [Bool.and_eq_true, decide_eq_true_eq] at h7
    exact ⟨h7.1, h_at_ok h7.2.1, h7.2.2⟩
def r1_chk (own : String) (x : Nat × RES) (ps : List Nat) (host : String) : Bool := match x, ps with
  | (i, (0, ci, k, _)), [a] => (match vwCl[ci]? with | some q => decide (k < q.2.2) && h_at a (.fieldLink own i (q.2.1 k).1 (q.2.1 k).2.1 (q.2.1 k).2.2.1) | none => false)
  | (i, (1, ci, k, _)), [a] => (match vwCl[ci]? with | some q => decide (k < q.2.2) && n_at a (.fieldLinkNest own i (q.2.1 k).1 (q.2.1 k).2.1 (q.2.1 k).2.2.1 host) | none => false)
  | (i, (2, ci, n, _)), [a, a2, a3] => (match vwCl[ci]? with | some q => decide (q.2.2 = n) && (h_at a (.classLink own i q.1) && (h_at a2 (.instantiable q.1 n) && h_at a3 (.initialized q.1))) | none => false)
  | (i, (3, t, _, _)), [a] => (match vwCl[e_acls t]? with | some q => decide (100000 ≤ i) && (h_at a (.classLink own (i - 100000) q.1) && decide (q.1 = "NounFast$Scene" ∨ q.1 = "NounFast$Sentence")) | none => false)
  | (i, (4, j, _, _)), [a] => (match PRG1[j]? with | some M => h_at a (.methodLink own i (mY M)) | none => false)
  | (i, (5, j, _, _)), [a] => (match PRG1[j]? with | some M => n_at a (.methodLinkNest own i (mY M) host) | none => false)
  | (i, (6, _, _, _)), [a] => h_at a (.methodLink own i Lib.objectInit)
  | (i, (7, _, _, _)), [a] => h_at a (.methodLink own i arraycopyName)
  | (i, (9, _, _, v)), [a] => h_at a (.constantLong own i (Int64.ofInt v)) && (decide (-9223372036854775808 ≤ v) && decide (v < 9223372036854775808))
  | (_, (10, _, _, _)), _ => true
  | _, _ => false
theorem r1_chk_ok {own : String} {x : Nat × RES} {ps : List Nat} {host : String} (h : r1_chk own x ps host = true) : ROK PRG1 own x.1 x.2 := by
  unfold r1_chk at h
  split at h
  · split at h
    · rename_i hq
      simp only [Bool.and_eq_true, decide_eq_true_eq] at h
      exact ⟨_, hq, h.1, h_at_ok h.2⟩
    · cases h
  · split at h
    · rename_i hq
      simp only [Bool.and_eq_true, decide_eq_true_eq] at h
      exact ⟨_, host, hq, h.1, n_at_ok h.2⟩
    · cases h
  · split at h
    · rename_i hq
      simp only [Bool.and_eq_true, decide_eq_true_eq] at h
      exact ⟨_, hq, h.1, h_at_ok h.2.1, h_at_ok h.2.2.1, h_at_ok h.2.2.2⟩
    · cases h
  · split at h
    · rename_i hq
      simp only [Bool.and_eq_true, decide_eq_true_eq] at h
      exact ⟨_, _, hq, (Nat.sub_add_cancel h.1).symm, h_at_ok h.2.1, h.2.2⟩
    · cases h
  · split at h
    · rename_i hq
      exact ⟨_, hq, h_at_ok h⟩
    · cases h
  · split at h
    · rename_i hq
      exact ⟨_, host, hq, n_at_ok h⟩
    · cases h
  · exact h_at_ok h
  · exact h_at_ok h
  · simp only [Bool.and_eq_true, decide_eq_true_eq] at h
    exact ⟨h_at_ok h.1, h.2.1, h.2.2⟩
  · trivial
  · cases h
def r1_all (own : String) : List (Nat × RES) → List (List Nat × String) → Bool
  | [], _ => true
  | x :: r, p :: q => r1_chk own x p.1 p.2 && r1_all own r q
  | _ :: _, [] => false
theorem r1_all_ok {own : String} : ∀ {x : List (Nat × RES)} {ps : List (List Nat × String)}, r1_all own x ps = true → ∀ q ∈ x, ROK PRG1 own q.1 q.2 := by
  intro x
  induction x with
  | nil => intro ps _ q hq; cases hq
  | cons a r ih =>
    intro ps h q hq
    cases ps with
    | nil => cases h
    | cons p t =>
      simp only [r1_all, Bool.and_eq_true] at h
      rcases List.mem_cons.mp hq with rfl | hq
      · exact r1_chk_ok h.1
      · exact ih h.2 q hq
theorem td1_X0_init : d1_chk mt_X0_init = true := by decide +kernel
theorem tm1_X0_init : m1_chk mt_X0_init (342, 123, 341, 0) = true := by decide +kernel
theorem tz1_X0_init : MOK mt_X0_init ∧ TOK OW2 mt_X0_init ∧ OW2[mO mt_X0_init]? = some (mY mt_X0_init).cls := m1_chk_ok tm1_X0_init td1_X0_init
theorem td1_X10_init : d1_chk mt_X10_init = true := by decide +kernel
theorem tm1_X10_init : m1_chk mt_X10_init (170, 119, 169, 0) = true := by decide +kernel
theorem tz1_X10_init : MOK mt_X10_init ∧ TOK OW2 mt_X10_init ∧ OW2[mO mt_X10_init]? = some (mY mt_X10_init).cls := m1_chk_ok tm1_X10_init td1_X10_init
theorem td1_X11_init_0 : d_chkL cX11_init tc_X11_init_0 = true := by decide +kernel
theorem td1_X11_init_1 : d_chkL cX11_init tc_X11_init_1 = true := by decide +kernel
theorem td1_X11_init_2 : d_chkL cX11_init tc_X11_init_2 = true := by decide +kernel
theorem td1_X11_init_3 : d_chkL cX11_init tc_X11_init_3 = true := by decide +kernel
theorem td1_X11_init : d1_chk mt_X11_init = true := d_app td1_X11_init_0 (d_app td1_X11_init_1 (d_app td1_X11_init_2 (td1_X11_init_3)))
theorem tm1_X11_init : m1_chk mt_X11_init (145, 117, 144, 0) = true := by decide +kernel
theorem tz1_X11_init : MOK mt_X11_init ∧ TOK OW2 mt_X11_init ∧ OW2[mO mt_X11_init]? = some (mY mt_X11_init).cls := m1_chk_ok tm1_X11_init td1_X11_init
theorem td1_X12_clears : d1_chk mt_X12_clears = true := by decide +kernel
theorem tm1_X12_clears : m1_chk mt_X12_clears (1353, 127, 1352, 40) = true := by decide +kernel
theorem tz1_X12_clears : MOK mt_X12_clears ∧ TOK OW2 mt_X12_clears ∧ OW2[mO mt_X12_clears]? = some (mY mt_X12_clears).cls := m1_chk_ok tm1_X12_clears td1_X12_clears
theorem td1_X12_init_0 : d_chkL cX12_init tc_X12_init_0 = true := by decide +kernel
theorem td1_X12_init_1 : d_chkL cX12_init tc_X12_init_1 = true := by decide +kernel
theorem td1_X12_init_2 : d_chkL cX12_init tc_X12_init_2 = true := by decide +kernel
theorem td1_X12_init_3 : d_chkL cX12_init tc_X12_init_3 = true := by decide +kernel
theorem td1_X12_init_4 : d_chkL cX12_init tc_X12_init_4 = true := by decide +kernel
theorem td1_X12_init_5 : d_chkL cX12_init tc_X12_init_5 = true := by decide +kernel
theorem td1_X12_init_6 : d_chkL cX12_init tc_X12_init_6 = true := by decide +kernel
theorem td1_X12_init_7 : d_chkL cX12_init tc_X12_init_7 = true := by decide +kernel
theorem td1_X12_init_8 : d_chkL cX12_init tc_X12_init_8 = true := by decide +kernel
theorem td1_X12_init_9 : d_chkL cX12_init tc_X12_init_9 = true := by decide +kernel
theorem td1_X12_init : d1_chk mt_X12_init = true := d_app td1_X12_init_0 (d_app td1_X12_init_1 (d_app td1_X12_init_2 (d_app td1_X12_init_3 (d_app td1_X12_init_4 (d_app td1_X12_init_5 (d_app td1_X12_init_6 (d_app td1_X12_init_7 (d_app td1_X12_init_8 (td1_X12_init_9)))))))))
theorem tm1_X12_init : m1_chk mt_X12_init (1319, 127, 1318, 0) = true := by decide +kernel
theorem tz1_X12_init : MOK mt_X12_init ∧ TOK OW2 mt_X12_init ∧ OW2[mO mt_X12_init]? = some (mY mt_X12_init).cls := m1_chk_ok tm1_X12_init td1_X12_init
theorem td1_X1_init_0 : d_chkL cX1_init tc_X1_init_0 = true := by decide +kernel
theorem td1_X1_init_1 : d_chkL cX1_init tc_X1_init_1 = true := by decide +kernel
theorem td1_X1_init_2 : d_chkL cX1_init tc_X1_init_2 = true := by decide +kernel
theorem td1_X1_init : d1_chk mt_X1_init = true := d_app td1_X1_init_0 (d_app td1_X1_init_1 (td1_X1_init_2))
theorem tm1_X1_init : m1_chk mt_X1_init (220, 121, 219, 0) = true := by decide +kernel
theorem tz1_X1_init : MOK mt_X1_init ∧ TOK OW2 mt_X1_init ∧ OW2[mO mt_X1_init]? = some (mY mt_X1_init).cls := m1_chk_ok tm1_X1_init td1_X1_init
theorem td1_X2_init : d1_chk mt_X2_init = true := by decide +kernel
theorem tm1_X2_init : m1_chk mt_X2_init (381, 125, 380, 0) = true := by decide +kernel
theorem tz1_X2_init : MOK mt_X2_init ∧ TOK OW2 mt_X2_init ∧ OW2[mO mt_X2_init]? = some (mY mt_X2_init).cls := m1_chk_ok tm1_X2_init td1_X2_init
theorem td1_X3_init : d1_chk mt_X3_init = true := by decide +kernel
theorem tm1_X3_init : m1_chk mt_X3_init (399, 126, 398, 0) = true := by decide +kernel
theorem tz1_X3_init : MOK mt_X3_init ∧ TOK OW2 mt_X3_init ∧ OW2[mO mt_X3_init]? = some (mY mt_X3_init).cls := m1_chk_ok tm1_X3_init td1_X3_init
theorem td1_X4_init : d1_chk mt_X4_init = true := by decide +kernel
theorem tm1_X4_init : m1_chk mt_X4_init (324, 122, 323, 0) = true := by decide +kernel
theorem tz1_X4_init : MOK mt_X4_init ∧ TOK OW2 mt_X4_init ∧ OW2[mO mt_X4_init]? = some (mY mt_X4_init).cls := m1_chk_ok tm1_X4_init td1_X4_init
theorem td1_X6_init : d1_chk mt_X6_init = true := by decide +kernel
theorem tm1_X6_init : m1_chk mt_X6_init (367, 124, 366, 0) = true := by decide +kernel
theorem tz1_X6_init : MOK mt_X6_init ∧ TOK OW2 mt_X6_init ∧ OW2[mO mt_X6_init]? = some (mY mt_X6_init).cls := m1_chk_ok tm1_X6_init td1_X6_init
theorem td1_X7_init : d1_chk mt_X7_init = true := by decide +kernel
theorem tm1_X7_init : m1_chk mt_X7_init (267, 120, 266, 0) = true := by decide +kernel
theorem tz1_X7_init : MOK mt_X7_init ∧ TOK OW2 mt_X7_init ∧ OW2[mO mt_X7_init]? = some (mY mt_X7_init).cls := m1_chk_ok tm1_X7_init td1_X7_init
theorem td1_X8_init : d1_chk mt_X8_init = true := by decide +kernel
theorem tm1_X8_init : m1_chk mt_X8_init (1106, 140, 1105, 0) = true := by decide +kernel
theorem tz1_X8_init : MOK mt_X8_init ∧ TOK OW2 mt_X8_init ∧ OW2[mO mt_X8_init]? = some (mY mt_X8_init).cls := m1_chk_ok tm1_X8_init td1_X8_init
theorem td1_X9_init : d1_chk mt_X9_init = true := by decide +kernel
theorem tm1_X9_init : m1_chk mt_X9_init (153, 118, 152, 0) = true := by decide +kernel
theorem tz1_X9_init : MOK mt_X9_init ∧ TOK OW2 mt_X9_init ∧ OW2[mO mt_X9_init]? = some (mY mt_X9_init).cls := m1_chk_ok tm1_X9_init td1_X9_init
theorem tr1_0 : r1_all "NounFast" rt1_0 [([146], ""), ([149, 150, 118], ""), ([151], "NounFast"), ([408], ""), ([166, 167, 119], ""), ([168], ""), ([409], ""), ([214, 215, 120], ""), ([216, 217, 121], ""), ([218], "NounFast"), ([265], ""), ([410], ""), ([269], ""), ([411], ""), ([320, 321, 122], ""), ([322], "NounFast"), ([412], ""), ([338, 339, 123], ""), ([340], "NounFast"), ([413], ""), ([363, 364, 124], ""), ([365], "NounFast"), ([414], ""), ([377, 378, 125], ""), ([379], "NounFast"), ([415], ""), ([395, 396, 126], ""), ([397], "NounFast"), ([416], ""), ([417], ""), ([406, 1103, 140], ""), ([418], ""), ([419], ""), ([420], ""), ([421], ""), ([422], ""), ([423], ""), ([424], ""), ([425], ""), ([214], ""), ([406], "")] = true := by decide +kernel
theorem tr1_1 : r1_all "NounFast$Book" rt1_1 [([343], ""), ([344], ""), ([345], ""), ([346], ""), ([347], ""), ([348], ""), ([349], "")] = true := by decide +kernel
theorem tr1_2 : r1_all "NounFast$City" rt1_2 [([221], ""), ([222], ""), ([229], ""), ([230], ""), ([236], ""), ([238], ""), ([240], ""), ([242], ""), ([244], ""), ([245], "")] = true := by decide +kernel
theorem tr1_3 : r1_all "NounFast$Clue" rt1_3 [([382], ""), ([383], ""), ([384], ""), ([386], "")] = true := by decide +kernel
theorem tr1_4 : r1_all "NounFast$Dice" rt1_4 [([400], ""), ([401], "")] = true := by decide +kernel
theorem tr1_5 : r1_all "NounFast$History" rt1_5 [([325], ""), ([326, 215, 120], ""), ([328], ""), ([329], ""), ([330], ""), ([326], "")] = true := by decide +kernel
theorem tr1_6 : r1_all "NounFast$Minds" rt1_6 [] = true := by decide +kernel
theorem tr1_7 : r1_all "NounFast$Rest" rt1_7 [([368], ""), ([369], ""), ([371], "")] = true := by decide +kernel
theorem tr1_8 : r1_all "NounFast$Scene" rt1_8 [([268], ""), ([277], ""), ([278], ""), ([281], ""), ([284], ""), ([286], ""), ([288], ""), ([292], ""), ([295], ""), ([297], ""), ([270], "")] = true := by decide +kernel
theorem tr1_9 : r1_all "NounFast$Sentence" rt1_9 [([1107], ""), ([1108], ""), ([1109], ""), ([1110], ""), ([1111], ""), ([1112], ""), ([1113], "")] = true := by decide +kernel
theorem tr1_10 : r1_all "NounFast$Tape" rt1_10 [([154], ""), ([155], ""), ([156], "")] = true := by decide +kernel
theorem tr1_11 : r1_all "NounFast$Text" rt1_11 [([171], ""), ([173], ""), ([174], ""), ([175], ""), ([176], ""), ([177], ""), ([178], ""), ([182], ""), ([183], ""), ([185], ""), ([187], ""), ([172], "")] = true := by decide +kernel
theorem tr1_12 : r1_all "NounFastLaw" rt1_12 [([141, 142, 117], ""), ([143], ""), ([1316, 1310, 127], ""), ([1317], "")] = true := by decide +kernel
theorem tr1_13 : r1_all "NounFastModel" rt1_13 [([1354], ""), ([1356], ""), ([1355], ""), ([1357], ""), ([1358], ""), ([1359], ""), ([1320], ""), ([1360], ""), ([1361], ""), ([1362], ""), ([1363], ""), ([1364], ""), ([1375], ""), ([1376], ""), ([1387], ""), ([1388], ""), ([1389], ""), ([1391], ""), ([1395], ""), ([1397], ""), ([1403], ""), ([1404], ""), ([1405], ""), ([1406], ""), ([1321], ""), ([1322], ""), ([1323], ""), ([1324], ""), ([1325], ""), ([1326], ""), ([1327], ""), ([1328], ""), ([1329], ""), ([1330], ""), ([1331], ""), ([1332], ""), ([1333], ""), ([1334], ""), ([1335], ""), ([1336], ""), ([1337], ""), ([1338], ""), ([1339], ""), ([1340], ""), ([1341], ""), ([1342], ""), ([1343], ""), ([1344], ""), ([1345], ""), ([1346], ""), ([1347], ""), ([1348], ""), ([1349], ""), ([1350], ""), ([1381], "")] = true := by decide +kernel
theorem tr1_14 : r1_all "java/io/Serializable" rt1_14 [] = true := by decide +kernel
theorem tr1_15 : r1_all "java/lang/CharSequence" rt1_15 [] = true := by decide +kernel
theorem tr1_16 : r1_all "java/lang/Comparable" rt1_16 [] = true := by decide +kernel
theorem tr1_17 : r1_all "java/lang/Integer" rt1_17 [] = true := by decide +kernel
theorem tr1_18 : r1_all "java/lang/Math" rt1_18 [] = true := by decide +kernel
theorem tr1_19 : r1_all "java/lang/String" rt1_19 [] = true := by decide +kernel
theorem tr1_20 : r1_all "java/lang/StringLatin1" rt1_20 [] = true := by decide +kernel
theorem tr1_21 : r1_all "java/lang/StringUTF16" rt1_21 [] = true := by decide +kernel
theorem tr1_22 : r1_all "java/lang/System" rt1_22 [] = true := by decide +kernel
theorem tr1_23 : r1_all "java/lang/constant/Constable" rt1_23 [] = true := by decide +kernel
theorem tr1_24 : r1_all "java/lang/constant/ConstantDesc" rt1_24 [] = true := by decide +kernel
theorem tr1_25 : r1_all "jdk/internal/util/Preconditions" rt1_25 [] = true := by decide +kernel
theorem prg1_ok : ∀ M ∈ PRG1, MOK M ∧ TOK OW2 M ∧ OW2[mO M]? = some (mY M).cls := by
  intro M h
  simp only [PRG1, List.mem_cons, List.not_mem_nil, or_false] at h
  rcases h with rfl | rfl | rfl | rfl | rfl | rfl | rfl | rfl | rfl | rfl | rfl | rfl | rfl
  · exact tz1_X0_init
  · exact tz1_X10_init
  · exact tz1_X11_init
  · exact tz1_X12_clears
  · exact tz1_X12_init
  · exact tz1_X1_init
  · exact tz1_X2_init
  · exact tz1_X3_init
  · exact tz1_X4_init
  · exact tz1_X6_init
  · exact tz1_X7_init
  · exact tz1_X8_init
  · exact tz1_X9_init
theorem pok1 : POK PRG1 RTB1 OW2 := by
  refine ⟨fun j M h => prg1_ok M (List.mem_of_getElem? h), fun o own L h1 h2 => ?_, ?_⟩
  · match o, h1, h2 with
    | 0, h1, h2 => cases h1; cases h2; exact r1_all_ok tr1_0
    | 1, h1, h2 => cases h1; cases h2; exact r1_all_ok tr1_1
    | 2, h1, h2 => cases h1; cases h2; exact r1_all_ok tr1_2
    | 3, h1, h2 => cases h1; cases h2; exact r1_all_ok tr1_3
    | 4, h1, h2 => cases h1; cases h2; exact r1_all_ok tr1_4
    | 5, h1, h2 => cases h1; cases h2; exact r1_all_ok tr1_5
    | 6, h1, h2 => cases h1; cases h2; exact r1_all_ok tr1_6
    | 7, h1, h2 => cases h1; cases h2; exact r1_all_ok tr1_7
    | 8, h1, h2 => cases h1; cases h2; exact r1_all_ok tr1_8
    | 9, h1, h2 => cases h1; cases h2; exact r1_all_ok tr1_9
    | 10, h1, h2 => cases h1; cases h2; exact r1_all_ok tr1_10
    | 11, h1, h2 => cases h1; cases h2; exact r1_all_ok tr1_11
    | 12, h1, h2 => cases h1; cases h2; exact r1_all_ok tr1_12
    | 13, h1, h2 => cases h1; cases h2; exact r1_all_ok tr1_13
    | 14, h1, h2 => cases h1; cases h2; exact r1_all_ok tr1_14
    | 15, h1, h2 => cases h1; cases h2; exact r1_all_ok tr1_15
    | 16, h1, h2 => cases h1; cases h2; exact r1_all_ok tr1_16
    | 17, h1, h2 => cases h1; cases h2; exact r1_all_ok tr1_17
    | 18, h1, h2 => cases h1; cases h2; exact r1_all_ok tr1_18
    | 19, h1, h2 => cases h1; cases h2; exact r1_all_ok tr1_19
    | 20, h1, h2 => cases h1; cases h2; exact r1_all_ok tr1_20
    | 21, h1, h2 => cases h1; cases h2; exact r1_all_ok tr1_21
    | 22, h1, h2 => cases h1; cases h2; exact r1_all_ok tr1_22
    | 23, h1, h2 => cases h1; cases h2; exact r1_all_ok tr1_23
    | 24, h1, h2 => cases h1; cases h2; exact r1_all_ok tr1_24
    | 25, h1, h2 => cases h1; cases h2; exact r1_all_ok tr1_25
    | n + 26, h1, h2 => simp [OW2] at h1
  · refine ⟨h_at_ok (pos := 147) (by decide +kernel), h_at_ok (pos := 148) (by decide +kernel), h_at_ok (pos := 645) (by decide +kernel), h_at_ok (pos := 644) (by decide +kernel), h_at_ok (pos := 133) (by decide +kernel), fun a t h => ?_⟩
    cases a <;> simp [e_atype] at h
    · exact h_at_ok (pos := 1514) (by decide +kernel)
    · exact h_at_ok (pos := 165) (by decide +kernel)
    · exact h_at_ok (pos := 212) (by decide +kernel)
    · exact h_at_ok (pos := 213) (by decide +kernel)
def tb1_law : List INS := [(0, 2, .new 8, 3), (3, 0, .dup, 1), (4, 4, .invokespecial 22, 3), (7, 0, .astore_n 1, 1), (8, 2, .new 23, 3), (11, 0, .dup, 1), (12, 4, .invokespecial 25, 3), (15, 0, .astore_n 2, 1), (16, 0, .iconst 1, 1), (17, 2, .newarray .long, 2), (19, 0, .astore_n 3, 1), (20, 0, .iconst 0, 1), (21, 0, .istore 4, 2), (23, 16, .iload 4, 2)]
