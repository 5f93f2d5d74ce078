section RTM
set_option maxRecDepth 100000
/-- SqlStoreLaw.law([I)Z -/
def rt_0 : ra_Mt := (({ cls := "SqlStoreLaw", name := "law", desc := "([I)Z" } : MethodName), code, 9, ret, [], [], [(8, 0, 16), (129, 3, 1), (130, 0, 18), (132, 3, 25), (133, 58, 27), (138, 41, 30), (139, 1, 32), (142, 26, 33), (145, 9, 35), (146, 26, 38), (148, 9, 41), (149, 1, 69), (152, 1, 70), (153, 26, 71), (155, 9, 73), (158, 42, 75), (161, 25, 78), (162, 34, 81), (165, 17, 83), (166, 34, 84), (168, 17, 86), (169, 26, 87), (171, 9, 90), (172, 1, 92), (175, 1, 93), (176, 26, 94), (178, 9, 96), (179, 1, 97), (182, 1, 98), (183, 1, 99), (186, 1, 100), (187, 1, 101), (190, 1, 102), (191, 1, 103), (194, 1, 104), (195, 1, 105), (198, 1, 106), (199, 34, 107), (201, 17, 110), (202, 34, 112), (204, 17, 114), (205, 34, 115), (207, 17, 117), (208, 42, 118), (211, 25, 120), (212, 34, 121), (214, 17, 123), (215, 34, 124), (217, 17, 126), (218, 26, 127), (220, 9, 129), (221, 26, 130), (223, 9, 132), (224, 1, 133), (227, 1, 134), (228, 26, 135), (230, 9, 137), (231, 18, 138), (234, 1, 144), (235, 18, 146), (237, 1, 154), (238, 18, 158), (240, 1, 161), (241, 18, 163), (243, 1, 178), (244, 34, 186), (246, 17, 188), (247, 18, 189), (249, 1, 191), (250, 26, 192), (252, 9, 195), (253, 26, 196), (255, 9, 198), (256, 26, 200), (258, 9, 202), (259, 18, 205), (262, 1, 209), (263, 18, 211), (265, 1, 219), (266, 18, 224), (268, 1, 227), (269, 34, 228), (271, 17, 230), (272, 34, 237), (274, 17, 239), (275, 18, 240), (277, 1, 242), (278, 1, 243), (282, 1, 244), (283, 1, 245), (286, 1, 246), (287, 1, 247), (290, 1, 248), (291, 1, 249), (294, 1, 250), (295, 26, 251), (297, 9, 253), (298, 34, 254), (300, 17, 256), (301, 1, 257), (305, 1, 260)], [(65692, 4294967295)], [])
/-- SqlStore.<init>()V -/
def rt_1 : ra_Mt := (({ cls := "SqlStore", name := "<init>", desc := "()V" } : MethodName), prog_1_method_1_code, 2, none, [], [(9, 16, 0), (13, 16, 2), (16, 16, 3), (20, 16, 4), (23, 16, 5), (28, 16, 6), (32, 16, 7), (36, 16, 14), (42, 16, 15), (49, 16, 16), (56, 16, 17), (60, 16, 18), (68, 16, 19), (77, 16, 20), (86, 16, 21)], [(3, 16, 0), (26, 0, 15), (39, 0, 7), (41, 3, 2), (46, 0, 14), (48, 4, 4), (53, 0, 9), (55, 3, 5), (63, 0, 5), (65, 19, 18), (72, 0, 10), (74, 19, 23), (81, 0, 4), (83, 27, 24), (90, 4, 22), (91, 18, 3), (65562, 5, 15)], [], [])
/-- SqlStore$Log.<init>()V -/
def rt_2 : ra_Mt := (({ cls := "SqlStore$Log", name := "<init>", desc := "()V" } : MethodName), prog_5_method_1_code, 1, none, [], [(9, 7, 0), (15, 7, 1), (18, 7, 2), (21, 7, 6), (25, 7, 7), (29, 7, 8), (33, 7, 9), (37, 7, 10), (40, 7, 11), (44, 7, 12), (48, 7, 13), (51, 7, 14), (54, 7, 15), (57, 7, 16), (60, 7, 17)], [(3, 16, 0), (63, 18, 3)], [(47, 61440)], [])
/-- java/util/Arrays.fill([II)V -/
def rt_3 : ra_Mt := (({ cls := "java/util/Arrays", name := "fill", desc := "([II)V" } : MethodName), prog_47_method_103_code, 4, none, [], [], [], [], [])
/-- SqlStore$Tree.<init>()V -/
def rt_4 : ra_Mt := (({ cls := "SqlStore$Tree", name := "<init>", desc := "()V" } : MethodName), prog_12_method_1_code, 1, none, [], [(9, 14, 0), (15, 14, 1), (19, 14, 2), (23, 14, 3), (26, 14, 4), (29, 14, 7), (32, 14, 8), (35, 14, 10)], [(3, 16, 0)], [], [])
/-- SqlStore$Parser.<init>()V -/
def rt_5 : ra_Mt := (({ cls := "SqlStore$Parser", name := "<init>", desc := "()V" } : MethodName), prog_7_method_1_code, 5, none, [], [(12, 9, 0), (18, 9, 2), (22, 9, 4), (26, 9, 5), (29, 9, 6), (33, 9, 12), (39, 9, 17), (43, 9, 18), (46, 9, 19), (49, 9, 20)], [(3, 16, 0), (9, 0, 13), (11, 4, 6), (36, 0, 3), (38, 3, 7), (54, 1, 10), (60, 9, 12), (66, 10, 17), (196660, 13, 0)], [(65600, 64)], [])
/-- SqlStore$Statement.<init>()V -/
def rt_6 : ra_Mt := (({ cls := "SqlStore$Statement", name := "<init>", desc := "()V" } : MethodName), prog_11_method_1_code, 1, none, [], [], [(3, 16, 0)], [], [])
/-- java/util/ArrayList.<init>()V -/
def rt_7 : ra_Mt := (({ cls := "java/util/ArrayList", name := "<init>", desc := "()V" } : MethodName), prog_46_method_2_code, 1, none, [], [(9, 3, 1)], [(1, 3, 8), (131111, 7, 1)], [], [])
/-- java/util/AbstractList.<init>()V -/
def rt_8 : ra_Mt := (({ cls := "java/util/AbstractList", name := "<init>", desc := "()V" } : MethodName), prog_45_method_1_code, 1, none, [], [(7, 3, 0)], [(1, 3, 9)], [], [])
/-- java/util/AbstractCollection.<init>()V -/
def rt_9 : ra_Mt := (({ cls := "java/util/AbstractCollection", name := "<init>", desc := "()V" } : MethodName), prog_44_method_1_code, 1, none, [], [], [(1, 16, 0)], [], [])
/-- java/lang/String.length()I -/
def rt_10 : ra_Mt := (({ cls := "java/lang/String", name := "length", desc := "()I" } : MethodName), prog_35_method_54_code, 1, (some FieldType.int), [], [(9, 0, 0)], [(335, 1, 11)], [], [])
/-- java/lang/String.coder()B -/
def rt_11 : ra_Mt := (({ cls := "java/lang/String", name := "coder", desc := "()B" } : MethodName), prog_35_method_152_code, 1, (some FieldType.byte), [], [(15, 0, 1)], [(131110, 7, 3)], [], [])
/-- java/lang/String.charAt(I)C -/
def rt_12 : ra_Mt := (({ cls := "java/lang/String", name := "charAt", desc := "(I)C" } : MethodName), prog_35_method_56_code, 2, (some FieldType.char), [], [(9, 0, 0)], [(492, 1, 13), (495, 18, 14)], [], [])
/-- java/lang/String.isLatin1()Z -/
def rt_13 : ra_Mt := (({ cls := "java/lang/String", name := "isLatin1", desc := "()Z" } : MethodName), prog_35_method_154_code, 1, (some FieldType.boolean), [], [(15, 0, 1)], [(131110, 7, 3)], [], [])
/-- java/lang/StringLatin1.charAt([BI)C -/
def rt_14 : ra_Mt := (({ cls := "java/lang/StringLatin1", name := "charAt", desc := "([BI)C" } : MethodName), prog_37_method_2_code, 2, (some FieldType.char), [], [], [(9, 18, 15)], [], [])
/-- java/lang/String.checkIndex(II)V -/
def rt_15 : ra_Mt := (({ cls := "java/lang/String", name := "checkIndex", desc := "(II)V" } : MethodName), prog_35_method_155_code, 2, none, [], [], [(1059, 26, 16), (132125, 7, 4)], [], [])
/-- jdk/internal/util/Preconditions.checkIndex(IILjava/util/function/BiFunction;)I -/
def rt_16 : ra_Mt := (({ cls := "jdk/internal/util/Preconditions", name := "checkIndex", desc := "(IILjava/util/function/BiFunction;)I" } : MethodName), prog_54_method_11_code, 3, (some FieldType.int), [], [], [], [], [])
/-- SqlStore$Parser.letterCode(I)I -/
def rt_17 : ra_Mt := (({ cls := "SqlStore$Parser", name := "letterCode", desc := "(I)I" } : MethodName), prog_7_method_14_code, 1, (some FieldType.int), [], [], [], [], [])
/-- SqlStore$Checker.<init>(LSqlStore$Tree;LSqlStore$Parser;)V -/
def rt_18 : ra_Mt := (({ cls := "SqlStore$Checker", name := "<init>", desc := "(LSqlStore$Tree;LSqlStore$Parser;)V" } : MethodName), prog_3_method_1_code, 4, none, [], [(11, 5, 0), (18, 5, 2), (22, 5, 3), (26, 5, 9), (29, 5, 11), (32, 5, 7), (36, 5, 8)], [(3, 16, 0), (9, 0, 6), (17, 4, 19), (65545, 5, 6)], [], [])
/-- SqlStore$Definition.<init>()V -/
def rt_19 : ra_Mt := (({ cls := "SqlStore$Definition", name := "<init>", desc := "()V" } : MethodName), prog_4_method_1_code, 1, none, [], [(11, 6, 7), (17, 6, 8), (21, 6, 9), (25, 6, 11), (28, 6, 15), (31, 6, 16), (35, 6, 17), (38, 6, 18), (44, 6, 19), (51, 6, 20)], [(3, 16, 0), (41, 0, 11), (43, 4, 20), (48, 0, 12), (50, 3, 21), (65545, 5, 8)], [], [])
/-- SqlStore$Select.<init>()V -/
def rt_20 : ra_Mt := (({ cls := "SqlStore$Select", name := "<init>", desc := "()V" } : MethodName), prog_9_method_1_code, 1, none, [], [(9, 11, 15), (15, 11, 16), (19, 11, 17), (22, 11, 19)], [(3, 16, 0)], [], [])
/-- SqlStore$Source.<init>()V -/
def rt_21 : ra_Mt := (({ cls := "SqlStore$Source", name := "<init>", desc := "()V" } : MethodName), prog_10_method_1_code, 2, none, [], [(11, 12, 13), (19, 12, 16)], [(3, 16, 0), (9, 0, 15), (23, 4, 22), (65545, 5, 15), (65553, 5, 8)], [], [])
/-- SqlStore$Value.<init>()V -/
def rt_22 : ra_Mt := (({ cls := "SqlStore$Value", name := "<init>", desc := "()V" } : MethodName), prog_13_method_1_code, 1, none, [], [(13, 15, 4)], [(3, 16, 0), (131081, 8, 0)], [], [])
/-- SqlStore$Runner.<init>(LSqlStore$Tree;[LSqlStore$Value;)V -/
def rt_23 : ra_Mt := (({ cls := "SqlStore$Runner", name := "<init>", desc := "(LSqlStore$Tree;[LSqlStore$Value;)V" } : MethodName), prog_8_method_1_code, 3, none, [], [(12, 10, 5), (18, 10, 7), (25, 10, 9), (29, 10, 10), (33, 10, 11), (36, 10, 13), (39, 10, 2), (43, 10, 3)], [(3, 16, 0), (9, 0, 3), (11, 3, 7), (22, 0, 15), (24, 4, 22)], [], [])
/-- SqlStore$Changer.<init>(LSqlStore$Tree;LSqlStore$Runner;LSqlStore$Checker;)V -/
def rt_24 : ra_Mt := (({ cls := "SqlStore$Changer", name := "<init>", desc := "(LSqlStore$Tree;LSqlStore$Runner;LSqlStore$Checker;)V" } : MethodName), prog_2_method_1_code, 5, none, [], [(13, 4, 4), (18, 4, 6), (22, 4, 7), (25, 4, 8), (30, 4, 12), (34, 4, 13), (37, 4, 14), (40, 4, 15), (43, 4, 16), (46, 4, 1), (50, 4, 2), (54, 4, 3)], [(3, 16, 0), (28, 0, 15), (58, 4, 22), (65564, 5, 15), (131081, 8, 0)], [], [])
/-- SqlStoreModel.<init>()V -/
def rt_25 : ra_Mt := (({ cls := "SqlStoreModel", name := "<init>", desc := "()V" } : MethodName), prog_15_method_1_code, 3, none, [], [(9, 18, 3), (13, 18, 5), (17, 18, 6), (21, 18, 7), (24, 18, 8), (28, 18, 9), (31, 18, 10), (34, 18, 11), (37, 18, 12), (41, 18, 13), (48, 18, 14), (51, 18, 15), (54, 18, 27), (57, 18, 29), (60, 18, 30), (63, 18, 31), (66, 18, 32), (69, 18, 33), (72, 18, 34), (75, 18, 35), (78, 18, 36), (81, 18, 37), (84, 18, 38), (89, 18, 40), (92, 18, 42), (95, 18, 44), (98, 18, 45), (101, 18, 46), (104, 18, 47), (107, 18, 48), (110, 18, 62), (113, 18, 63), (116, 18, 64), (119, 18, 65), (122, 18, 66), (125, 18, 67), (128, 18, 68), (131, 18, 69), (134, 18, 70), (137, 18, 71), (140, 18, 72), (143, 18, 73), (146, 18, 74), (149, 18, 75), (152, 18, 76), (155, 18, 77), (158, 18, 78), (161, 18, 79), (164, 18, 80), (167, 18, 81), (170, 18, 82), (173, 18, 83), (176, 18, 84), (179, 18, 85), (182, 18, 86), (185, 18, 87), (188, 18, 88), (191, 18, 89), (194, 18, 90), (197, 18, 91), (200, 18, 92), (203, 18, 93), (206, 18, 94), (209, 18, 95), (212, 18, 96), (215, 18, 97), (218, 18, 98), (221, 18, 99), (224, 18, 100), (227, 18, 101), (230, 18, 102), (233, 18, 103), (236, 18, 104), (239, 18, 111), (242, 18, 112), (245, 18, 113), (248, 18, 114), (251, 18, 115), (254, 18, 117), (257, 18, 118), (260, 18, 119), (263, 18, 121), (266, 18, 125), (269, 18, 126), (272, 18, 127), (275, 18, 130), (278, 18, 131), (281, 18, 132), (284, 18, 134), (287, 18, 136), (290, 18, 137), (293, 18, 138), (296, 18, 139), (299, 18, 140), (302, 18, 141), (305, 18, 143), (308, 18, 144), (311, 18, 145), (314, 18, 146), (317, 18, 147), (321, 18, 149), (324, 18, 150), (327, 18, 151), (331, 18, 152), (335, 18, 153), (338, 18, 154), (341, 18, 155), (344, 18, 156), (347, 18, 157), (350, 18, 158), (353, 18, 159), (356, 18, 160), (359, 18, 161), (362, 18, 170), (365, 18, 171), (368, 18, 172)], [(3, 16, 0), (371, 1, 10), (379, 9, 12), (383, 10, 26), (387, 6, 0), (65866, 15, 0), (131116, 7, 2), (262231, 14, 0)], [(65913, 64)], [])
/-- SqlStoreModel.letter(I)I -/
def rt_26 : ra_Mt := (({ cls := "SqlStoreModel", name := "letter", desc := "(I)I" } : MethodName), prog_15_method_7_code, 1, (some FieldType.int), [], [], [], [], [])
/-- SqlStoreLaw.feed(LSqlStore;IIIII[J)I -/
def rt_27 : ra_Mt := (({ cls := "SqlStoreLaw", name := "feed", desc := "(LSqlStore;IIIII[J)I" } : MethodName), method_3_code, 8, (some FieldType.int), [(0, 16, 19, 13, "java/lang/IllegalStateException")], [], [(7, 41, 28)], [], [])
/-- SqlStore.feed(IIIII)I -/
def rt_28 : ra_Mt := (({ cls := "SqlStore", name := "feed", desc := "(IIIII)I" } : MethodName), prog_1_method_2_code, 6, (some FieldType.int), [], [(97, 16, 1)], [(107, 9, 29)], [], [])
/-- SqlStore.feedNumber(I)V -/
def rt_29 : ra_Mt := (({ cls := "SqlStore", name := "feedNumber", desc := "(I)V" } : MethodName), prog_1_method_3_code, 3, none, [], [(9, 16, 0), (97, 16, 1)], [], [], [])
/-- SqlStoreModel.feed(IIIII)I -/
def rt_30 : ra_Mt := (({ cls := "SqlStoreModel", name := "feed", desc := "(IIIII)I" } : MethodName), prog_15_method_254_code, 8, (some FieldType.int), [], [(9, 18, 3), (1384, 18, 4)], [(1390, 9, 31)], [], [])
/-- SqlStoreModel.ok(I)I -/
def rt_31 : ra_Mt := (({ cls := "SqlStoreModel", name := "ok", desc := "(I)I" } : MethodName), prog_15_method_4_code, 2, (some FieldType.int), [], [(393, 18, 0)], [], [], [])
/-- SqlStoreModel.thrown()I -/
def rt_32 : ra_Mt := (({ cls := "SqlStoreModel", name := "thrown", desc := "()I" } : MethodName), prog_15_method_2_code, 1, (some FieldType.int), [], [(393, 18, 0)], [], [], [])
/-- SqlStoreLaw.trim(LSqlStore;I[J)I -/
def rt_33 : ra_Mt := (({ cls := "SqlStoreLaw", name := "trim", desc := "(LSqlStore;I[J)I" } : MethodName), method_4_code, 4, (some FieldType.int), [(0, 9, 12, 19, "java/lang/IllegalArgumentException")], [], [(15, 9, 34)], [], [])
/-- SqlStore.trim(I)I -/
def rt_34 : ra_Mt := (({ cls := "SqlStore", name := "trim", desc := "(I)I" } : MethodName), prog_1_method_4_code, 2, (some FieldType.int), [], [(97, 16, 1)], [], [], [(12, 0, "java/lang/IllegalArgumentException", 7, 90)])
/-- SqlStoreModel.trim(I)I -/
def rt_35 : ra_Mt := (({ cls := "SqlStoreModel", name := "trim", desc := "(I)I" } : MethodName), prog_15_method_255_code, 2, (some FieldType.int), [], [(1384, 18, 4)], [(1387, 9, 37), (1390, 9, 31), (1393, 26, 36)], [], [])
/-- SqlStoreModel.isIn(III)Z -/
def rt_36 : ra_Mt := (({ cls := "SqlStoreModel", name := "isIn", desc := "(III)Z" } : MethodName), prog_15_method_5_code, 3, (some FieldType.boolean), [], [], [], [], [])
/-- SqlStoreModel.no(I)I -/
def rt_37 : ra_Mt := (({ cls := "SqlStoreModel", name := "no", desc := "(I)I" } : MethodName), prog_15_method_3_code, 2, (some FieldType.int), [], [(393, 18, 0)], [], [], [])
/-- SqlStoreLaw.prepare(LSqlStore;I[J)I -/
def rt_38 : ra_Mt := (({ cls := "SqlStoreLaw", name := "prepare", desc := "(LSqlStore;I[J)I" } : MethodName), method_5_code, 4, (some FieldType.int), [(0, 9, 12, 24, "java/lang/IndexOutOfBoundsException"), (0, 9, 15, 13, "java/lang/IllegalStateException")], [], [(21, 9, 39)], [], [])
/-- SqlStore.prepare(I)I -/
def rt_39 : ra_Mt := (({ cls := "SqlStore", name := "prepare", desc := "(I)I" } : MethodName), prog_1_method_5_code, 4, (some FieldType.int), [], [(9, 16, 0), (32, 16, 7), (56, 16, 17), (97, 16, 1), (129, 9, 1)], [(116, 9, 40), (119, 1, 43), (122, 1, 44), (125, 25, 45)], [], [])
/-- SqlStore.needSlot(I)V -/
def rt_40 : ra_Mt := (({ cls := "SqlStore", name := "needSlot", desc := "(I)V" } : MethodName), prog_1_method_7_code, 2, none, [], [], [], [], [(10, 0, "java/lang/IndexOutOfBoundsException", 7, 90)])
/-- SqlStoreModel.prepare(I)I -/
def rt_41 : ra_Mt := (({ cls := "SqlStoreModel", name := "prepare", desc := "(I)I" } : MethodName), prog_15_method_256_code, 6, (some FieldType.int), [(40, 134, 135, 402, "SqlStoreModel$Stop")], [(9, 18, 3), (13, 18, 5), (317, 18, 147), (396, 18, 1), (399, 18, 2), (405, 18, 19), (1384, 18, 4)], [(738, 25, 63), (1326, 1, 62), (1329, 1, 65), (1387, 9, 37), (1390, 9, 31), (1396, 10, 42)], [], [])
/-- SqlStoreModel.isSlot(I)Z -/
def rt_42 : ra_Mt := (({ cls := "SqlStoreModel", name := "isSlot", desc := "(I)Z" } : MethodName), prog_15_method_258_code, 1, (some FieldType.boolean), [], [], [(1393, 26, 36)], [], [])
/-- SqlStore.needOpen()V -/
def rt_43 : ra_Mt := (({ cls := "SqlStore", name := "needOpen", desc := "()V" } : MethodName), prog_1_method_8_code, 1, none, [], [(42, 16, 15), (168, 7, 6)], [], [], [])
/-- SqlStore$Parser.clear()V -/
def rt_44 : ra_Mt := (({ cls := "SqlStore$Parser", name := "clear", desc := "()V" } : MethodName), prog_7_method_2_code, 1, none, [], [(49, 9, 20)], [], [], [])
/-- SqlStore$Parser.read([BII)I -/
def rt_45 : ra_Mt := (({ cls := "SqlStore$Parser", name := "read", desc := "([BII)I" } : MethodName), prog_7_method_3_code, 5, (some FieldType.int), [(36, 263, 266, 134, "java/lang/IllegalStateException")], [(12, 9, 0), (26, 9, 5), (73, 9, 16), (84, 13, 12), (136, 9, 9), (139, 9, 1)], [(70, 1, 46), (77, 25, 47), (81, 1, 52), (88, 1, 60)], [], [])
/-- SqlStore$Statement.clear()V -/
def rt_46 : ra_Mt := (({ cls := "SqlStore$Statement", name := "clear", desc := "()V" } : MethodName), prog_11_method_2_code, 1, none, [], [(9, 13, 0), (15, 13, 1), (18, 13, 2), (22, 13, 3), (25, 13, 4), (28, 13, 5), (31, 13, 6), (35, 13, 7), (38, 13, 8), (42, 13, 9), (45, 13, 10), (48, 13, 11), (51, 13, 12), (54, 13, 13), (57, 13, 14), (61, 13, 15)], [], [], [])
/-- SqlStore$Parser.splitText([BII)V -/
def rt_47 : ra_Mt := (({ cls := "SqlStore$Parser", name := "splitText", desc := "([BII)V" } : MethodName), prog_7_method_10_code, 7, none, [], [(18, 9, 2), (22, 9, 4), (26, 9, 5), (142, 9, 14), (154, 9, 7), (236, 9, 3), (237, 9, 11), (240, 9, 13), (243, 9, 15)], [(246, 6, 0), (252, 9, 48), (255, 10, 49), (263, 10, 50), (278, 1, 51)], [], [])
/-- SqlStore$Parser.byteOf(I)I -/
def rt_48 : ra_Mt := (({ cls := "SqlStore$Parser", name := "byteOf", desc := "(I)I" } : MethodName), prog_7_method_11_code, 2, (some FieldType.int), [], [(236, 9, 3)], [], [], [])
/-- SqlStore$Parser.isLetter(I)Z -/
def rt_49 : ra_Mt := (({ cls := "SqlStore$Parser", name := "isLetter", desc := "(I)Z" } : MethodName), prog_7_method_12_code, 1, (some FieldType.boolean), [], [], [], [], [])
/-- SqlStore$Parser.isDigit(I)Z -/
def rt_50 : ra_Mt := (({ cls := "SqlStore$Parser", name := "isDigit", desc := "(I)Z" } : MethodName), prog_7_method_13_code, 1, (some FieldType.boolean), [], [], [], [], [])
/-- SqlStore$Parser.advance()V -/
def rt_51 : ra_Mt := (({ cls := "SqlStore$Parser", name := "advance", desc := "()V" } : MethodName), prog_7_method_20_code, 1, none, [], [(22, 9, 4), (26, 9, 5), (29, 9, 6), (131, 9, 8), (136, 9, 9), (154, 9, 7), (237, 9, 11), (289, 9, 10)], [], [], [])
/-- SqlStore$Parser.reserveNodes()V -/
def rt_52 : ra_Mt := (({ cls := "SqlStore$Parser", name := "reserveNodes", desc := "()V" } : MethodName), prog_7_method_6_code, 3, none, [], [(39, 9, 17), (49, 9, 20), (154, 9, 7)], [(157, 1, 53), (160, 0, 8), (162, 4, 54), (163, 9, 55)], [], [])
/-- java/util/ArrayList.size()I -/
def rt_53 : ra_Mt := (({ cls := "java/util/ArrayList", name := "size", desc := "()I" } : MethodName), prog_46_method_8_code, 1, (some FieldType.int), [], [(48, 3, 2)], [], [], [])
/-- SqlStore$Node.<init>()V -/
def rt_54 : ra_Mt := (({ cls := "SqlStore$Node", name := "<init>", desc := "()V" } : MethodName), prog_6_method_1_code, 1, none, [], [(10, 8, 16)], [(1, 16, 0), (7, 0, 15), (9, 4, 22)], [], [])
/-- java/util/ArrayList.add(Ljava/lang/Object;)Z -/
def rt_55 : ra_Mt := (({ cls := "java/util/ArrayList", name := "add", desc := "(Ljava/lang/Object;)Z" } : MethodName), prog_46_method_25_code, 2, (some FieldType.boolean), [], [(9, 3, 1), (48, 3, 2), (63, 3, 0)], [(131, 25, 56)], [], [])
/-- java/util/ArrayList.add(Ljava/lang/Object;[Ljava/lang/Object;I)V -/
def rt_56 : ra_Mt := (({ cls := "java/util/ArrayList", name := "add", desc := "(Ljava/lang/Object;[Ljava/lang/Object;I)V" } : MethodName), prog_46_method_24_code, 4, none, [], [(48, 3, 2)], [(129, 1, 57)], [], [])
/-- java/util/ArrayList.grow()[Ljava/lang/Object; -/
def rt_57 : ra_Mt := (({ cls := "java/util/ArrayList", name := "grow", desc := "()[Ljava/lang/Object;" } : MethodName), prog_46_method_7_code, 1, (some (FieldType.array (FieldType.object "java/lang/Object"))), [], [(48, 3, 2)], [(69, 9, 58)], [], [])
/-- java/util/ArrayList.grow(I)[Ljava/lang/Object; -/
def rt_58 : ra_Mt := (({ cls := "java/util/ArrayList", name := "grow", desc := "(I)[Ljava/lang/Object;" } : MethodName), prog_46_method_6_code, 4, (some (FieldType.array (FieldType.object "java/lang/Object"))), [], [(9, 3, 1)], [(79, 18, 59), (65543, 21, 0), (131111, 7, 1)], [], [])
/-- java/lang/Math.max(II)I -/
def rt_59 : ra_Mt := (({ cls := "java/lang/Math", name := "max", desc := "(II)I" } : MethodName), prog_32_method_65_code, 2, (some FieldType.int), [], [], [], [], [])
/-- SqlStore$Parser.kindOfStatement()I -/
def rt_60 : ra_Mt := (({ cls := "SqlStore$Parser", name := "kindOfStatement", desc := "()I" } : MethodName), prog_7_method_26_code, 3, (some FieldType.int), [], [(131, 9, 8)], [(128, 1, 61)], [], [])
/-- SqlStore$Parser.fail()V -/
def rt_61 : ra_Mt := (({ cls := "SqlStore$Parser", name := "fail", desc := "()V" } : MethodName), prog_7_method_5_code, 1, none, [], [], [], [], [(0, 0, "java/lang/IllegalStateException", 7, 90)])
/-- SqlStoreModel.forget()V -/
def rt_62 : ra_Mt := (({ cls := "SqlStoreModel", name := "forget", desc := "()V" } : MethodName), prog_15_method_27_code, 1, none, [], [(469, 18, 120), (494, 18, 28), (497, 18, 39), (500, 18, 41), (503, 18, 43), (506, 18, 116), (509, 18, 25), (512, 18, 26)], [], [], [])
/-- SqlStoreModel.begin([BII)V -/
def rt_63 : ra_Mt := (({ cls := "SqlStoreModel", name := "begin", desc := "([BII)V" } : MethodName), prog_15_method_11_code, 4, none, [], [(51, 18, 15), (408, 18, 16), (418, 18, 17), (421, 18, 18), (424, 18, 20), (427, 18, 23), (430, 18, 24)], [(433, 1, 64)], [], [])
/-- SqlStoreModel.advance()V -/
def rt_64 : ra_Mt := (({ cls := "SqlStoreModel", name := "advance", desc := "()V" } : MethodName), prog_15_method_12_code, 2, none, [], [(405, 18, 19), (418, 18, 17), (421, 18, 18), (424, 18, 20), (436, 18, 21)], [], [], [])
/-- SqlStoreModel.statement()V -/
def rt_65 : ra_Mt := (({ cls := "SqlStoreModel", name := "statement", desc := "()V" } : MethodName), prog_15_method_35_code, 1, none, [], [(436, 18, 21), (538, 18, 49), (541, 18, 58), (544, 18, 57), (547, 18, 56)], [(487, 1, 66)], [], [])
/-- SqlStoreModel.bad()LSqlStoreModel$Stop; -/
def rt_66 : ra_Mt := (({ cls := "SqlStoreModel", name := "bad", desc := "()LSqlStoreModel$Stop;" } : MethodName), prog_15_method_10_code, 1, (some (FieldType.object "SqlStoreModel$Stop")), [], [], [(411, 1, 67), (414, 17, 68)], [], [])
/-- SqlStoreModel.place()I -/
def rt_67 : ra_Mt := (({ cls := "SqlStoreModel", name := "place", desc := "()I" } : MethodName), prog_15_method_9_code, 1, (some FieldType.int), [], [(405, 18, 19), (408, 18, 16)], [], [], [])
/-- SqlStoreModel.stop(II)LSqlStoreModel$Stop; -/
def rt_68 : ra_Mt := (({ cls := "SqlStoreModel", name := "stop", desc := "(II)LSqlStoreModel$Stop;" } : MethodName), prog_15_method_6_code, 3, (some (FieldType.object "SqlStoreModel$Stop")), [], [(396, 18, 1), (399, 18, 2)], [], [], [(10, 18, "SqlStoreModel$Stop", 7, 90)])
/-- SqlStore.errorAt()I -/
def rt_69 : ra_Mt := (({ cls := "SqlStore", name := "errorAt", desc := "()I" } : MethodName), prog_1_method_12_code, 1, (some FieldType.int), [], [(32, 16, 7)], [], [], [])
/-- SqlStoreModel.errorAt()I -/
def rt_70 : ra_Mt := (({ cls := "SqlStoreModel", name := "errorAt", desc := "()I" } : MethodName), prog_15_method_260_code, 1, (some FieldType.int), [], [(13, 18, 5)], [(1390, 9, 31)], [], [])
/-- SqlStoreLaw.parameters(LSqlStore;I[J)I -/
def rt_71 : ra_Mt := (({ cls := "SqlStoreLaw", name := "parameters", desc := "(LSqlStore;I[J)I" } : MethodName), method_6_code, 4, (some FieldType.int), [(0, 9, 12, 24, "java/lang/IndexOutOfBoundsException")], [], [(26, 9, 72)], [], [])
/-- SqlStore.parameters(I)I -/
def rt_72 : ra_Mt := (({ cls := "SqlStore", name := "parameters", desc := "(I)I" } : MethodName), prog_1_method_13_code, 2, (some FieldType.int), [], [(20, 16, 4)], [(116, 9, 40)], [], [])
/-- SqlStoreModel.parameters(I)I -/
def rt_73 : ra_Mt := (({ cls := "SqlStoreModel", name := "parameters", desc := "(I)I" } : MethodName), prog_15_method_262_code, 2, (some FieldType.int), [], [], [(1387, 9, 37), (1390, 9, 31), (1396, 10, 42), (1401, 9, 74)], [], [])
/-- SqlStoreModel.manyParameters(I)I -/
def rt_74 : ra_Mt := (({ cls := "SqlStoreModel", name := "manyParameters", desc := "(I)I" } : MethodName), prog_15_method_261_code, 2, (some FieldType.int), [], [(17, 18, 6)], [], [], [])
/-- SqlStoreLaw.bindNumber(LSqlStore;IIJ[J)I -/
def rt_75 : ra_Mt := (({ cls := "SqlStoreLaw", name := "bindNumber", desc := "(LSqlStore;IIJ[J)I" } : MethodName), method_7_code, 7, (some FieldType.int), [(0, 12, 15, 24, "java/lang/IndexOutOfBoundsException"), (0, 12, 19, 13, "java/lang/IllegalStateException"), (0, 12, 23, 19, "java/lang/IllegalArgumentException")], [], [(29, 25, 76)], [], [])
/-- SqlStore.bindNumber(IIJ)I -/
def rt_76 : ra_Mt := (({ cls := "SqlStore", name := "bindNumber", desc := "(IIJ)I" } : MethodName), prog_1_method_16_code, 5, (some FieldType.int), [], [], [(223, 17, 77)], [], [])
/-- SqlStore.needParameter(II)V -/
def rt_77 : ra_Mt := (({ cls := "SqlStore", name := "needParameter", desc := "(II)V" } : MethodName), prog_1_method_14_code, 3, none, [], [], [(116, 9, 40), (218, 9, 80)], [], [])
/-- SqlStoreModel.bindNumber(IIJ)I -/
def rt_78 : ra_Mt := (({ cls := "SqlStoreModel", name := "bindNumber", desc := "(IIJ)I" } : MethodName), prog_15_method_264_code, 6, (some FieldType.int), [], [], [(1387, 9, 37), (1404, 17, 79)], [], [])
/-- SqlStoreModel.refused(II)I -/
def rt_79 : ra_Mt := (({ cls := "SqlStoreModel", name := "refused", desc := "(II)I" } : MethodName), prog_15_method_263_code, 3, (some FieldType.int), [], [(17, 18, 6)], [(1396, 10, 42)], [], [])
/-- SqlStore.needStatement(I)V -/
def rt_80 : ra_Mt := (({ cls := "SqlStore", name := "needStatement", desc := "(I)V" } : MethodName), prog_1_method_9_code, 2, none, [], [(20, 16, 4)], [], [], [(9, 0, "java/lang/IllegalStateException", 7, 90)])
/-- SqlStoreLaw.bindText(LSqlStore;II[J)I -/
def rt_81 : ra_Mt := (({ cls := "SqlStoreLaw", name := "bindText", desc := "(LSqlStore;II[J)I" } : MethodName), method_8_code, 5, (some FieldType.int), [(0, 10, 13, 24, "java/lang/IndexOutOfBoundsException"), (0, 10, 17, 13, "java/lang/IllegalStateException"), (0, 10, 21, 19, "java/lang/IllegalArgumentException")], [], [(33, 17, 82)], [], [])
/-- SqlStore.bindText(II)I -/
def rt_82 : ra_Mt := (({ cls := "SqlStore", name := "bindText", desc := "(II)I" } : MethodName), prog_1_method_17_code, 4, (some FieldType.int), [], [], [(223, 17, 77)], [], [])
/-- SqlStoreModel.bindText(II)I -/
def rt_83 : ra_Mt := (({ cls := "SqlStoreModel", name := "bindText", desc := "(II)I" } : MethodName), prog_15_method_265_code, 5, (some FieldType.int), [], [(1384, 18, 4)], [(1387, 9, 37), (1404, 17, 79)], [], [])
/-- SqlStoreLaw.bindNull(LSqlStore;II[J)I -/
def rt_84 : ra_Mt := (({ cls := "SqlStoreLaw", name := "bindNull", desc := "(LSqlStore;II[J)I" } : MethodName), method_9_code, 5, (some FieldType.int), [(0, 10, 13, 24, "java/lang/IndexOutOfBoundsException"), (0, 10, 17, 13, "java/lang/IllegalStateException"), (0, 10, 21, 19, "java/lang/IllegalArgumentException")], [], [(37, 17, 85)], [], [])
/-- SqlStore.bindNull(II)I -/
def rt_85 : ra_Mt := (({ cls := "SqlStore", name := "bindNull", desc := "(II)I" } : MethodName), prog_1_method_19_code, 3, (some FieldType.int), [], [], [(223, 17, 77)], [], [])
/-- SqlStoreModel.bindNull(II)I -/
def rt_86 : ra_Mt := (({ cls := "SqlStoreModel", name := "bindNull", desc := "(II)I" } : MethodName), prog_15_method_266_code, 4, (some FieldType.int), [], [], [(1387, 9, 37), (1404, 17, 79)], [], [])
/-- SqlStoreLaw.use(LSqlStore;I[J)I -/
def rt_87 : ra_Mt := (({ cls := "SqlStoreLaw", name := "use", desc := "(LSqlStore;I[J)I" } : MethodName), method_10_code, 4, (some FieldType.int), [(0, 9, 12, 24, "java/lang/IndexOutOfBoundsException")], [], [(40, 9, 88)], [], [])
/-- SqlStore.use(I)I -/
def rt_88 : ra_Mt := (({ cls := "SqlStore", name := "use", desc := "(I)I" } : MethodName), prog_1_method_20_code, 3, (some FieldType.int), [], [(178, 16, 8)], [(247, 9, 89)], [], [])
/-- SqlStore.needClient(I)V -/
def rt_89 : ra_Mt := (({ cls := "SqlStore", name := "needClient", desc := "(I)V" } : MethodName), prog_1_method_10_code, 2, none, [], [], [], [], [(9, 0, "java/lang/IndexOutOfBoundsException", 7, 90)])
/-- SqlStoreModel.use(I)I -/
def rt_90 : ra_Mt := (({ cls := "SqlStoreModel", name := "use", desc := "(I)I" } : MethodName), prog_15_method_267_code, 3, (some FieldType.int), [], [(1286, 18, 148)], [(1387, 9, 37), (1390, 9, 31), (1407, 10, 91)], [], [])
/-- SqlStoreModel.isClient(I)Z -/
def rt_91 : ra_Mt := (({ cls := "SqlStoreModel", name := "isClient", desc := "(I)Z" } : MethodName), prog_15_method_259_code, 1, (some FieldType.boolean), [], [], [(1393, 26, 36)], [], [])
/-- SqlStore.client()I -/
def rt_92 : ra_Mt := (({ cls := "SqlStore", name := "client", desc := "()I" } : MethodName), prog_1_method_21_code, 1, (some FieldType.int), [], [(178, 16, 8)], [], [], [])
/-- SqlStoreModel.client()I -/
def rt_93 : ra_Mt := (({ cls := "SqlStoreModel", name := "client", desc := "()I" } : MethodName), prog_15_method_268_code, 1, (some FieldType.int), [], [(1286, 18, 148)], [(1390, 9, 31)], [], [])
/-- SqlStoreLaw.run(LSqlStore;I[J)I -/
def rt_94 : ra_Mt := (({ cls := "SqlStoreLaw", name := "run", desc := "(LSqlStore;I[J)I" } : MethodName), method_11_code, 4, (some FieldType.int), [(0, 9, 12, 24, "java/lang/IndexOutOfBoundsException"), (0, 9, 15, 13, "java/lang/IllegalStateException")], [], [(43, 9, 95)], [], [])
/-- SqlStore.run(I)I -/
def rt_95 : ra_Mt := (({ cls := "SqlStore", name := "run", desc := "(I)I" } : MethodName), prog_1_method_22_code, 6, (some FieldType.int), [(197, 356, 359, 100, "java/lang/IllegalStateException"), (197, 356, 373, 317, "java/lang/UnsupportedOperationException")], [], [(116, 9, 40), (119, 1, 43), (218, 9, 80)], [], [])
/-- SqlStoreModel.run(I)I -/
def rt_96 : ra_Mt := (({ cls := "SqlStoreModel", name := "run", desc := "(I)I" } : MethodName), prog_15_method_269_code, 2, (some FieldType.int), [], [(17, 18, 6), (317, 18, 147)], [(1387, 9, 37), (1396, 10, 42)], [], [])
/-- SqlStore.code()I -/
def rt_97 : ra_Mt := (({ cls := "SqlStore", name := "code", desc := "()I" } : MethodName), prog_1_method_26_code, 1, (some FieldType.int), [], [(264, 16, 9)], [], [], [])
/-- SqlStoreModel.code()I -/
def rt_98 : ra_Mt := (({ cls := "SqlStoreModel", name := "code", desc := "()I" } : MethodName), prog_15_method_270_code, 1, (some FieldType.int), [], [(1413, 18, 165)], [(1390, 9, 31)], [], [])
/-- SqlStore.rows()I -/
def rt_99 : ra_Mt := (({ cls := "SqlStore", name := "rows", desc := "()I" } : MethodName), prog_1_method_27_code, 1, (some FieldType.int), [], [(334, 16, 10)], [], [], [])
/-- SqlStoreModel.rows()I -/
def rt_100 : ra_Mt := (({ cls := "SqlStoreModel", name := "rows", desc := "()I" } : MethodName), prog_15_method_271_code, 1, (some FieldType.int), [], [(1372, 18, 166)], [(1390, 9, 31)], [], [])
/-- SqlStore.columns()I -/
def rt_101 : ra_Mt := (({ cls := "SqlStore", name := "columns", desc := "()I" } : MethodName), prog_1_method_28_code, 1, (some FieldType.int), [], [(337, 16, 11)], [], [], [])
/-- SqlStoreModel.columns()I -/
def rt_102 : ra_Mt := (({ cls := "SqlStoreModel", name := "columns", desc := "()I" } : MethodName), prog_15_method_272_code, 1, (some FieldType.int), [], [(1375, 18, 167)], [(1390, 9, 31)], [], [])
/-- SqlStore.changed()I -/
def rt_103 : ra_Mt := (({ cls := "SqlStore", name := "changed", desc := "()I" } : MethodName), prog_1_method_29_code, 1, (some FieldType.int), [], [(330, 16, 12)], [], [], [])
/-- SqlStoreModel.changed()I -/
def rt_104 : ra_Mt := (({ cls := "SqlStoreModel", name := "changed", desc := "()I" } : MethodName), prog_15_method_273_code, 1, (some FieldType.int), [], [(1219, 18, 168)], [(1390, 9, 31)], [], [])
/-- SqlStore.steps()I -/
def rt_105 : ra_Mt := (({ cls := "SqlStore", name := "steps", desc := "()I" } : MethodName), prog_1_method_30_code, 1, (some FieldType.int), [], [(326, 16, 13)], [], [], [])
/-- SqlStoreModel.steps()I -/
def rt_106 : ra_Mt := (({ cls := "SqlStoreModel", name := "steps", desc := "()I" } : MethodName), prog_15_method_274_code, 1, (some FieldType.int), [], [(978, 18, 169)], [(1390, 9, 31)], [], [])
/-- SqlStoreLaw.kindAt(LSqlStore;II[J)I -/
def rt_107 : ra_Mt := (({ cls := "SqlStoreLaw", name := "kindAt", desc := "(LSqlStore;II[J)I" } : MethodName), method_12_code, 5, (some FieldType.int), [(0, 10, 13, 24, "java/lang/IndexOutOfBoundsException")], [], [(46, 17, 108)], [], [])
/-- SqlStore.kindAt(II)I -/
def rt_108 : ra_Mt := (({ cls := "SqlStore", name := "kindAt", desc := "(II)I" } : MethodName), prog_1_method_32_code, 3, (some FieldType.int), [], [], [(370, 17, 109)], [], [])
/-- SqlStore.toldAt(II)LSqlStore$Value; -/
def rt_109 : ra_Mt := (({ cls := "SqlStore", name := "toldAt", desc := "(II)LSqlStore$Value;" } : MethodName), prog_1_method_31_code, 3, (some (FieldType.object "SqlStore$Value")), [], [(334, 16, 10)], [], [], [(18, 0, "java/lang/IndexOutOfBoundsException", 7, 90)])
/-- SqlStoreModel.kindAt(II)I -/
def rt_110 : ra_Mt := (({ cls := "SqlStoreModel", name := "kindAt", desc := "(II)I" } : MethodName), prog_15_method_276_code, 3, (some FieldType.int), [], [], [(1387, 9, 37), (1416, 17, 111)], [], [])
/-- SqlStoreModel.isTold(II)Z -/
def rt_111 : ra_Mt := (({ cls := "SqlStoreModel", name := "isTold", desc := "(II)Z" } : MethodName), prog_15_method_275_code, 3, (some FieldType.boolean), [], [(1372, 18, 166)], [(1393, 26, 36)], [], [])
/-- SqlStoreLaw.numberAt(LSqlStore;II[J)I -/
def rt_112 : ra_Mt := (({ cls := "SqlStoreLaw", name := "numberAt", desc := "(LSqlStore;II[J)I" } : MethodName), method_13_code, 5, (some FieldType.int), [(0, 9, 12, 24, "java/lang/IndexOutOfBoundsException")], [], [(49, 17, 113)], [], [])
/-- SqlStore.numberAt(II)J -/
def rt_113 : ra_Mt := (({ cls := "SqlStore", name := "numberAt", desc := "(II)J" } : MethodName), prog_1_method_33_code, 3, (some FieldType.long), [], [], [(370, 17, 109)], [], [])
/-- SqlStoreModel.numberAt(II)J -/
def rt_114 : ra_Mt := (({ cls := "SqlStoreModel", name := "numberAt", desc := "(II)J" } : MethodName), prog_15_method_277_code, 3, (some FieldType.long), [], [], [(1387, 9, 37), (1416, 17, 111)], [], [])
/-- SqlStoreLaw.lengthAt(LSqlStore;II[J)I -/
def rt_115 : ra_Mt := (({ cls := "SqlStoreLaw", name := "lengthAt", desc := "(LSqlStore;II[J)I" } : MethodName), method_14_code, 5, (some FieldType.int), [(0, 10, 13, 24, "java/lang/IndexOutOfBoundsException")], [], [(53, 17, 116)], [], [])
/-- SqlStore.lengthAt(II)I -/
def rt_116 : ra_Mt := (({ cls := "SqlStore", name := "lengthAt", desc := "(II)I" } : MethodName), prog_1_method_34_code, 4, (some FieldType.int), [], [], [(370, 17, 109)], [], [])
/-- SqlStoreModel.lengthAt(II)I -/
def rt_117 : ra_Mt := (({ cls := "SqlStoreModel", name := "lengthAt", desc := "(II)I" } : MethodName), prog_15_method_279_code, 3, (some FieldType.int), [], [], [(1387, 9, 37), (1416, 17, 111)], [], [])
/-- SqlStoreLaw.byteAt(LSqlStore;III[J)I -/
def rt_118 : ra_Mt := (({ cls := "SqlStoreLaw", name := "byteAt", desc := "(LSqlStore;III[J)I" } : MethodName), method_15_code, 6, (some FieldType.int), [(0, 12, 15, 24, "java/lang/IndexOutOfBoundsException")], [], [(56, 25, 119)], [], [])
/-- SqlStore.byteAt(III)I -/
def rt_119 : ra_Mt := (({ cls := "SqlStore", name := "byteAt", desc := "(III)I" } : MethodName), prog_1_method_35_code, 5, (some FieldType.int), [], [], [(370, 17, 109)], [], [])
/-- SqlStoreModel.byteAt(III)I -/
def rt_120 : ra_Mt := (({ cls := "SqlStoreModel", name := "byteAt", desc := "(III)I" } : MethodName), prog_15_method_280_code, 4, (some FieldType.int), [], [], [(1387, 9, 37), (1416, 17, 111)], [], [])
/-- SqlStoreLaw.indexUsed(LSqlStore;II[J)I -/
def rt_121 : ra_Mt := (({ cls := "SqlStoreLaw", name := "indexUsed", desc := "(LSqlStore;II[J)I" } : MethodName), method_16_code, 5, (some FieldType.int), [(0, 10, 13, 24, "java/lang/IndexOutOfBoundsException"), (0, 10, 17, 13, "java/lang/IllegalStateException")], [], [(60, 17, 122)], [], [])
/-- SqlStore.indexUsed(II)I -/
def rt_122 : ra_Mt := (({ cls := "SqlStore", name := "indexUsed", desc := "(II)I" } : MethodName), prog_1_method_36_code, 4, (some FieldType.int), [], [], [(116, 9, 40), (119, 1, 43), (218, 9, 80)], [], [])
/-- SqlStoreModel.indexUsed(II)I -/
def rt_123 : ra_Mt := (({ cls := "SqlStoreModel", name := "indexUsed", desc := "(II)I" } : MethodName), prog_15_method_282_code, 4, (some FieldType.int), [], [(17, 18, 6), (317, 18, 147)], [(1387, 9, 37), (1396, 10, 42)], [], [])
/-- SqlStoreLaw.worthOf(LSqlStore;II[J)I -/
def rt_124 : ra_Mt := (({ cls := "SqlStoreLaw", name := "worthOf", desc := "(LSqlStore;II[J)I" } : MethodName), method_17_code, 5, (some FieldType.int), [(0, 10, 13, 24, "java/lang/IndexOutOfBoundsException"), (0, 10, 17, 13, "java/lang/IllegalStateException")], [], [(63, 17, 125)], [], [])
/-- SqlStore.worthOf(II)I -/
def rt_125 : ra_Mt := (({ cls := "SqlStore", name := "worthOf", desc := "(II)I" } : MethodName), prog_1_method_37_code, 4, (some FieldType.int), [], [], [(116, 9, 40), (119, 1, 43), (218, 9, 80)], [], [])
/-- SqlStoreModel.worthOf(II)I -/
def rt_126 : ra_Mt := (({ cls := "SqlStoreModel", name := "worthOf", desc := "(II)I" } : MethodName), prog_15_method_283_code, 4, (some FieldType.int), [], [(17, 18, 6), (317, 18, 147)], [(1387, 9, 37), (1396, 10, 42)], [], [])
/-- SqlStoreLaw.inTransaction(LSqlStore;I[J)I -/
def rt_127 : ra_Mt := (({ cls := "SqlStoreLaw", name := "inTransaction", desc := "(LSqlStore;I[J)I" } : MethodName), method_18_code, 4, (some FieldType.int), [(0, 16, 19, 24, "java/lang/IndexOutOfBoundsException")], [], [(66, 9, 128)], [], [])
/-- SqlStore.inTransaction(I)Z -/
def rt_128 : ra_Mt := (({ cls := "SqlStore", name := "inTransaction", desc := "(I)Z" } : MethodName), prog_1_method_39_code, 2, (some FieldType.boolean), [], [(42, 16, 15), (410, 7, 9)], [(247, 9, 89)], [], [])
/-- SqlStoreModel.inTransaction(I)Z -/
def rt_129 : ra_Mt := (({ cls := "SqlStoreModel", name := "inTransaction", desc := "(I)Z" } : MethodName), prog_15_method_284_code, 2, (some FieldType.boolean), [], [(324, 18, 150), (393, 18, 0)], [(1407, 10, 91)], [], [])
/-- SqlStoreLaw.markOf(LSqlStore;I[J)I -/
def rt_130 : ra_Mt := (({ cls := "SqlStoreLaw", name := "markOf", desc := "(LSqlStore;I[J)I" } : MethodName), method_19_code, 4, (some FieldType.int), [(0, 9, 12, 24, "java/lang/IndexOutOfBoundsException")], [], [(70, 9, 131)], [], [])
/-- SqlStore.markOf(I)I -/
def rt_131 : ra_Mt := (({ cls := "SqlStore", name := "markOf", desc := "(I)I" } : MethodName), prog_1_method_40_code, 2, (some FieldType.int), [], [(42, 16, 15), (414, 7, 8)], [(247, 9, 89)], [], [])
/-- SqlStoreModel.markOf(I)I -/
def rt_132 : ra_Mt := (({ cls := "SqlStoreModel", name := "markOf", desc := "(I)I" } : MethodName), prog_15_method_285_code, 2, (some FieldType.int), [], [(327, 18, 151)], [(1387, 9, 37), (1390, 9, 31), (1407, 10, 91)], [], [])
/-- SqlStore.writer()I -/
def rt_133 : ra_Mt := (({ cls := "SqlStore", name := "writer", desc := "()I" } : MethodName), prog_1_method_41_code, 1, (some FieldType.int), [], [(42, 16, 15), (417, 7, 7)], [], [], [])
/-- SqlStoreModel.writer()I -/
def rt_134 : ra_Mt := (({ cls := "SqlStoreModel", name := "writer", desc := "()I" } : MethodName), prog_15_method_286_code, 1, (some FieldType.int), [], [(321, 18, 149)], [(1390, 9, 31)], [], [])
/-- SqlStoreLaw.savepoints(LSqlStore;I[J)I -/
def rt_135 : ra_Mt := (({ cls := "SqlStoreLaw", name := "savepoints", desc := "(LSqlStore;I[J)I" } : MethodName), method_20_code, 4, (some FieldType.int), [(0, 9, 12, 24, "java/lang/IndexOutOfBoundsException")], [], [(73, 9, 136)], [], [])
/-- SqlStore.savepoints(I)I -/
def rt_136 : ra_Mt := (({ cls := "SqlStore", name := "savepoints", desc := "(I)I" } : MethodName), prog_1_method_42_code, 2, (some FieldType.int), [], [(42, 16, 15), (420, 7, 10)], [(247, 9, 89)], [], [])
/-- SqlStoreModel.savepoints(I)I -/
def rt_137 : ra_Mt := (({ cls := "SqlStoreModel", name := "savepoints", desc := "(I)I" } : MethodName), prog_15_method_287_code, 2, (some FieldType.int), [], [(335, 18, 153)], [(1387, 9, 37), (1390, 9, 31), (1407, 10, 91)], [], [])
/-- SqlStoreLaw.framesDue(LSqlStore;[J)I -/
def rt_138 : ra_Mt := (({ cls := "SqlStoreLaw", name := "framesDue", desc := "(LSqlStore;[J)I" } : MethodName), method_21_code, 3, (some FieldType.int), [(0, 8, 11, 13, "java/lang/IllegalStateException")], [], [(76, 1, 139)], [], [])
/-- SqlStore.framesDue()I -/
def rt_139 : ra_Mt := (({ cls := "SqlStore", name := "framesDue", desc := "()I" } : MethodName), prog_1_method_43_code, 1, (some FieldType.int), [], [(42, 16, 15), (178, 16, 8)], [(119, 1, 43), (423, 9, 140)], [], [])
/-- SqlStore$Log.dueFrames(I)I -/
def rt_140 : ra_Mt := (({ cls := "SqlStore$Log", name := "dueFrames", desc := "(I)I" } : MethodName), prog_5_method_8_code, 2, (some FieldType.int), [], [], [(98, 9, 141), (102, 10, 143)], [], [])
/-- SqlStore$Log.changedPages(I)J -/
def rt_141 : ra_Mt := (({ cls := "SqlStore$Log", name := "changedPages", desc := "(I)J" } : MethodName), prog_5_method_9_code, 5, (some FieldType.long), [], [(29, 7, 8)], [(72, 10, 142)], [], [])
/-- SqlStore$Log.isClient(I)Z -/
def rt_142 : ra_Mt := (({ cls := "SqlStore$Log", name := "isClient", desc := "(I)Z" } : MethodName), prog_5_method_2_code, 1, (some FieldType.boolean), [], [], [], [], [])
/-- java/lang/Long.bitCount(J)I -/
def rt_143 : ra_Mt := (({ cls := "java/lang/Long", name := "bitCount", desc := "(J)I" } : MethodName), prog_31_method_50_code, 2, (some FieldType.int), [], [], [], [(65850, 6148914691236517205), (65852, 3689348814741910323), (65854, 1085102592571150095)], [])
/-- SqlStoreModel.framesDue()I -/
def rt_144 : ra_Mt := (({ cls := "SqlStoreModel", name := "framesDue", desc := "()I" } : MethodName), prog_15_method_289_code, 1, (some FieldType.int), [], [(317, 18, 147)], [(1390, 9, 31), (1424, 1, 145)], [], [])
/-- SqlStoreModel.framesOwed()I -/
def rt_145 : ra_Mt := (({ cls := "SqlStoreModel", name := "framesOwed", desc := "()I" } : MethodName), prog_15_method_288_code, 1, (some FieldType.int), [], [(321, 18, 149), (1286, 18, 148)], [], [], [])
/-- SqlStoreLaw.pages(LSqlStore;[J)I -/
def rt_146 : ra_Mt := (({ cls := "SqlStoreLaw", name := "pages", desc := "(LSqlStore;[J)I" } : MethodName), method_22_code, 3, (some FieldType.int), [(0, 8, 11, 13, "java/lang/IllegalStateException")], [], [(80, 1, 147)], [], [])
/-- SqlStore.pages()I -/
def rt_147 : ra_Mt := (({ cls := "SqlStore", name := "pages", desc := "()I" } : MethodName), prog_1_method_44_code, 1, (some FieldType.int), [], [(42, 16, 15), (49, 16, 16), (178, 16, 8)], [(119, 1, 43), (181, 9, 148), (185, 9, 151), (426, 1, 152)], [], [])
/-- SqlStore$Log.view(I)[B -/
def rt_148 : ra_Mt := (({ cls := "SqlStore$Log", name := "view", desc := "(I)[B" } : MethodName), prog_5_method_4_code, 2, (some (FieldType.array FieldType.byte)), [], [(25, 7, 7), (29, 7, 8), (54, 7, 15)], [(72, 10, 142), (76, 1, 149), (80, 9, 150)], [], [])
/-- SqlStore$Log.frames()I -/
def rt_149 : ra_Mt := (({ cls := "SqlStore$Log", name := "frames", desc := "()I" } : MethodName), prog_5_method_3_code, 1, (some FieldType.int), [], [(69, 7, 3)], [], [], [])
/-- SqlStore$Log.show(I)V -/
def rt_150 : ra_Mt := (({ cls := "SqlStore$Log", name := "show", desc := "(I)V" } : MethodName), prog_5_method_5_code, 3, none, [], [(9, 7, 0), (54, 7, 15), (57, 7, 16)], [(84, 6, 0)], [], [])
/-- SqlStore$Tree.show([B)V -/
def rt_151 : ra_Mt := (({ cls := "SqlStore$Tree", name := "show", desc := "([B)V" } : MethodName), prog_12_method_2_code, 2, none, [], [(9, 14, 0)], [], [], [])
/-- SqlStore$Tree.pageCount()I -/
def rt_152 : ra_Mt := (({ cls := "SqlStore$Tree", name := "pageCount", desc := "()I" } : MethodName), prog_12_method_12_code, 1, (some FieldType.int), [], [], [(49, 9, 153)], [], [])
/-- SqlStore$Tree.at(I)I -/
def rt_153 : ra_Mt := (({ cls := "SqlStore$Tree", name := "at", desc := "(I)I" } : MethodName), prog_12_method_4_code, 2, (some FieldType.int), [], [(9, 14, 0)], [], [], [])
/-- SqlStoreModel.pages()I -/
def rt_154 : ra_Mt := (({ cls := "SqlStoreModel", name := "pages", desc := "()I" } : MethodName), prog_15_method_294_code, 1, (some FieldType.int), [], [], [(729, 9, 157), (1390, 9, 31), (1433, 1, 155)], [], [])
/-- SqlStoreModel.isShut()Z -/
def rt_155 : ra_Mt := (({ cls := "SqlStoreModel", name := "isShut", desc := "()Z" } : MethodName), prog_15_method_290_code, 1, (some FieldType.boolean), [], [(317, 18, 147), (717, 18, 129)], [(1332, 1, 156)], [], [])
/-- SqlStoreModel.seen()[B -/
def rt_156 : ra_Mt := (({ cls := "SqlStoreModel", name := "seen", desc := "()[B" } : MethodName), prog_15_method_232_code, 1, (some (FieldType.array FieldType.byte)), [], [(327, 18, 151), (350, 18, 158), (1286, 18, 148)], [], [], [])
/-- SqlStoreModel.byteAt(I)I -/
def rt_157 : ra_Mt := (({ cls := "SqlStoreModel", name := "byteAt", desc := "(I)I" } : MethodName), prog_15_method_74_code, 2, (some FieldType.int), [], [(717, 18, 129)], [], [], [])
/-- SqlStoreLaw.freePages(LSqlStore;[J)I -/
def rt_158 : ra_Mt := (({ cls := "SqlStoreLaw", name := "freePages", desc := "(LSqlStore;[J)I" } : MethodName), method_23_code, 3, (some FieldType.int), [(0, 8, 11, 13, "java/lang/IllegalStateException")], [], [(83, 1, 159)], [], [])
/-- SqlStore.freePages()I -/
def rt_159 : ra_Mt := (({ cls := "SqlStore", name := "freePages", desc := "()I" } : MethodName), prog_1_method_45_code, 1, (some FieldType.int), [], [(42, 16, 15), (49, 16, 16), (178, 16, 8)], [(119, 1, 43), (181, 9, 148), (185, 9, 151), (429, 1, 160)], [], [])
/-- SqlStore$Tree.freeCount()I -/
def rt_160 : ra_Mt := (({ cls := "SqlStore$Tree", name := "freeCount", desc := "()I" } : MethodName), prog_12_method_13_code, 3, (some FieldType.int), [], [], [(49, 9, 153)], [], [])
/-- SqlStoreModel.freePages()I -/
def rt_161 : ra_Mt := (({ cls := "SqlStoreModel", name := "freePages", desc := "()I" } : MethodName), prog_15_method_295_code, 1, (some FieldType.int), [], [], [(1390, 9, 31), (1433, 1, 155), (1436, 1, 162)], [], [])
/-- SqlStoreModel.manyFree()I -/
def rt_162 : ra_Mt := (({ cls := "SqlStoreModel", name := "manyFree", desc := "()I" } : MethodName), prog_15_method_291_code, 3, (some FieldType.int), [], [], [(729, 9, 157)], [], [])
/-- SqlStoreLaw.treePages(LSqlStore;[J)I -/
def rt_163 : ra_Mt := (({ cls := "SqlStoreLaw", name := "treePages", desc := "(LSqlStore;[J)I" } : MethodName), method_24_code, 3, (some FieldType.int), [(0, 8, 11, 13, "java/lang/IllegalStateException")], [], [(86, 1, 164)], [], [])
/-- SqlStore.treePages()I -/
def rt_164 : ra_Mt := (({ cls := "SqlStore", name := "treePages", desc := "()I" } : MethodName), prog_1_method_46_code, 1, (some FieldType.int), [], [], [(119, 1, 43), (132, 1, 165), (432, 1, 174)], [], [])
/-- SqlStore.look()V -/
def rt_165 : ra_Mt := (({ cls := "SqlStore", name := "look", desc := "()V" } : MethodName), prog_1_method_11_code, 3, none, [], [(42, 16, 15), (49, 16, 16), (68, 16, 19), (178, 16, 8)], [(181, 9, 148), (185, 9, 151), (189, 1, 166)], [], [])
/-- SqlStore$Checker.isUpToDate()Z -/
def rt_166 : ra_Mt := (({ cls := "SqlStore$Checker", name := "isUpToDate", desc := "()Z" } : MethodName), prog_3_method_2_code, 2, (some FieldType.boolean), [], [(32, 5, 7), (40, 5, 12), (50, 14, 1)], [(44, 9, 167), (60, 1, 173)], [], [])
/-- SqlStore$Tree.seekFirst(I)V -/
def rt_167 : ra_Mt := (({ cls := "SqlStore$Tree", name := "seekFirst", desc := "(I)V" } : MethodName), prog_12_method_22_code, 2, none, [], [(15, 14, 1)], [(81, 25, 168), (85, 1, 172), (131160, 8, 0)], [], [])
/-- SqlStore$Tree.descend(I[BI)V -/
def rt_168 : ra_Mt := (({ cls := "SqlStore$Tree", name := "descend", desc := "(I[BI)V" } : MethodName), prog_12_method_20_code, 11, none, [], [(15, 14, 1), (23, 14, 3), (26, 14, 4), (67, 14, 5), (78, 14, 6)], [(38, 9, 170), (46, 9, 171), (70, 9, 169)], [], [])
/-- SqlStore$Tree.isInner(I)Z -/
def rt_169 : ra_Mt := (({ cls := "SqlStore$Tree", name := "isInner", desc := "(I)Z" } : MethodName), prog_12_method_7_code, 2, (some FieldType.boolean), [], [(9, 14, 0)], [], [], [])
/-- SqlStore$Tree.count(I)I -/
def rt_170 : ra_Mt := (({ cls := "SqlStore$Tree", name := "count", desc := "(I)I" } : MethodName), prog_12_method_6_code, 2, (some FieldType.int), [], [(9, 14, 0)], [], [], [])
/-- SqlStore$Tree.firstChild(I)I -/
def rt_171 : ra_Mt := (({ cls := "SqlStore$Tree", name := "firstChild", desc := "(I)I" } : MethodName), prog_12_method_8_code, 2, (some FieldType.int), [], [(9, 14, 0)], [], [], [])
/-- SqlStore$Tree.nextLeaf()V -/
def rt_172 : ra_Mt := (({ cls := "SqlStore$Tree", name := "nextLeaf", desc := "()V" } : MethodName), prog_12_method_26_code, 4, none, [], [(15, 14, 1), (67, 14, 5)], [], [], [])
/-- SqlStore$Checker.isKnown()Z -/
def rt_173 : ra_Mt := (({ cls := "SqlStore$Checker", name := "isKnown", desc := "()Z" } : MethodName), prog_3_method_3_code, 2, (some FieldType.boolean), [], [(40, 5, 12), (70, 5, 10)], [], [], [])
/-- SqlStore.countTreePages()I -/
def rt_174 : ra_Mt := (({ cls := "SqlStore", name := "countTreePages", desc := "()I" } : MethodName), prog_1_method_47_code, 4, (some FieldType.int), [], [(49, 16, 16)], [(435, 1, 175), (438, 9, 176), (441, 9, 177)], [], [])
/-- SqlStore.countTrees()I -/
def rt_175 : ra_Mt := (({ cls := "SqlStore", name := "countTrees", desc := "()I" } : MethodName), prog_1_method_49_code, 4, (some FieldType.int), [], [(68, 16, 19), (193, 5, 1)], [], [], [])
/-- SqlStore.rootOfTree(I)I -/
def rt_176 : ra_Mt := (({ cls := "SqlStore", name := "rootOfTree", desc := "(I)I" } : MethodName), prog_1_method_50_code, 5, (some FieldType.int), [], [(68, 16, 19), (193, 5, 1)], [], [], [])
/-- SqlStore$Tree.collect(I)I -/
def rt_177 : ra_Mt := (({ cls := "SqlStore$Tree", name := "collect", desc := "(I)I" } : MethodName), prog_12_method_29_code, 6, (some FieldType.int), [], [(19, 14, 2), (35, 14, 10)], [(70, 9, 169)], [], [])
/-- SqlStoreModel.treePages()I -/
def rt_178 : ra_Mt := (({ cls := "SqlStoreModel", name := "treePages", desc := "()I" } : MethodName), prog_15_method_296_code, 1, (some FieldType.int), [], [], [(1390, 9, 31), (1433, 1, 155), (1439, 1, 179)], [], [])
/-- SqlStoreModel.allTreePages()I -/
def rt_179 : ra_Mt := (({ cls := "SqlStoreModel", name := "allTreePages", desc := "()I" } : MethodName), prog_15_method_293_code, 4, (some FieldType.int), [], [(314, 18, 146)], [(1427, 1, 180), (1430, 9, 185)], [], [])
/-- SqlStoreModel.findRoots()I -/
def rt_180 : ra_Mt := (({ cls := "SqlStoreModel", name := "findRoots", desc := "()I" } : MethodName), prog_15_method_292_code, 8, (some FieldType.int), [], [(275, 18, 130), (314, 18, 146)], [(726, 9, 181), (1099, 9, 184)], [], [])
/-- SqlStoreModel.leaves(I)I -/
def rt_181 : ra_Mt := (({ cls := "SqlStoreModel", name := "leaves", desc := "(I)I" } : MethodName), prog_15_method_182_code, 4, (some FieldType.int), [], [(275, 18, 130), (278, 18, 131)], [(1102, 9, 182), (1111, 9, 183)], [], [])
/-- SqlStoreModel.kindOf(I)I -/
def rt_182 : ra_Mt := (({ cls := "SqlStoreModel", name := "kindOf", desc := "(I)I" } : MethodName), prog_15_method_176_code, 2, (some FieldType.int), [], [], [(729, 9, 157)], [], [])
/-- SqlStoreModel.unfold(I)I -/
def rt_183 : ra_Mt := (({ cls := "SqlStoreModel", name := "unfold", desc := "(I)I" } : MethodName), prog_15_method_181_code, 6, (some FieldType.int), [], [(278, 18, 131)], [(1102, 9, 182)], [], [])
/-- SqlStoreModel.cellsOf(I)I -/
def rt_184 : ra_Mt := (({ cls := "SqlStoreModel", name := "cellsOf", desc := "(I)I" } : MethodName), prog_15_method_177_code, 2, (some FieldType.int), [], [], [(729, 9, 157)], [], [])
/-- SqlStoreModel.pagesOf(I)I -/
def rt_185 : ra_Mt := (({ cls := "SqlStoreModel", name := "pagesOf", desc := "(I)I" } : MethodName), prog_15_method_183_code, 4, (some FieldType.int), [], [(278, 18, 131)], [(1111, 9, 183)], [], [])
/-- SqlStoreLaw.pageByte(LSqlStore;II[J)I -/
def rt_186 : ra_Mt := (({ cls := "SqlStoreLaw", name := "pageByte", desc := "(LSqlStore;II[J)I" } : MethodName), method_25_code, 5, (some FieldType.int), [(0, 10, 13, 13, "java/lang/IllegalStateException"), (0, 10, 17, 24, "java/lang/IndexOutOfBoundsException")], [], [(89, 17, 187)], [], [])
/-- SqlStore.pageByte(II)I -/
def rt_187 : ra_Mt := (({ cls := "SqlStore", name := "pageByte", desc := "(II)I" } : MethodName), prog_1_method_48_code, 3, (some FieldType.int), [], [(42, 16, 15), (49, 16, 16), (178, 16, 8)], [(119, 1, 43), (181, 9, 148), (185, 9, 151), (426, 1, 152), (446, 9, 153)], [], [(37, 0, "java/lang/IndexOutOfBoundsException", 7, 90), (59, 0, "java/lang/IndexOutOfBoundsException", 7, 90)])
/-- SqlStoreModel.pageByte(II)I -/
def rt_188 : ra_Mt := (({ cls := "SqlStoreModel", name := "pageByte", desc := "(II)I" } : MethodName), prog_15_method_297_code, 3, (some FieldType.int), [], [], [(729, 9, 157), (1387, 9, 37), (1390, 9, 31), (1393, 26, 36), (1433, 1, 155)], [], [])
/-- SqlStoreLaw.trees(LSqlStore;[J)I -/
def rt_189 : ra_Mt := (({ cls := "SqlStoreLaw", name := "trees", desc := "(LSqlStore;[J)I" } : MethodName), method_26_code, 3, (some FieldType.int), [(0, 8, 11, 13, "java/lang/IllegalStateException")], [], [(92, 1, 190)], [], [])
/-- SqlStore.trees()I -/
def rt_190 : ra_Mt := (({ cls := "SqlStore", name := "trees", desc := "()I" } : MethodName), prog_1_method_52_code, 1, (some FieldType.int), [], [], [(119, 1, 43), (132, 1, 165), (435, 1, 175)], [], [])
/-- SqlStoreModel.trees()I -/
def rt_191 : ra_Mt := (({ cls := "SqlStoreModel", name := "trees", desc := "()I" } : MethodName), prog_15_method_298_code, 1, (some FieldType.int), [], [], [(1390, 9, 31), (1427, 1, 180), (1433, 1, 155)], [], [])
/-- SqlStoreLaw.rootOf(LSqlStore;I[J)I -/
def rt_192 : ra_Mt := (({ cls := "SqlStoreLaw", name := "rootOf", desc := "(LSqlStore;I[J)I" } : MethodName), method_27_code, 4, (some FieldType.int), [(0, 9, 12, 13, "java/lang/IllegalStateException"), (0, 9, 15, 24, "java/lang/IndexOutOfBoundsException")], [], [(95, 9, 193)], [], [])
/-- SqlStore.rootOf(I)I -/
def rt_193 : ra_Mt := (({ cls := "SqlStore", name := "rootOf", desc := "(I)I" } : MethodName), prog_1_method_53_code, 2, (some FieldType.int), [], [], [(119, 1, 43), (132, 1, 165), (438, 9, 176), (455, 9, 194)], [], [])
/-- SqlStore.needTree(I)V -/
def rt_194 : ra_Mt := (({ cls := "SqlStore", name := "needTree", desc := "(I)V" } : MethodName), prog_1_method_51_code, 2, none, [], [], [(435, 1, 175)], [], [(12, 0, "java/lang/IndexOutOfBoundsException", 7, 90)])
/-- SqlStoreModel.rootOf(I)I -/
def rt_195 : ra_Mt := (({ cls := "SqlStoreModel", name := "rootOf", desc := "(I)I" } : MethodName), prog_15_method_299_code, 2, (some FieldType.int), [], [(314, 18, 146)], [(1387, 9, 37), (1390, 9, 31), (1393, 26, 36), (1427, 1, 180), (1433, 1, 155)], [], [])
/-- SqlStoreLaw.levelsOf(LSqlStore;I[J)I -/
def rt_196 : ra_Mt := (({ cls := "SqlStoreLaw", name := "levelsOf", desc := "(LSqlStore;I[J)I" } : MethodName), method_28_code, 4, (some FieldType.int), [(0, 9, 12, 13, "java/lang/IllegalStateException"), (0, 9, 15, 24, "java/lang/IndexOutOfBoundsException")], [], [(98, 9, 197)], [], [])
/-- SqlStore.levelsOf(I)I -/
def rt_197 : ra_Mt := (({ cls := "SqlStore", name := "levelsOf", desc := "(I)I" } : MethodName), prog_1_method_54_code, 2, (some FieldType.int), [], [(49, 16, 16)], [(119, 1, 43), (132, 1, 165), (438, 9, 176), (455, 9, 194), (458, 9, 199)], [], [])
/-- SqlStoreModel.levelsOf(I)I -/
def rt_198 : ra_Mt := (({ cls := "SqlStoreModel", name := "levelsOf", desc := "(I)I" } : MethodName), prog_15_method_300_code, 4, (some FieldType.int), [], [(314, 18, 146)], [(1102, 9, 182), (1387, 9, 37), (1390, 9, 31), (1393, 26, 36), (1427, 1, 180), (1433, 1, 155)], [], [])
/-- SqlStore$Tree.levels(I)I -/
def rt_199 : ra_Mt := (({ cls := "SqlStore$Tree", name := "levels", desc := "(I)I" } : MethodName), prog_12_method_30_code, 4, (some FieldType.int), [], [], [(70, 9, 169)], [], [])
/-- SqlStoreLaw.entriesOf(LSqlStore;I[J)I -/
def rt_200 : ra_Mt := (({ cls := "SqlStoreLaw", name := "entriesOf", desc := "(LSqlStore;I[J)I" } : MethodName), method_29_code, 4, (some FieldType.int), [(0, 9, 12, 13, "java/lang/IllegalStateException"), (0, 9, 15, 24, "java/lang/IndexOutOfBoundsException")], [], [(101, 9, 201)], [], [])
/-- SqlStore.entriesOf(I)I -/
def rt_201 : ra_Mt := (({ cls := "SqlStore", name := "entriesOf", desc := "(I)I" } : MethodName), prog_1_method_55_code, 2, (some FieldType.int), [], [(49, 16, 16)], [(119, 1, 43), (132, 1, 165), (438, 9, 176), (455, 9, 194), (461, 9, 203)], [], [])
/-- SqlStoreModel.entriesOf(I)I -/
def rt_202 : ra_Mt := (({ cls := "SqlStoreModel", name := "entriesOf", desc := "(I)I" } : MethodName), prog_15_method_302_code, 2, (some FieldType.int), [], [(314, 18, 146)], [(1387, 9, 37), (1390, 9, 31), (1393, 26, 36), (1427, 1, 180), (1433, 1, 155), (1442, 9, 204)], [], [])
/-- SqlStore$Tree.leafCells(I)I -/
def rt_203 : ra_Mt := (({ cls := "SqlStore$Tree", name := "leafCells", desc := "(I)I" } : MethodName), prog_12_method_31_code, 5, (some FieldType.int), [], [(19, 14, 2)], [(38, 9, 170), (70, 9, 169), (94, 9, 177)], [], [])
/-- SqlStoreModel.entries(I)I -/
def rt_204 : ra_Mt := (({ cls := "SqlStoreModel", name := "entries", desc := "(I)I" } : MethodName), prog_15_method_301_code, 5, (some FieldType.int), [], [(275, 18, 130)], [(726, 9, 181), (1099, 9, 184)], [], [])
/-- SqlStoreLaw.meanFill(LSqlStore;[D)I -/
def rt_205 : ra_Mt := (({ cls := "SqlStoreLaw", name := "meanFill", desc := "(LSqlStore;[D)I" } : MethodName), method_30_code, 3, (some FieldType.int), [(0, 7, 10, 13, "java/lang/IllegalStateException")], [], [(104, 1, 206)], [], [])
/-- SqlStore.meanFill()D -/
def rt_206 : ra_Mt := (({ cls := "SqlStore", name := "meanFill", desc := "()D" } : MethodName), prog_1_method_56_code, 7, (some FieldType.double), [], [(49, 16, 16), (464, 14, 2)], [(119, 1, 43), (132, 1, 165), (435, 1, 175), (438, 9, 176), (441, 9, 177), (467, 9, 169), (470, 9, 207)], [], [])
/-- SqlStore$Tree.loadOf(I)I -/
def rt_207 : ra_Mt := (({ cls := "SqlStore$Tree", name := "loadOf", desc := "(I)I" } : MethodName), prog_12_method_10_code, 2, (some FieldType.int), [], [], [(38, 9, 170), (42, 17, 208)], [], [])
/-- SqlStore$Tree.placeOf(II)I -/
def rt_208 : ra_Mt := (({ cls := "SqlStore$Tree", name := "placeOf", desc := "(II)I" } : MethodName), prog_12_method_9_code, 6, (some FieldType.int), [], [(9, 14, 0)], [], [], [])
/-- SqlStoreModel.meanFill()D -/
def rt_209 : ra_Mt := (({ cls := "SqlStoreModel", name := "meanFill", desc := "()D" } : MethodName), prog_15_method_303_code, 7, (some FieldType.double), [], [(275, 18, 130), (314, 18, 146), (393, 18, 0)], [(726, 9, 181), (1141, 9, 210), (1427, 1, 180), (1433, 1, 155)], [], [])
/-- SqlStoreModel.loadOf(I)I -/
def rt_210 : ra_Mt := (({ cls := "SqlStoreModel", name := "loadOf", desc := "(I)I" } : MethodName), prog_15_method_180_code, 4, (some FieldType.int), [], [], [(1099, 9, 184)], [], [])
/-- SqlStoreLaw.checkpoint(LSqlStore;[J)I -/
def rt_211 : ra_Mt := (({ cls := "SqlStoreLaw", name := "checkpoint", desc := "(LSqlStore;[J)I" } : MethodName), method_31_code, 3, (some FieldType.int), [(0, 8, 11, 13, "java/lang/IllegalStateException")], [], [(108, 1, 212)], [], [])
/-- SqlStore.checkpoint()I -/
def rt_212 : ra_Mt := (({ cls := "SqlStore", name := "checkpoint", desc := "()I" } : MethodName), prog_1_method_57_code, 1, (some FieldType.int), [], [(42, 16, 15)], [(119, 1, 43), (473, 1, 213)], [], [])
/-- SqlStore$Log.makeCheckpoint()I -/
def rt_213 : ra_Mt := (({ cls := "SqlStore$Log", name := "makeCheckpoint", desc := "()I" } : MethodName), prog_5_method_27_code, 2, (some FieldType.int), [], [(57, 7, 16), (69, 7, 3), (161, 7, 5), (164, 7, 4)], [(167, 9, 214), (170, 1, 218)], [], [])
/-- SqlStore$Log.copyPages(I)I -/
def rt_214 : ra_Mt := (({ cls := "SqlStore$Log", name := "copyPages", desc := "(I)I" } : MethodName), prog_5_method_26_code, 6, (some FieldType.int), [], [(69, 7, 3), (161, 7, 5), (164, 7, 4)], [(155, 1, 215), (158, 17, 216)], [], [])
/-- SqlStore$Log.leastMark()I -/
def rt_215 : ra_Mt := (({ cls := "SqlStore$Log", name := "leastMark", desc := "()I" } : MethodName), prog_5_method_22_code, 3, (some FieldType.int), [], [(29, 7, 8)], [(76, 1, 149)], [], [])
/-- SqlStore$Log.lastFrame(II)I -/
def rt_216 : ra_Mt := (({ cls := "SqlStore$Log", name := "lastFrame", desc := "(II)I" } : MethodName), prog_5_method_24_code, 4, (some FieldType.int), [], [], [(152, 18, 217)], [], [])
/-- java/lang/Math.min(II)I -/
def rt_217 : ra_Mt := (({ cls := "java/lang/Math", name := "min", desc := "(II)I" } : MethodName), prog_32_method_69_code, 2, (some FieldType.int), [], [], [], [], [])
/-- SqlStore$Log.hasMark()Z -/
def rt_218 : ra_Mt := (({ cls := "SqlStore$Log", name := "hasMark", desc := "()Z" } : MethodName), prog_5_method_23_code, 2, (some FieldType.boolean), [], [(29, 7, 8)], [], [], [])
/-- SqlStoreModel.checkpoint()I -/
def rt_219 : ra_Mt := (({ cls := "SqlStoreModel", name := "checkpoint", desc := "()I" } : MethodName), prog_15_method_304_code, 5, (some FieldType.int), [], [(317, 18, 147), (327, 18, 151), (1289, 18, 162), (1307, 18, 163), (1448, 18, 164)], [(1381, 1, 220), (1390, 9, 31), (1445, 17, 222)], [], [])
/-- SqlStoreModel.leastMark()I -/
def rt_220 : ra_Mt := (({ cls := "SqlStoreModel", name := "leastMark", desc := "()I" } : MethodName), prog_15_method_249_code, 3, (some FieldType.int), [], [(327, 18, 151)], [(1300, 1, 221)], [], [])
/-- SqlStoreModel.frames()I -/
def rt_221 : ra_Mt := (({ cls := "SqlStoreModel", name := "frames", desc := "()I" } : MethodName), prog_15_method_233_code, 1, (some FieldType.int), [], [(1289, 18, 162)], [], [], [])
/-- SqlStoreModel.copy(II)I -/
def rt_222 : ra_Mt := (({ cls := "SqlStoreModel", name := "copy", desc := "(II)I" } : MethodName), prog_15_method_251_code, 6, (some FieldType.int), [], [], [(1378, 17, 223)], [], [])
/-- SqlStoreModel.frameOf(II)I -/
def rt_223 : ra_Mt := (({ cls := "SqlStoreModel", name := "frameOf", desc := "(II)I" } : MethodName), prog_15_method_250_code, 4, (some FieldType.int), [], [], [], [], [])
/-- SqlStoreLaw.sync(LSqlStore;[J)I -/
def rt_224 : ra_Mt := (({ cls := "SqlStoreLaw", name := "sync", desc := "(LSqlStore;[J)I" } : MethodName), method_32_code, 3, (some FieldType.int), [(0, 8, 11, 13, "java/lang/IllegalStateException")], [], [(111, 1, 225)], [], [])
/-- SqlStore.sync()I -/
def rt_225 : ra_Mt := (({ cls := "SqlStore", name := "sync", desc := "()I" } : MethodName), prog_1_method_58_code, 1, (some FieldType.int), [], [(42, 16, 15)], [(119, 1, 43), (476, 1, 226)], [], [])
/-- SqlStore$Log.makeSafe()I -/
def rt_226 : ra_Mt := (({ cls := "SqlStore$Log", name := "makeSafe", desc := "()I" } : MethodName), prog_5_method_28_code, 2, (some FieldType.int), [], [(69, 7, 3), (164, 7, 4)], [], [], [])
/-- SqlStoreModel.sync()I -/
def rt_227 : ra_Mt := (({ cls := "SqlStoreModel", name := "sync", desc := "()I" } : MethodName), prog_15_method_305_code, 2, (some FieldType.int), [], [(317, 18, 147), (1307, 18, 163)], [(1390, 9, 31)], [], [])
/-- SqlStoreLaw.crash(LSqlStore;II[J)I -/
def rt_228 : ra_Mt := (({ cls := "SqlStoreLaw", name := "crash", desc := "(LSqlStore;II[J)I" } : MethodName), method_33_code, 5, (some FieldType.int), [(0, 10, 13, 13, "java/lang/IllegalStateException"), (0, 10, 17, 19, "java/lang/IllegalArgumentException")], [], [(114, 17, 229)], [], [])
/-- SqlStore.crash(II)I -/
def rt_229 : ra_Mt := (({ cls := "SqlStore", name := "crash", desc := "(II)I" } : MethodName), prog_1_method_59_code, 4, (some FieldType.int), [], [(20, 16, 4), (32, 16, 7), (42, 16, 15), (479, 7, 3), (480, 7, 4)], [(91, 18, 3), (119, 1, 43), (250, 1, 235), (485, 1, 231), (492, 17, 233)], [], [(27, 0, "java/lang/IllegalArgumentException", 7, 90), (53, 0, "java/lang/IllegalArgumentException", 7, 90)])
/-- SqlStoreModel.crash(II)I -/
def rt_230 : ra_Mt := (({ cls := "SqlStoreModel", name := "crash", desc := "(II)I" } : MethodName), prog_15_method_306_code, 4, (some FieldType.int), [], [(13, 18, 5), (17, 18, 6), (317, 18, 147), (978, 18, 169), (1219, 18, 168), (1289, 18, 162), (1307, 18, 163), (1372, 18, 166), (1375, 18, 167), (1413, 18, 165)], [(1316, 9, 236), (1387, 9, 37), (1390, 9, 31), (1393, 26, 36), (1451, 1, 232)], [], [])
/-- SqlStore$Log.copies()I -/
def rt_231 : ra_Mt := (({ cls := "SqlStore$Log", name := "copies", desc := "()I" } : MethodName), prog_5_method_25_code, 4, (some FieldType.int), [], [], [(155, 1, 215), (158, 17, 216)], [], [])
/-- SqlStoreModel.copiesDue()I -/
def rt_232 : ra_Mt := (({ cls := "SqlStoreModel", name := "copiesDue", desc := "()I" } : MethodName), prog_15_method_252_code, 3, (some FieldType.int), [], [], [(1378, 17, 223), (1381, 1, 220)], [], [])
/-- SqlStore$Log.breakDown(II)I -/
def rt_233 : ra_Mt := (({ cls := "SqlStore$Log", name := "breakDown", desc := "(II)I" } : MethodName), prog_5_method_29_code, 4, (some FieldType.int), [], [(15, 7, 1), (18, 7, 2), (21, 7, 6), (57, 7, 16), (69, 7, 3), (164, 7, 4)], [(84, 6, 0), (114, 9, 234)], [], [])
/-- SqlStore$Log.end(I)V -/
def rt_234 : ra_Mt := (({ cls := "SqlStore$Log", name := "end", desc := "(I)V" } : MethodName), prog_5_method_14_code, 2, none, [], [(25, 7, 7), (29, 7, 8), (33, 7, 9), (37, 7, 10)], [], [], [])
/-- SqlStore.forgetRun()V -/
def rt_235 : ra_Mt := (({ cls := "SqlStore", name := "forgetRun", desc := "()V" } : MethodName), prog_1_method_23_code, 1, none, [], [(264, 16, 9), (326, 16, 13), (330, 16, 12), (334, 16, 10), (337, 16, 11)], [], [], [])
/-- SqlStoreModel.endOf(I)V -/
def rt_236 : ra_Mt := (({ cls := "SqlStoreModel", name := "endOf", desc := "(I)V" } : MethodName), prog_15_method_238_code, 2, none, [], [(321, 18, 149), (324, 18, 150), (327, 18, 151), (335, 18, 153)], [], [], [])
/-- SqlStoreLaw.poke(LSqlStore;II[J)I -/
def rt_237 : ra_Mt := (({ cls := "SqlStoreLaw", name := "poke", desc := "(LSqlStore;II[J)I" } : MethodName), method_34_code, 5, (some FieldType.int), [(0, 10, 13, 13, "java/lang/IllegalStateException"), (0, 10, 17, 24, "java/lang/IndexOutOfBoundsException"), (0, 10, 21, 19, "java/lang/IllegalArgumentException")], [], [(117, 17, 238)], [], [])
/-- SqlStore.poke(II)I -/
def rt_238 : ra_Mt := (({ cls := "SqlStore", name := "poke", desc := "(II)I" } : MethodName), prog_1_method_60_code, 3, (some FieldType.int), [], [(42, 16, 15), (168, 7, 6)], [], [], [(10, 0, "java/lang/IllegalStateException", 7, 90)])
/-- SqlStoreModel.poke(II)I -/
def rt_239 : ra_Mt := (({ cls := "SqlStoreModel", name := "poke", desc := "(II)I" } : MethodName), prog_15_method_307_code, 3, (some FieldType.int), [], [(317, 18, 147)], [(1387, 9, 37)], [], [])
/-- SqlStoreLaw.open(LSqlStore;[J)I -/
def rt_240 : ra_Mt := (({ cls := "SqlStoreLaw", name := "open", desc := "(LSqlStore;[J)I" } : MethodName), method_35_code, 3, (some FieldType.int), [(0, 8, 11, 13, "java/lang/IllegalStateException")], [], [(120, 1, 241)], [], [])
/-- SqlStore.open()I -/
def rt_241 : ra_Mt := (({ cls := "SqlStore", name := "open", desc := "()I" } : MethodName), prog_1_method_61_code, 1, (some FieldType.int), [], [(42, 16, 15), (168, 7, 6)], [], [], [(10, 0, "java/lang/IllegalStateException", 7, 90)])
/-- SqlStoreModel.open()I -/
def rt_242 : ra_Mt := (({ cls := "SqlStoreModel", name := "open", desc := "()I" } : MethodName), prog_15_method_308_code, 4, (some FieldType.int), [], [(317, 18, 147)], [(1387, 9, 37)], [], [])
/-- SqlStore.isOpen()Z -/
def rt_243 : ra_Mt := (({ cls := "SqlStore", name := "isOpen", desc := "()Z" } : MethodName), prog_1_method_62_code, 1, (some FieldType.boolean), [], [(42, 16, 15), (168, 7, 6)], [], [], [])
/-- SqlStoreModel.isOpen()Z -/
def rt_244 : ra_Mt := (({ cls := "SqlStoreModel", name := "isOpen", desc := "()Z" } : MethodName), prog_15_method_309_code, 1, (some FieldType.boolean), [], [(317, 18, 147), (393, 18, 0)], [], [], [])
/-- SqlStore.logBytes()I -/
def rt_245 : ra_Mt := (({ cls := "SqlStore", name := "logBytes", desc := "()I" } : MethodName), prog_1_method_63_code, 1, (some FieldType.int), [], [(42, 16, 15), (479, 7, 3)], [], [], [])
/-- SqlStoreModel.logBytes()I -/
def rt_246 : ra_Mt := (({ cls := "SqlStoreModel", name := "logBytes", desc := "()I" } : MethodName), prog_15_method_310_code, 1, (some FieldType.int), [], [(1289, 18, 162)], [(1390, 9, 31)], [], [])
/-- SqlStore.\x75nsafeBytes()I -/
def rt_247 : ra_Mt := (({ cls := "SqlStore", name := "\x75nsafeBytes", desc := "()I" } : MethodName), prog_1_method_64_code, 1, (some FieldType.int), [], [(42, 16, 15), (479, 7, 3), (480, 7, 4)], [], [], [])
/-- SqlStoreModel.\x75nsafeBytes()I -/
def rt_248 : ra_Mt := (({ cls := "SqlStoreModel", name := "\x75nsafeBytes", desc := "()I" } : MethodName), prog_15_method_311_code, 1, (some FieldType.int), [], [(1307, 18, 163)], [(1390, 9, 31)], [], [])
/-- SqlStore.usedFrames()I -/
def rt_249 : ra_Mt := (({ cls := "SqlStore", name := "usedFrames", desc := "()I" } : MethodName), prog_1_method_65_code, 1, (some FieldType.int), [], [(42, 16, 15), (497, 7, 5)], [], [], [])
/-- SqlStoreModel.usedFrames()I -/
def rt_250 : ra_Mt := (({ cls := "SqlStoreModel", name := "usedFrames", desc := "()I" } : MethodName), prog_15_method_312_code, 1, (some FieldType.int), [], [(1448, 18, 164)], [(1390, 9, 31)], [], [])
/-- SqlStoreLaw.logByte(LSqlStore;I[J)I -/
def rt_251 : ra_Mt := (({ cls := "SqlStoreLaw", name := "logByte", desc := "(LSqlStore;I[J)I" } : MethodName), method_36_code, 4, (some FieldType.int), [(0, 9, 12, 24, "java/lang/IndexOutOfBoundsException")], [], [(123, 9, 252)], [], [])
/-- SqlStore.logByte(I)I -/
def rt_252 : ra_Mt := (({ cls := "SqlStore", name := "logByte", desc := "(I)I" } : MethodName), prog_1_method_66_code, 2, (some FieldType.int), [], [(42, 16, 15), (479, 7, 3)], [], [], [(27, 0, "java/lang/IndexOutOfBoundsException", 7, 90)])
/-- SqlStoreModel.logByte(I)I -/
def rt_253 : ra_Mt := (({ cls := "SqlStoreModel", name := "logByte", desc := "(I)I" } : MethodName), prog_15_method_313_code, 2, (some FieldType.int), [], [(1289, 18, 162)], [(1387, 9, 37), (1393, 26, 36)], [], [])
/-- SqlStoreLaw.fileByte(LSqlStore;II[J)I -/
def rt_254 : ra_Mt := (({ cls := "SqlStoreLaw", name := "fileByte", desc := "(LSqlStore;II[J)I" } : MethodName), method_37_code, 5, (some FieldType.int), [(0, 10, 13, 24, "java/lang/IndexOutOfBoundsException")], [], [(126, 17, 255)], [], [])
/-- SqlStore.fileByte(II)I -/
def rt_255 : ra_Mt := (({ cls := "SqlStore", name := "fileByte", desc := "(II)I" } : MethodName), prog_1_method_67_code, 3, (some FieldType.int), [], [(42, 16, 15), (511, 7, 0)], [], [], [(10, 0, "java/lang/IndexOutOfBoundsException", 7, 90), (32, 0, "java/lang/IndexOutOfBoundsException", 7, 90)])
/-- SqlStoreModel.fileByte(II)I -/
def rt_256 : ra_Mt := (({ cls := "SqlStoreModel", name := "fileByte", desc := "(II)I" } : MethodName), prog_15_method_314_code, 3, (some FieldType.int), [], [(347, 18, 157)], [(1387, 9, 37), (1390, 9, 31), (1393, 26, 36)], [], [])
/-- SqlStore.digest()J -/
def rt_257 : ra_Mt := (({ cls := "SqlStore", name := "digest", desc := "()J" } : MethodName), prog_1_method_68_code, 4, (some FieldType.long), [], [(20, 16, 4), (32, 16, 7), (42, 16, 15), (168, 7, 6), (178, 16, 8), (264, 16, 9), (326, 16, 13), (330, 16, 12), (334, 16, 10), (337, 16, 11), (410, 7, 9), (414, 7, 8), (417, 7, 7), (420, 7, 10), (479, 7, 3), (480, 7, 4), (497, 7, 5)], [(132, 1, 165), (518, 9, 258), (522, 9, 259)], [(66050, 58001), (66052, 31)], [])
/-- SqlStore.digestOfRows(J)J -/
def rt_258 : ra_Mt := (({ cls := "SqlStore", name := "digestOfRows", desc := "(J)J" } : MethodName), prog_1_method_69_code, 9, (some FieldType.long), [], [(334, 16, 10)], [], [], [])
/-- SqlStore.digestOfPages(J)J -/
def rt_259 : ra_Mt := (({ cls := "SqlStore", name := "digestOfPages", desc := "(J)J" } : MethodName), prog_1_method_70_code, 7, (some FieldType.long), [], [(42, 16, 15), (49, 16, 16), (178, 16, 8)], [(423, 9, 140), (426, 1, 152), (429, 1, 160), (432, 1, 174), (446, 9, 153)], [(66052, 31)], [])
/-- SqlStoreModel.digest()J -/
def rt_260 : ra_Mt := (({ cls := "SqlStoreModel", name := "digest", desc := "()J" } : MethodName), prog_15_method_315_code, 5, (some FieldType.long), [], [(13, 18, 5), (317, 18, 147), (321, 18, 149), (324, 18, 150), (327, 18, 151), (335, 18, 153), (393, 18, 0), (717, 18, 129), (978, 18, 169), (1219, 18, 168), (1286, 18, 148), (1289, 18, 162), (1307, 18, 163), (1372, 18, 166), (1375, 18, 167), (1413, 18, 165), (1448, 18, 164)], [(729, 9, 157), (1332, 1, 156), (1401, 9, 74), (1424, 1, 145), (1436, 1, 162), (1439, 1, 179)], [(66993, 58001), (66995, 31)], [])
def rt_Ps : List ra_Mt := [rt_0, rt_1, rt_2, rt_3, rt_4, rt_5, rt_6, rt_7, rt_8, rt_9, rt_10, rt_11, rt_12, rt_13, rt_14, rt_15, rt_16, rt_17, rt_18, rt_19, rt_20, rt_21, rt_22, rt_23, rt_24, rt_25, rt_26, rt_27, rt_28, rt_29, rt_30, rt_31, rt_32, rt_33, rt_34, rt_35, rt_36, rt_37, rt_38, rt_39, rt_40, rt_41, rt_42, rt_43, rt_44, rt_45, rt_46, rt_47, rt_48, rt_49, rt_50, rt_51, rt_52, rt_53, rt_54, rt_55, rt_56, rt_57, rt_58, rt_59, rt_60, rt_61, rt_62, rt_63, rt_64, rt_65, rt_66, rt_67, rt_68, rt_69, rt_70, rt_71, rt_72, rt_73, rt_74, rt_75, rt_76, rt_77, rt_78, rt_79, rt_80, rt_81, rt_82, rt_83, rt_84, rt_85, rt_86, rt_87, rt_88, rt_89, rt_90, rt_91, rt_92, rt_93, rt_94, rt_95, rt_96, rt_97, rt_98, rt_99, rt_100, rt_101, rt_102, rt_103, rt_104, rt_105, rt_106, rt_107, rt_108, rt_109, rt_110, rt_111, rt_112, rt_113, rt_114, rt_115, rt_116, rt_117, rt_118, rt_119, rt_120, rt_121, rt_122, rt_123, rt_124, rt_125, rt_126, rt_127, rt_128, rt_129, rt_130, rt_131, rt_132, rt_133, rt_134, rt_135, rt_136, rt_137, rt_138, rt_139, rt_140, rt_141, rt_142, rt_143, rt_144, rt_145, rt_146, rt_147, rt_148, rt_149, rt_150, rt_151, rt_152, rt_153, rt_154, rt_155, rt_156, rt_157, rt_158, rt_159, rt_160, rt_161, rt_162, rt_163, rt_164, rt_165, rt_166, rt_167, rt_168, rt_169, rt_170, rt_171, rt_172, rt_173, rt_174, rt_175, rt_176, rt_177, rt_178, rt_179, rt_180, rt_181, rt_182, rt_183, rt_184, rt_185, rt_186, rt_187, rt_188, rt_189, rt_190, rt_191, rt_192, rt_193, rt_194, rt_195, rt_196, rt_197, rt_198, rt_199, rt_200, rt_201, rt_202, rt_203, rt_204, rt_205, rt_206, rt_207, rt_208, rt_209, rt_210, rt_211, rt_212, rt_213, rt_214, rt_215, rt_216, rt_217, rt_218, rt_219, rt_220, rt_221, rt_222, rt_223, rt_224, rt_225, rt_226, rt_227, rt_228, rt_229, rt_230, rt_231, rt_232, rt_233, rt_234, rt_235, rt_236, rt_237, rt_238, rt_239, rt_240, rt_241, rt_242, rt_243, rt_244, rt_245, rt_246, rt_247, rt_248, rt_249, rt_250, rt_251, rt_252, rt_253, rt_254, rt_255, rt_256, rt_257, rt_258, rt_259, rt_260]
end RTM
