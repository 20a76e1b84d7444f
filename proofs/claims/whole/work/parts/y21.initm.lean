def qX12_init_0 (t : Nat) : Nat → Nat → Option Nat := fun _ _ => none
def qX12_init_1 (t : Nat) : Nat → Nat → Option Nat := up2 (qX12_init_0 t) 0 2 (some (t + 1))
def qX12_init_2 (t : Nat) : Nat → Nat → Option Nat := up2 (qX12_init_1 t) 0 3 (some (t + 2))
def qX12_init_3 (t : Nat) : Nat → Nat → Option Nat := up2 (qX12_init_2 t) 0 4 (some (t + 3))
def qX12_init_4 (t : Nat) : Nat → Nat → Option Nat := up2 (qX12_init_3 t) 0 5 (some (t + 4))
def qX12_init_5 (t : Nat) : Nat → Nat → Option Nat := up2 (qX12_init_4 t) 0 6 (some (t + 5))
def qX12_init_6 (t : Nat) : Nat → Nat → Option Nat := up2 (qX12_init_5 t) 0 7 (some (t + 6))
def qX12_init_7 (t : Nat) : Nat → Nat → Option Nat := up2 (qX12_init_6 t) 0 9 (some (t + 7))
def qX12_init_8 (t : Nat) : Nat → Nat → Option Nat := up2 (qX12_init_7 t) 0 10 (some (t + 8))
def qX12_init_9 (t : Nat) : Nat → Nat → Option Nat := up2 (qX12_init_8 t) 0 12 (some (t + 9))
def qX12_init_10 (t : Nat) : Nat → Nat → Option Nat := (qX12_init_9 t)
def qX12_init_11 (t : Nat) : Nat → Nat → Option Nat := up2 (qX12_init_10 t) 0 22 (some (t + 10))
def qX12_init_12 (t : Nat) : Nat → Nat → Option Nat := up2 (qX12_init_11 t) 0 24 (some (t + 11))
def qX12_init_13 (t : Nat) : Nat → Nat → Option Nat := up2 (qX12_init_12 t) 0 25 (some (t + 12))
def qX12_init_14 (t : Nat) : Nat → Nat → Option Nat := up2 (qX12_init_13 t) 0 27 (some (t + 13))
def qX12_init_15 (t : Nat) : Nat → Nat → Option Nat := up2 (qX12_init_14 t) 0 28 (some (t + 14))
def qX12_init_16 (t : Nat) : Nat → Nat → Option Nat := (qX12_init_15 t)
def qX12_init_17 (t : Nat) : Nat → Nat → Option Nat := (qX12_init_16 t)
def qX12_init_18 (t : Nat) : Nat → Nat → Option Nat := (qX12_init_17 t)
def qX12_init_19 (t : Nat) : Nat → Nat → Option Nat := (qX12_init_18 t)
def qX12_init_20 (t : Nat) : Nat → Nat → Option Nat := (qX12_init_19 t)
def qX12_init_21 (t : Nat) : Nat → Nat → Option Nat := (qX12_init_20 t)
def qX12_init_22 (t : Nat) : Nat → Nat → Option Nat := up2 (qX12_init_21 t) 0 31 (some (t + 15))
def qX12_init_23 (t : Nat) : Nat → Nat → Option Nat := (qX12_init_22 t)
def qX12_init_24 (t : Nat) : Nat → Nat → Option Nat := (qX12_init_23 t)
def qX12_init_25 (t : Nat) : Nat → Nat → Option Nat := (qX12_init_24 t)
def qX12_init_26 (t : Nat) : Nat → Nat → Option Nat := (qX12_init_25 t)
def qX12_init_27 (t : Nat) : Nat → Nat → Option Nat := (qX12_init_26 t)
def qX12_init_28 (t : Nat) : Nat → Nat → Option Nat := (qX12_init_27 t)
def qX12_init_29 (t : Nat) : Nat → Nat → Option Nat := (qX12_init_28 t)
def qX12_init_30 (t : Nat) : Nat → Nat → Option Nat := up2 (qX12_init_29 t) 0 32 (some (t + 16))
def qX12_init_31 (t : Nat) : Nat → Nat → Option Nat := (qX12_init_30 t)
def qX12_init_32 (t : Nat) : Nat → Nat → Option Nat := (qX12_init_31 t)
def qX12_init_33 (t : Nat) : Nat → Nat → Option Nat := (qX12_init_32 t)
def qX12_init_34 (t : Nat) : Nat → Nat → Option Nat := (qX12_init_33 t)
def qX12_init_35 (t : Nat) : Nat → Nat → Option Nat := (qX12_init_34 t)
def qX12_init_36 (t : Nat) : Nat → Nat → Option Nat := (qX12_init_35 t)
def qX12_init_37 (t : Nat) : Nat → Nat → Option Nat := (qX12_init_36 t)
def qX12_init_38 (t : Nat) : Nat → Nat → Option Nat := up2 (qX12_init_37 t) 0 33 (some (t + 17))
def qX12_init_39 (t : Nat) : Nat → Nat → Option Nat := up2 (qX12_init_38 t) 0 35 (some (t + 18))
def qX12_init_40 (t : Nat) : Nat → Nat → Option Nat := up2 (qX12_init_39 t) 0 36 (some (t + 19))
def qX12_init_41 (t : Nat) : Nat → Nat → Option Nat := up2 (qX12_init_40 t) 0 37 (some (t + 20))
def qX12_init_42 (t : Nat) : Nat → Nat → Option Nat := up2 (qX12_init_41 t) 0 41 (some (t + 21))
def qX12_init_43 (t : Nat) : Nat → Nat → Option Nat := up2 (qX12_init_42 t) 0 42 (some (t + 22))
def qX12_init_44 (t : Nat) : Nat → Nat → Option Nat := up2 (qX12_init_43 t) 0 43 (some (t + 23))
def qX12_init_45 (t : Nat) : Nat → Nat → Option Nat := up2 (qX12_init_44 t) 0 44 (some (t + 24))
def qX12_init_46 (t : Nat) : Nat → Nat → Option Nat := up2 (qX12_init_45 t) 0 45 (some (t + 25))
def qX12_init_47 (t : Nat) : Nat → Nat → Option Nat := up2 (qX12_init_46 t) 0 46 (some (t + 26))
def qX12_init_48 (t : Nat) : Nat → Nat → Option Nat := up2 (qX12_init_47 t) 0 47 (some (t + 27))
def qX12_init_49 (t : Nat) : Nat → Nat → Option Nat := up2 (qX12_init_48 t) 0 48 (some (t + 28))
def qX12_init_50 (t : Nat) : Nat → Nat → Option Nat := up2 (qX12_init_49 t) 0 49 (some (t + 29))
def qX12_init_51 (t : Nat) : Nat → Nat → Option Nat := up2 (qX12_init_50 t) 0 51 (some (t + 30))
def qX12_init_52 (t : Nat) : Nat → Nat → Option Nat := up2 (qX12_init_51 t) 0 52 (some (t + 31))
def qX12_init_53 (t : Nat) : Nat → Nat → Option Nat := up2 (qX12_init_52 t) 0 53 (some (t + 32))
def qX12_init_54 (t : Nat) : Nat → Nat → Option Nat := up2 (qX12_init_53 t) 0 54 (some (t + 33))
def qX12_init_55 (t : Nat) : Nat → Nat → Option Nat := up2 (qX12_init_54 t) 0 55 (some (t + 34))
def qX12_init_56 (t : Nat) : Nat → Nat → Option Nat := up2 (qX12_init_55 t) 0 56 (some (t + 35))
def qX12_init_57 (t : Nat) : Nat → Nat → Option Nat := up2 (qX12_init_56 t) 0 57 (some (t + 36))
def qX12_init_58 (t : Nat) : Nat → Nat → Option Nat := up2 (qX12_init_57 t) 0 58 (some (t + 37))
def qX12_init_59 (t : Nat) : Nat → Nat → Option Nat := up2 (qX12_init_58 t) 0 59 (some (t + 38))
def qX12_init_60 (t : Nat) : Nat → Nat → Option Nat := (qX12_init_59 t)
def qX12_init_61 (t : Nat) : Nat → Nat → Option Nat := (qX12_init_60 t)
def qX12_init_62 (t : Nat) : Nat → Nat → Option Nat := (qX12_init_61 t)
def qX12_init_63 (t : Nat) : Nat → Nat → Option Nat := (qX12_init_62 t)
def qX12_init_64 (t : Nat) : Nat → Nat → Option Nat := up2 (qX12_init_63 t) 0 60 (some (t + 39))
def qX12_init_65 (t : Nat) : Nat → Nat → Option Nat := up2 (qX12_init_64 t) 0 61 (some (t + 40))
def qX12_init_66 (t : Nat) : Nat → Nat → Option Nat := (qX12_init_65 t)
def qX12_init_67 (t : Nat) : Nat → Nat → Option Nat := up2 (qX12_init_66 t) 0 66 (some (t + 41))
def qX12_init_68 (t : Nat) : Nat → Nat → Option Nat := (qX12_init_67 t)
def qX12_init_69 (t : Nat) : Nat → Nat → Option Nat := (qX12_init_68 t)
def qX12_init_70 (t : Nat) : Nat → Nat → Option Nat := (qX12_init_69 t)
def qX12_init_71 (t : Nat) : Nat → Nat → Option Nat := (qX12_init_70 t)
def qX12_init_72 (t : Nat) : Nat → Nat → Option Nat := (qX12_init_71 t)
def qX12_init_73 (t : Nat) : Nat → Nat → Option Nat := (qX12_init_72 t)
def qX12_init_74 (t : Nat) : Nat → Nat → Option Nat := (qX12_init_73 t)
def qX12_init_75 (t : Nat) : Nat → Nat → Option Nat := qX12_init_74 t
def gX12_init_0 : List (Nat × Nat) := [(52, 0)]
def gX12_init_1 : List (Nat × Nat) := gX12_init_0 ++ [(20, 7)]
def gX12_init_2 : List (Nat × Nat) := gX12_init_1 ++ [(20, 5594)]
def gX12_init_3 : List (Nat × Nat) := gX12_init_2 ++ [(20, 11188)]
def gX12_init_4 : List (Nat × Nat) := gX12_init_3 ++ [(22, 2)]
def gX12_init_5 : List (Nat × Nat) := gX12_init_4 ++ [(20, 2196)]
def gX12_init_6 : List (Nat × Nat) := gX12_init_5 ++ [(20, 16)]
def gX12_init_7 : List (Nat × Nat) := gX12_init_6 ++ [(20, 1952)]
def gX12_init_8 : List (Nat × Nat) := gX12_init_7 ++ [(20, 16)]
def gX12_init_9 : List (Nat × Nat) := gX12_init_8 ++ [(20, 400)]
def gX12_init_10 : List (Nat × Nat) := gX12_init_9 ++ [(20, 96)]
def gX12_init_11 : List (Nat × Nat) := gX12_init_10 ++ [(20, 400)]
def gX12_init_12 : List (Nat × Nat) := gX12_init_11 ++ [(20, 400)]
def gX12_init_13 : List (Nat × Nat) := gX12_init_12 ++ [(20, 400)]
def gX12_init_14 : List (Nat × Nat) := gX12_init_13 ++ [(20, 400)]
def gX12_init_15 : List (Nat × Nat) := gX12_init_14 ++ [(21, 6)]
def gX12_init_16 : List (Nat × Nat) := gX12_init_15 ++ [(21, 7)]
def gX12_init_17 : List (Nat × Nat) := gX12_init_16 ++ [(21, 7)]
def gX12_init_18 : List (Nat × Nat) := gX12_init_17 ++ [(21, 13)]
def gX12_init_19 : List (Nat × Nat) := gX12_init_18 ++ [(21, 13)]
def gX12_init_20 : List (Nat × Nat) := gX12_init_19 ++ [(21, 400)]
def gX12_init_21 : List (Nat × Nat) := gX12_init_20 ++ [(20, 52)]
def gX12_init_22 : List (Nat × Nat) := gX12_init_21 ++ [(20, 6)]
def gX12_init_23 : List (Nat × Nat) := gX12_init_22 ++ [(20, 13)]
def gX12_init_24 : List (Nat × Nat) := gX12_init_23 ++ [(20, 6)]
def gX12_init_25 : List (Nat × Nat) := gX12_init_24 ++ [(20, 8)]
def gX12_init_26 : List (Nat × Nat) := gX12_init_25 ++ [(20, 4)]
def gX12_init_27 : List (Nat × Nat) := gX12_init_26 ++ [(20, 5)]
def gX12_init_28 : List (Nat × Nat) := gX12_init_27 ++ [(20, 6)]
def gX12_init_29 : List (Nat × Nat) := gX12_init_28 ++ [(20, 14)]
def gX12_init_30 : List (Nat × Nat) := gX12_init_29 ++ [(20, 52)]
def gX12_init_31 : List (Nat × Nat) := gX12_init_30 ++ [(20, 6)]
def gX12_init_32 : List (Nat × Nat) := gX12_init_31 ++ [(20, 1220)]
def gX12_init_33 : List (Nat × Nat) := gX12_init_32 ++ [(20, 10)]
def gX12_init_34 : List (Nat × Nat) := gX12_init_33 ++ [(20, 10)]
def gX12_init_35 : List (Nat × Nat) := gX12_init_34 ++ [(20, 10)]
def gX12_init_36 : List (Nat × Nat) := gX12_init_35 ++ [(20, 10)]
def gX12_init_37 : List (Nat × Nat) := gX12_init_36 ++ [(20, 15)]
def gX12_init_38 : List (Nat × Nat) := gX12_init_37 ++ [(21, 21)]
def gX12_init_39 : List (Nat × Nat) := gX12_init_38 ++ [(21, 4)]
def gX12_init_40 : List (Nat × Nat) := gX12_init_39 ++ [(20, 96)]
def gX12_init_41 : List (Nat × Nat) := gX12_init_40 ++ [(20, 2)]
def G_X12_init : List (Nat × Nat) := [(12, 0), (20, 7), (20, 5594), (20, 11188), (22, 2), (20, 2196), (20, 16), (20, 1952), (20, 16), (20, 400), (20, 96), (20, 400), (20, 400), (20, 400), (20, 400), (21, 6), (21, 7), (21, 7), (21, 13), (21, 13), (21, 400), (20, 52), (20, 6), (20, 13), (20, 6), (20, 8), (20, 4), (20, 5), (20, 6), (20, 14), (20, 52), (20, 6), (20, 1220), (20, 10), (20, 10), (20, 10), (20, 10), (20, 15), (21, 21), (21, 4), (20, 96), (20, 2)]
abbrev yX12_init : MethodName := ({ cls := "CribbageRoomModel", name := "<init>", desc := "()V" } : Jvm.MethodName)
def tbX12_init : List (Nat × Instr × Nat) := [(0, .aload_n 0, 1), (1, .invokespecial 1, 3), (4, .aload_n 0, 1), (5, .bipush 7, 2), (7, .newarray .int, 2), (9, .putfield 7, 3), (12, .aload_n 0, 1), (13, .sipush 5594, 3), (16, .newarray .int, 2), (18, .putfield 13, 3), (21, .aload_n 0, 1), (22, .sipush 11188, 3), (25, .newarray .int, 2), (27, .putfield 16, 3), (30, .aload_n 0, 1), (31, .iconst 2, 1), (32, .newarray .boolean, 2), (34, .putfield 19, 3), (37, .aload_n 0, 1), (38, .sipush 2196, 3), (41, .newarray .int, 2), (43, .putfield 23, 3), (46, .aload_n 0, 1), (47, .bipush 16, 2), (49, .newarray .int, 2), (51, .putfield 26, 3), (54, .aload_n 0, 1), (55, .sipush 1952, 3), (58, .newarray .int, 2), (60, .putfield 29, 3), (63, .aload_n 0, 1), (64, .bipush 16, 2), (66, .newarray .int, 2), (68, .putfield 32, 3), (71, .aload_n 0, 1), (72, .sipush 400, 3), (75, .newarray .int, 2), (77, .putfield 35, 3), (80, .aload_n 0, 1), (81, .iconst (-1), 1), (82, .putfield 38, 3), (85, .aload_n 0, 1), (86, .bipush 96, 2), (88, .newarray .int, 2), (90, .putfield 42, 3), (93, .aload_n 0, 1), (94, .sipush 400, 3), (97, .newarray .int, 2), (99, .putfield 45, 3), (102, .aload_n 0, 1), (103, .sipush 400, 3), (106, .newarray .int, 2), (108, .putfield 48, 3), (111, .aload_n 0, 1), (112, .sipush 400, 3), (115, .newarray .int, 2), (117, .putfield 51, 3), (120, .aload_n 0, 1), (121, .sipush 400, 3), (124, .newarray .int, 2), (126, .putfield 54, 3), (129, .aload_n 0, 1), (130, .bipush 6, 2), (132, .newarray .long, 2), (134, .dup, 1), (135, .iconst 0, 1), (136, .ldc2_w 57, 3), (139, .lastore, 1), (140, .dup, 1), (141, .iconst 1, 1), (142, .ldc2_w 59, 3), (145, .lastore, 1), (146, .dup, 1), (147, .iconst 2, 1), (148, .ldc2_w 61, 3), (151, .lastore, 1), (152, .dup, 1), (153, .iconst 3, 1), (154, .ldc2_w 63, 3), (157, .lastore, 1), (158, .dup, 1), (159, .iconst 4, 1), (160, .ldc2_w 65, 3), (163, .lastore, 1), (164, .dup, 1), (165, .iconst 5, 1), (166, .ldc2_w 67, 3), (169, .lastore, 1), (170, .putfield 69, 3), (173, .aload_n 0, 1), (174, .bipush 7, 2), (176, .newarray .long, 2), (178, .dup, 1), (179, .iconst 0, 1), (180, .ldc2_w 73, 3), (183, .lastore, 1), (184, .dup, 1), (185, .iconst 1, 1), (186, .ldc2_w 75, 3), (189, .lastore, 1), (190, .dup, 1), (191, .iconst 2, 1), (192, .ldc2_w 77, 3), (195, .lastore, 1), (196, .dup, 1), (197, .iconst 3, 1), (198, .ldc2_w 79, 3), (201, .lastore, 1), (202, .dup, 1), (203, .iconst 4, 1), (204, .ldc2_w 81, 3), (207, .lastore, 1), (208, .dup, 1), (209, .iconst 5, 1), (210, .ldc2_w 83, 3), (213, .lastore, 1), (214, .dup, 1), (215, .bipush 6, 2), (217, .ldc2_w 85, 3), (220, .lastore, 1), (221, .putfield 87, 3), (224, .aload_n 0, 1), (225, .bipush 7, 2), (227, .newarray .long, 2), (229, .dup, 1), (230, .iconst 0, 1), (231, .ldc2_w 90, 3), (234, .lastore, 1), (235, .dup, 1), (236, .iconst 1, 1), (237, .ldc2_w 92, 3), (240, .lastore, 1), (241, .dup, 1), (242, .iconst 2, 1), (243, .ldc2_w 94, 3), (246, .lastore, 1), (247, .dup, 1), (248, .iconst 3, 1), (249, .ldc2_w 96, 3), (252, .lastore, 1), (253, .dup, 1), (254, .iconst 4, 1), (255, .ldc2_w 98, 3), (258, .lastore, 1), (259, .dup, 1), (260, .iconst 5, 1), (261, .ldc2_w 100, 3), (264, .lastore, 1), (265, .dup, 1), (266, .bipush 6, 2), (268, .ldc2_w 102, 3), (271, .lastore, 1), (272, .putfield 104, 3), (275, .aload_n 0, 1), (276, .bipush 13, 2), (278, .newarray .long, 2), (280, .putfield 107, 3), (283, .aload_n 0, 1), (284, .bipush 13, 2), (286, .newarray .long, 2), (288, .putfield 110, 3), (291, .aload_n 0, 1), (292, .sipush 400, 3), (295, .newarray .long, 2), (297, .putfield 113, 3), (300, .aload_n 0, 1), (301, .bipush 52, 2), (303, .newarray .int, 2), (305, .putfield 116, 3), (308, .aload_n 0, 1), (309, .bipush 6, 2), (311, .newarray .int, 2), (313, .putfield 119, 3), (316, .aload_n 0, 1), (317, .bipush 13, 2), (319, .newarray .int, 2), (321, .putfield 122, 3), (324, .aload_n 0, 1), (325, .bipush 6, 2), (327, .newarray .int, 2), (329, .putfield 125, 3), (332, .aload_n 0, 1), (333, .bipush 8, 2), (335, .newarray .int, 2), (337, .putfield 128, 3), (340, .aload_n 0, 1), (341, .iconst 4, 1), (342, .newarray .int, 2), (344, .putfield 131, 3), (347, .aload_n 0, 1), (348, .iconst 5, 1), (349, .newarray .int, 2), (351, .putfield 134, 3), (354, .aload_n 0, 1), (355, .bipush 6, 2), (357, .newarray .int, 2), (359, .putfield 137, 3), (362, .aload_n 0, 1), (363, .bipush 14, 2), (365, .newarray .int, 2), (367, .putfield 140, 3), (370, .aload_n 0, 1), (371, .bipush 52, 2), (373, .newarray .int, 2), (375, .putfield 143, 3), (378, .aload_n 0, 1), (379, .bipush 6, 2), (381, .newarray .int, 2), (383, .putfield 146, 3), (386, .aload_n 0, 1), (387, .sipush 1220, 3), (390, .newarray .int, 2), (392, .putfield 149, 3), (395, .aload_n 0, 1), (396, .bipush 10, 2), (398, .newarray .int, 2), (400, .putfield 152, 3), (403, .aload_n 0, 1), (404, .bipush 10, 2), (406, .newarray .int, 2), (408, .putfield 155, 3), (411, .aload_n 0, 1), (412, .bipush 10, 2), (414, .newarray .int, 2), (416, .putfield 158, 3), (419, .aload_n 0, 1), (420, .bipush 10, 2), (422, .newarray .int, 2), (424, .putfield 161, 3), (427, .aload_n 0, 1), (428, .bipush 15, 2), (430, .newarray .int, 2), (432, .putfield 164, 3), (435, .aload_n 0, 1), (436, .bipush 21, 2), (438, .newarray .long, 2), (440, .putfield 167, 3), (443, .aload_n 0, 1), (444, .iconst 4, 1), (445, .newarray .long, 2), (447, .dup, 1), (448, .iconst 0, 1), (449, .ldc2_w 65, 3), (452, .lastore, 1), (453, .dup, 1), (454, .iconst 1, 1), (455, .ldc2_w 170, 3), (458, .lastore, 1), (459, .dup, 1), (460, .iconst 2, 1), (461, .ldc2_w 172, 3), (464, .lastore, 1), (465, .dup, 1), (466, .iconst 3, 1), (467, .ldc2_w 174, 3), (470, .lastore, 1), (471, .putfield 176, 3), (474, .aload_n 0, 1), (475, .bipush 96, 2), (477, .newarray .int, 2), (479, .putfield 179, 3), (482, .aload_n 0, 1), (483, .iconst (-1), 1), (484, .putfield 182, 3), (487, .aload_n 0, 1), (488, .iconst 2, 1), (489, .newarray .int, 2), (491, .putfield 185, 3), (494, .aload_n 0, 1), (495, .getfield 13, 3), (498, .iconst 2, 1), (499, .iconst (-1), 1), (500, .iastore, 1), (501, .aload_n 0, 1), (502, .getfield 13, 3), (505, .iconst 5, 1), (506, .iconst 1, 1), (507, .iastore, 1), (508, .aload_n 0, 1), (509, .getfield 13, 3), (512, .bipush 7, 2), (514, .bipush 15, 2), (516, .iastore, 1), (517, .aload_n 0, 1), (518, .getfield 13, 3), (521, .bipush 10, 2), (523, .iconst 1, 1), (524, .iastore, 1), (525, .aload_n 0, 1), (526, .getfield 13, 3), (529, .bipush 11, 2), (531, .iconst (-1), 1), (532, .iastore, 1), (533, .aload_n 0, 1), (534, .getfield 13, 3), (537, .bipush 14, 2), (539, .iconst (-1), 1), (540, .iastore, 1), (541, .aload_n 0, 1), (542, .getfield 13, 3), (545, .bipush 15, 2), (547, .iconst (-1), 1), (548, .iastore, 1), (549, .iconst 0, 1), (550, .istore_n 1, 1), (551, .iload_n 1, 1), (552, .bipush 52, 2), (554, .if_icmp .ge 19, 3), (557, .aload_n 0, 1), (558, .getfield 13, 3), (561, .bipush 18, 2), (563, .iload_n 1, 1), (564, .iadd, 1), (565, .iconst (-1), 1), (566, .iastore, 1), (567, .iinc 1 1, 3), (570, .goto (-19), 3), (573, .return_, 1)]
theorem dX12_init : ∀ q ∈ tbX12_init, decode prog_14_method_1_code q.1 = .ok q.2 := by decide +kernel
set_option maxRecDepth 50000 in
set_option maxHeartbeats 4000000 in
theorem cX12_init (l : Launch) (w : WX) (t : Nat) (hb : Bel w t) (hz : wz w ≤ t) (hL : Lay w) (M : Mem) : CtI l w t 12 yX12_init prog_14_method_1_code 2 1 20 41 25083 [.ref t] (put M t 42 UZ_X12_init) G_X12_init (put M t 42 T_X12_init) := by
  refine ctI_of (by decide) rfl (Nat.le_of_ble_eq_true rfl) (fun x hl hsz hR hin hx0 hb9 => ?_)
  subst hl
  have hd : ∀ i, DAt (xc x).code (tbX12_init[i]?) := fun i => by rw [hb9]; exact dat_of dX12_init i
  show C (xat x 0 0) (wg w t gX12_init_0) (Qi x w t G_X12_init (put M t 42 T_X12_init) 41 25083) 2 0 [(0, .ref t)] [] (put M t 42 UZ_X12_init) (some ())
  refine z_as (U' := (wr vX12_init_0 (qX12_init_0 t))) rfl ?_
  have zr0 : Zr UZ_X12_init (wr vX12_init_0 (qX12_init_0 t)) 1 := Zr.z0 rfl rfl rfl rfl
  have rn0 : Rny (wr vX12_init_0 (qX12_init_0 t)) [0] := Rny.z9 rfl
  refine r_aload_n (pc' := 1) hx0 (hd 0) rfl 0 rfl rfl ?_
  refine q_objI hx0 (hd 1) mlI_12_1 ob_in ob_cd ⟨Nat.le_of_ble_eq_true rfl, Nat.le_of_ble_eq_true rfl⟩ (Nat.le_of_ble_eq_true rfl) ?_
  refine r_pcA (pc' := 4) rfl ?_
  refine r_aload_n (pc' := 5) hx0 (hd 2) rfl 0 rfl rfl ?_
  refine r_bipush (pc' := 7) (v := 7) hx0 (hd 3) (by decide) rfl ?_
  refine q_newa (gn := 7) (G := gX12_init_0) (K := 0) (N := 0) (kd := 20) (c := 0) (n := 7) (o := 1) (ty := .int) (e9 := .inl (fun _ => 0)) rfl hb hz (by decide) (by rw [hsz]; exact (by omega : t + 1 + 0 = t + 1)) hx0 (hd 4) rfl ar_int rfl (fun _ _ h => h) (by decide) (by decide) (by decide) (by rw [hR.1]; decide) (by rw [hR.2]; decide) (fun _ => rfl) (ce_int (by decide) (zr0 1 (by decide)).1) (nr_put (by decide) (zr0 1 (by decide)).2.2.1) ?_
  have hx1 : Ok _ 2 none _ _ (wg w t gX12_init_1) (xat x 1 7) := ok_grow (w' := wg w t gX12_init_1) hx0 rfl rfl rfl rfl (lay_wg hL hb (by decide +kernel)) (by rw [hR.1]; decide) (by rw [hR.2]; decide)
  refine z_putR (pc' := 12) (o := 1) (by decide) hx1 (hd 5) hin fw_12_7 (wat_new (G := gX12_init_1) (o := 0) (kd := 40 + 12) (n := 0) (by decide +kernel)) rfl (by decide) rfl rfl rfl ?_
  refine z_as (U' := (wr vX12_init_1 (qX12_init_1 t))) ((wrR ..).trans rfl) ?_
  have zr1 : Zr UZ_X12_init (wr vX12_init_1 (qX12_init_1 t)) 2 := Zr.cR zr0 (by decide)
  have rn1 : Rny (wr vX12_init_1 (qX12_init_1 t)) [0] := Rny.cR rn0 (by decide)
  refine r_aload_n (pc' := 13) hx1 (hd 6) rfl 0 rfl rfl ?_
  refine r_sipush (pc' := 16) (v := 5594) hx1 (hd 7) (by decide) rfl ?_
  refine q_newa (gn := 5594) (G := gX12_init_1) (K := 1) (N := 7) (kd := 20) (c := 0) (n := 5594) (o := 2) (ty := .int) (e9 := .inl (fun _ => 0)) rfl hb hz (by decide) (by rw [hsz]; exact (by omega : t + 1 + 1 = t + 2)) hx1 (hd 8) rfl ar_int rfl (fun _ _ h => h) (by decide) (by decide) (by decide) (by rw [hR.1]; decide) (by rw [hR.2]; decide) (fun _ => rfl) (ce_int (by decide) (zr1 2 (by decide)).1) (nr_put (by decide) (zr1 2 (by decide)).2.2.1) ?_
  have hx2 : Ok _ 2 none _ _ (wg w t gX12_init_2) (xat x 2 5601) := ok_grow (w' := wg w t gX12_init_2) hx1 rfl rfl rfl rfl (lay_wg hL hb (by decide +kernel)) (by rw [hR.1]; decide) (by rw [hR.2]; decide)
  refine z_putR (pc' := 21) (o := 2) (by decide) hx2 (hd 9) hin fw_12_13 (wat_new (G := gX12_init_2) (o := 0) (kd := 40 + 12) (n := 0) (by decide +kernel)) rfl (by decide) rfl rfl rfl ?_
  refine z_as (U' := (wr vX12_init_2 (qX12_init_2 t))) ((wrR ..).trans rfl) ?_
  have zr2 : Zr UZ_X12_init (wr vX12_init_2 (qX12_init_2 t)) 3 := Zr.cR zr1 (by decide)
  have rn2 : Rny (wr vX12_init_2 (qX12_init_2 t)) [0] := Rny.cR rn1 (by decide)
  refine r_aload_n (pc' := 22) hx2 (hd 10) rfl 0 rfl rfl ?_
  refine r_sipush (pc' := 25) (v := 11188) hx2 (hd 11) (by decide) rfl ?_
  refine q_newa (gn := 11188) (G := gX12_init_2) (K := 2) (N := 5601) (kd := 20) (c := 0) (n := 11188) (o := 3) (ty := .int) (e9 := .inl (fun _ => 0)) rfl hb hz (by decide) (by rw [hsz]; exact (by omega : t + 1 + 2 = t + 3)) hx2 (hd 12) rfl ar_int rfl (fun _ _ h => h) (by decide) (by decide) (by decide) (by rw [hR.1]; decide) (by rw [hR.2]; decide) (fun _ => rfl) (ce_int (by decide) (zr2 3 (by decide)).1) (nr_put (by decide) (zr2 3 (by decide)).2.2.1) ?_
  have hx3 : Ok _ 2 none _ _ (wg w t gX12_init_3) (xat x 3 16789) := ok_grow (w' := wg w t gX12_init_3) hx2 rfl rfl rfl rfl (lay_wg hL hb (by decide +kernel)) (by rw [hR.1]; decide) (by rw [hR.2]; decide)
  refine z_putR (pc' := 30) (o := 3) (by decide) hx3 (hd 13) hin fw_12_16 (wat_new (G := gX12_init_3) (o := 0) (kd := 40 + 12) (n := 0) (by decide +kernel)) rfl (by decide) rfl rfl rfl ?_
  refine z_as (U' := (wr vX12_init_3 (qX12_init_3 t))) ((wrR ..).trans rfl) ?_
  have zr3 : Zr UZ_X12_init (wr vX12_init_3 (qX12_init_3 t)) 4 := Zr.cR zr2 (by decide)
  have rn3 : Rny (wr vX12_init_3 (qX12_init_3 t)) [0] := Rny.cR rn2 (by decide)
  refine r_aload_n (pc' := 31) hx3 (hd 14) rfl 0 rfl rfl ?_
  refine r_iconst (pc' := 32) (v := 2) hx3 (hd 15) (by decide) rfl ?_
  refine q_newa (gn := 2) (G := gX12_init_3) (K := 3) (N := 16789) (kd := 22) (c := 2) (n := 2) (o := 4) (ty := .boolean) (e9 := .inl (fun _ => 0)) rfl hb hz (by decide) (by rw [hsz]; exact (by omega : t + 1 + 3 = t + 4)) hx3 (hd 16) rfl ar_boolean rfl (fun _ _ h => h) (by decide) (by decide) (by decide) (by rw [hR.1]; decide) (by rw [hR.2]; decide) (fun _ => rfl) (ce_bool (by decide) (zr3 4 (by decide)).1) (nr_put (by decide) (zr3 4 (by decide)).2.2.1) ?_
  have hx4 : Ok _ 2 none _ _ (wg w t gX12_init_4) (xat x 4 16791) := ok_grow (w' := wg w t gX12_init_4) hx3 rfl rfl rfl rfl (lay_wg hL hb (by decide +kernel)) (by rw [hR.1]; decide) (by rw [hR.2]; decide)
  refine z_putR (pc' := 37) (o := 4) (by decide) hx4 (hd 17) hin fw_12_19 (wat_new (G := gX12_init_4) (o := 0) (kd := 40 + 12) (n := 0) (by decide +kernel)) rfl (by decide) rfl rfl rfl ?_
  refine z_as (U' := (wr vX12_init_4 (qX12_init_4 t))) ((wrR ..).trans rfl) ?_
  have zr4 : Zr UZ_X12_init (wr vX12_init_4 (qX12_init_4 t)) 5 := Zr.cR zr3 (by decide)
  have rn4 : Rny (wr vX12_init_4 (qX12_init_4 t)) [0] := Rny.cR rn3 (by decide)
  refine r_aload_n (pc' := 38) hx4 (hd 18) rfl 0 rfl rfl ?_
  refine r_sipush (pc' := 41) (v := 2196) hx4 (hd 19) (by decide) rfl ?_
  refine q_newa (gn := 2196) (G := gX12_init_4) (K := 4) (N := 16791) (kd := 20) (c := 0) (n := 2196) (o := 5) (ty := .int) (e9 := .inl (fun _ => 0)) rfl hb hz (by decide) (by rw [hsz]; exact (by omega : t + 1 + 4 = t + 5)) hx4 (hd 20) rfl ar_int rfl (fun _ _ h => h) (by decide) (by decide) (by decide) (by rw [hR.1]; decide) (by rw [hR.2]; decide) (fun _ => rfl) (ce_int (by decide) (zr4 5 (by decide)).1) (nr_put (by decide) (zr4 5 (by decide)).2.2.1) ?_
  have hx5 : Ok _ 2 none _ _ (wg w t gX12_init_5) (xat x 5 18987) := ok_grow (w' := wg w t gX12_init_5) hx4 rfl rfl rfl rfl (lay_wg hL hb (by decide +kernel)) (by rw [hR.1]; decide) (by rw [hR.2]; decide)
  refine z_putR (pc' := 46) (o := 5) (by decide) hx5 (hd 21) hin fw_12_23 (wat_new (G := gX12_init_5) (o := 0) (kd := 40 + 12) (n := 0) (by decide +kernel)) rfl (by decide) rfl rfl rfl ?_
  refine z_as (U' := (wr vX12_init_5 (qX12_init_5 t))) ((wrR ..).trans rfl) ?_
  have zr5 : Zr UZ_X12_init (wr vX12_init_5 (qX12_init_5 t)) 6 := Zr.cR zr4 (by decide)
  have rn5 : Rny (wr vX12_init_5 (qX12_init_5 t)) [0] := Rny.cR rn4 (by decide)
  refine r_aload_n (pc' := 47) hx5 (hd 22) rfl 0 rfl rfl ?_
  refine r_bipush (pc' := 49) (v := 16) hx5 (hd 23) (by decide) rfl ?_
  refine q_newa (gn := 16) (G := gX12_init_5) (K := 5) (N := 18987) (kd := 20) (c := 0) (n := 16) (o := 6) (ty := .int) (e9 := .inl (fun _ => 0)) rfl hb hz (by decide) (by rw [hsz]; exact (by omega : t + 1 + 5 = t + 6)) hx5 (hd 24) rfl ar_int rfl (fun _ _ h => h) (by decide) (by decide) (by decide) (by rw [hR.1]; decide) (by rw [hR.2]; decide) (fun _ => rfl) (ce_int (by decide) (zr5 6 (by decide)).1) (nr_put (by decide) (zr5 6 (by decide)).2.2.1) ?_
  have hx6 : Ok _ 2 none _ _ (wg w t gX12_init_6) (xat x 6 19003) := ok_grow (w' := wg w t gX12_init_6) hx5 rfl rfl rfl rfl (lay_wg hL hb (by decide +kernel)) (by rw [hR.1]; decide) (by rw [hR.2]; decide)
  refine z_putR (pc' := 54) (o := 6) (by decide) hx6 (hd 25) hin fw_12_26 (wat_new (G := gX12_init_6) (o := 0) (kd := 40 + 12) (n := 0) (by decide +kernel)) rfl (by decide) rfl rfl rfl ?_
  refine z_as (U' := (wr vX12_init_6 (qX12_init_6 t))) ((wrR ..).trans rfl) ?_
  have zr6 : Zr UZ_X12_init (wr vX12_init_6 (qX12_init_6 t)) 7 := Zr.cR zr5 (by decide)
  have rn6 : Rny (wr vX12_init_6 (qX12_init_6 t)) [0] := Rny.cR rn5 (by decide)
  refine r_aload_n (pc' := 55) hx6 (hd 26) rfl 0 rfl rfl ?_
  refine r_sipush (pc' := 58) (v := 1952) hx6 (hd 27) (by decide) rfl ?_
  refine q_newa (gn := 1952) (G := gX12_init_6) (K := 6) (N := 19003) (kd := 20) (c := 0) (n := 1952) (o := 7) (ty := .int) (e9 := .inl (fun _ => 0)) rfl hb hz (by decide) (by rw [hsz]; exact (by omega : t + 1 + 6 = t + 7)) hx6 (hd 28) rfl ar_int rfl (fun _ _ h => h) (by decide) (by decide) (by decide) (by rw [hR.1]; decide) (by rw [hR.2]; decide) (fun _ => rfl) (ce_int (by decide) (zr6 7 (by decide)).1) (nr_put (by decide) (zr6 7 (by decide)).2.2.1) ?_
  have hx7 : Ok _ 2 none _ _ (wg w t gX12_init_7) (xat x 7 20955) := ok_grow (w' := wg w t gX12_init_7) hx6 rfl rfl rfl rfl (lay_wg hL hb (by decide +kernel)) (by rw [hR.1]; decide) (by rw [hR.2]; decide)
  refine z_putR (pc' := 63) (o := 7) (by decide) hx7 (hd 29) hin fw_12_29 (wat_new (G := gX12_init_7) (o := 0) (kd := 40 + 12) (n := 0) (by decide +kernel)) rfl (by decide) rfl rfl rfl ?_
  refine z_as (U' := (wr vX12_init_7 (qX12_init_7 t))) ((wrR ..).trans rfl) ?_
  have zr7 : Zr UZ_X12_init (wr vX12_init_7 (qX12_init_7 t)) 8 := Zr.cR zr6 (by decide)
  have rn7 : Rny (wr vX12_init_7 (qX12_init_7 t)) [0] := Rny.cR rn6 (by decide)
  refine r_aload_n (pc' := 64) hx7 (hd 30) rfl 0 rfl rfl ?_
  refine r_bipush (pc' := 66) (v := 16) hx7 (hd 31) (by decide) rfl ?_
  refine q_newa (gn := 16) (G := gX12_init_7) (K := 7) (N := 20955) (kd := 20) (c := 0) (n := 16) (o := 8) (ty := .int) (e9 := .inl (fun _ => 0)) rfl hb hz (by decide) (by rw [hsz]; exact (by omega : t + 1 + 7 = t + 8)) hx7 (hd 32) rfl ar_int rfl (fun _ _ h => h) (by decide) (by decide) (by decide) (by rw [hR.1]; decide) (by rw [hR.2]; decide) (fun _ => rfl) (ce_int (by decide) (zr7 8 (by decide)).1) (nr_put (by decide) (zr7 8 (by decide)).2.2.1) ?_
  have hx8 : Ok _ 2 none _ _ (wg w t gX12_init_8) (xat x 8 20971) := ok_grow (w' := wg w t gX12_init_8) hx7 rfl rfl rfl rfl (lay_wg hL hb (by decide +kernel)) (by rw [hR.1]; decide) (by rw [hR.2]; decide)
  refine z_putR (pc' := 71) (o := 8) (by decide) hx8 (hd 33) hin fw_12_32 (wat_new (G := gX12_init_8) (o := 0) (kd := 40 + 12) (n := 0) (by decide +kernel)) rfl (by decide) rfl rfl rfl ?_
  refine z_as (U' := (wr vX12_init_8 (qX12_init_8 t))) ((wrR ..).trans rfl) ?_
  have zr8 : Zr UZ_X12_init (wr vX12_init_8 (qX12_init_8 t)) 9 := Zr.cR zr7 (by decide)
  have rn8 : Rny (wr vX12_init_8 (qX12_init_8 t)) [0] := Rny.cR rn7 (by decide)
  refine r_aload_n (pc' := 72) hx8 (hd 34) rfl 0 rfl rfl ?_
  refine r_sipush (pc' := 75) (v := 400) hx8 (hd 35) (by decide) rfl ?_
  refine q_newa (gn := 400) (G := gX12_init_8) (K := 8) (N := 20971) (kd := 20) (c := 0) (n := 400) (o := 9) (ty := .int) (e9 := .inl (fun _ => 0)) rfl hb hz (by decide) (by rw [hsz]; exact (by omega : t + 1 + 8 = t + 9)) hx8 (hd 36) rfl ar_int rfl (fun _ _ h => h) (by decide) (by decide) (by decide) (by rw [hR.1]; decide) (by rw [hR.2]; decide) (fun _ => rfl) (ce_int (by decide) (zr8 9 (by decide)).1) (nr_put (by decide) (zr8 9 (by decide)).2.2.1) ?_
  have hx9 : Ok _ 2 none _ _ (wg w t gX12_init_9) (xat x 9 21371) := ok_grow (w' := wg w t gX12_init_9) hx8 rfl rfl rfl rfl (lay_wg hL hb (by decide +kernel)) (by rw [hR.1]; decide) (by rw [hR.2]; decide)
  refine z_putR (pc' := 80) (o := 9) (by decide) hx9 (hd 37) hin fw_12_35 (wat_new (G := gX12_init_9) (o := 0) (kd := 40 + 12) (n := 0) (by decide +kernel)) rfl (by decide) rfl rfl rfl ?_
  refine z_as (U' := (wr vX12_init_9 (qX12_init_9 t))) ((wrR ..).trans rfl) ?_
  have zr9 : Zr UZ_X12_init (wr vX12_init_9 (qX12_init_9 t)) 10 := Zr.cR zr8 (by decide)
  have rn9 : Rny (wr vX12_init_9 (qX12_init_9 t)) [0] := Rny.cR rn8 (by decide)
  refine r_aload_n (pc' := 81) hx9 (hd 38) rfl 0 rfl rfl ?_
  refine r_iconst (pc' := 82) (v := (-1)) hx9 (hd 39) (by decide) rfl ?_
  refine z_putI (pc' := 85) (by decide) hx9 (hd 40) hin fw_12_38 (wat_new (G := gX12_init_9) (o := 0) (kd := 40 + 12) (n := 0) (by decide +kernel)) rfl (by decide) rfl rfl rfl ?_
  refine z_as (U' := (wr vX12_init_10 (qX12_init_10 t))) ((wrI ..).trans rfl) ?_
  have zr10 : Zr UZ_X12_init (wr vX12_init_10 (qX12_init_10 t)) 10 := Zr.cI zr9 (by decide)
  have rn10 : Rny (wr vX12_init_10 (qX12_init_10 t)) [0] := Rny.cI rn9
  refine r_aload_n (pc' := 86) hx9 (hd 41) rfl 0 rfl rfl ?_
  refine r_bipush (pc' := 88) (v := 96) hx9 (hd 42) (by decide) rfl ?_
  refine q_newa (gn := 96) (G := gX12_init_9) (K := 9) (N := 21371) (kd := 20) (c := 0) (n := 96) (o := 10) (ty := .int) (e9 := .inl (fun _ => 0)) rfl hb hz (by decide) (by rw [hsz]; exact (by omega : t + 1 + 9 = t + 10)) hx9 (hd 43) rfl ar_int rfl (fun _ _ h => h) (by decide) (by decide) (by decide) (by rw [hR.1]; decide) (by rw [hR.2]; decide) (fun _ => rfl) (ce_int (by decide) (zr10 10 (by decide)).1) (nr_put (by decide) (zr10 10 (by decide)).2.2.1) ?_
  have hx10 : Ok _ 2 none _ _ (wg w t gX12_init_10) (xat x 10 21467) := ok_grow (w' := wg w t gX12_init_10) hx9 rfl rfl rfl rfl (lay_wg hL hb (by decide +kernel)) (by rw [hR.1]; decide) (by rw [hR.2]; decide)
  refine z_putR (pc' := 93) (o := 10) (by decide) hx10 (hd 44) hin fw_12_42 (wat_new (G := gX12_init_10) (o := 0) (kd := 40 + 12) (n := 0) (by decide +kernel)) rfl (by decide) rfl rfl rfl ?_
  refine z_as (U' := (wr vX12_init_11 (qX12_init_11 t))) ((wrR ..).trans rfl) ?_
  have zr11 : Zr UZ_X12_init (wr vX12_init_11 (qX12_init_11 t)) 11 := Zr.cR zr10 (by decide)
  have rn11 : Rny (wr vX12_init_11 (qX12_init_11 t)) [0] := Rny.cR rn10 (by decide)
  refine r_aload_n (pc' := 94) hx10 (hd 45) rfl 0 rfl rfl ?_
  refine r_sipush (pc' := 97) (v := 400) hx10 (hd 46) (by decide) rfl ?_
  refine q_newa (gn := 400) (G := gX12_init_10) (K := 10) (N := 21467) (kd := 20) (c := 0) (n := 400) (o := 11) (ty := .int) (e9 := .inl (fun _ => 0)) rfl hb hz (by decide) (by rw [hsz]; exact (by omega : t + 1 + 10 = t + 11)) hx10 (hd 47) rfl ar_int rfl (fun _ _ h => h) (by decide) (by decide) (by decide) (by rw [hR.1]; decide) (by rw [hR.2]; decide) (fun _ => rfl) (ce_int (by decide) (zr11 11 (by decide)).1) (nr_put (by decide) (zr11 11 (by decide)).2.2.1) ?_
  have hx11 : Ok _ 2 none _ _ (wg w t gX12_init_11) (xat x 11 21867) := ok_grow (w' := wg w t gX12_init_11) hx10 rfl rfl rfl rfl (lay_wg hL hb (by decide +kernel)) (by rw [hR.1]; decide) (by rw [hR.2]; decide)
  refine z_putR (pc' := 102) (o := 11) (by decide) hx11 (hd 48) hin fw_12_45 (wat_new (G := gX12_init_11) (o := 0) (kd := 40 + 12) (n := 0) (by decide +kernel)) rfl (by decide) rfl rfl rfl ?_
  refine z_as (U' := (wr vX12_init_12 (qX12_init_12 t))) ((wrR ..).trans rfl) ?_
  have zr12 : Zr UZ_X12_init (wr vX12_init_12 (qX12_init_12 t)) 12 := Zr.cR zr11 (by decide)
  have rn12 : Rny (wr vX12_init_12 (qX12_init_12 t)) [0] := Rny.cR rn11 (by decide)
  refine r_aload_n (pc' := 103) hx11 (hd 49) rfl 0 rfl rfl ?_
  refine r_sipush (pc' := 106) (v := 400) hx11 (hd 50) (by decide) rfl ?_
  refine q_newa (gn := 400) (G := gX12_init_11) (K := 11) (N := 21867) (kd := 20) (c := 0) (n := 400) (o := 12) (ty := .int) (e9 := .inl (fun _ => 0)) rfl hb hz (by decide) (by rw [hsz]; exact (by omega : t + 1 + 11 = t + 12)) hx11 (hd 51) rfl ar_int rfl (fun _ _ h => h) (by decide) (by decide) (by decide) (by rw [hR.1]; decide) (by rw [hR.2]; decide) (fun _ => rfl) (ce_int (by decide) (zr12 12 (by decide)).1) (nr_put (by decide) (zr12 12 (by decide)).2.2.1) ?_
  have hx12 : Ok _ 2 none _ _ (wg w t gX12_init_12) (xat x 12 22267) := ok_grow (w' := wg w t gX12_init_12) hx11 rfl rfl rfl rfl (lay_wg hL hb (by decide +kernel)) (by rw [hR.1]; decide) (by rw [hR.2]; decide)
  refine z_putR (pc' := 111) (o := 12) (by decide) hx12 (hd 52) hin fw_12_48 (wat_new (G := gX12_init_12) (o := 0) (kd := 40 + 12) (n := 0) (by decide +kernel)) rfl (by decide) rfl rfl rfl ?_
  refine z_as (U' := (wr vX12_init_13 (qX12_init_13 t))) ((wrR ..).trans rfl) ?_
  have zr13 : Zr UZ_X12_init (wr vX12_init_13 (qX12_init_13 t)) 13 := Zr.cR zr12 (by decide)
  have rn13 : Rny (wr vX12_init_13 (qX12_init_13 t)) [0] := Rny.cR rn12 (by decide)
  refine r_aload_n (pc' := 112) hx12 (hd 53) rfl 0 rfl rfl ?_
  refine r_sipush (pc' := 115) (v := 400) hx12 (hd 54) (by decide) rfl ?_
  refine q_newa (gn := 400) (G := gX12_init_12) (K := 12) (N := 22267) (kd := 20) (c := 0) (n := 400) (o := 13) (ty := .int) (e9 := .inl (fun _ => 0)) rfl hb hz (by decide) (by rw [hsz]; exact (by omega : t + 1 + 12 = t + 13)) hx12 (hd 55) rfl ar_int rfl (fun _ _ h => h) (by decide) (by decide) (by decide) (by rw [hR.1]; decide) (by rw [hR.2]; decide) (fun _ => rfl) (ce_int (by decide) (zr13 13 (by decide)).1) (nr_put (by decide) (zr13 13 (by decide)).2.2.1) ?_
  have hx13 : Ok _ 2 none _ _ (wg w t gX12_init_13) (xat x 13 22667) := ok_grow (w' := wg w t gX12_init_13) hx12 rfl rfl rfl rfl (lay_wg hL hb (by decide +kernel)) (by rw [hR.1]; decide) (by rw [hR.2]; decide)
  refine z_putR (pc' := 120) (o := 13) (by decide) hx13 (hd 56) hin fw_12_51 (wat_new (G := gX12_init_13) (o := 0) (kd := 40 + 12) (n := 0) (by decide +kernel)) rfl (by decide) rfl rfl rfl ?_
  refine z_as (U' := (wr vX12_init_14 (qX12_init_14 t))) ((wrR ..).trans rfl) ?_
  have zr14 : Zr UZ_X12_init (wr vX12_init_14 (qX12_init_14 t)) 14 := Zr.cR zr13 (by decide)
  have rn14 : Rny (wr vX12_init_14 (qX12_init_14 t)) [0] := Rny.cR rn13 (by decide)
  refine r_aload_n (pc' := 121) hx13 (hd 57) rfl 0 rfl rfl ?_
  refine r_sipush (pc' := 124) (v := 400) hx13 (hd 58) (by decide) rfl ?_
  refine q_newa (gn := 400) (G := gX12_init_13) (K := 13) (N := 22667) (kd := 20) (c := 0) (n := 400) (o := 14) (ty := .int) (e9 := .inl (fun _ => 0)) rfl hb hz (by decide) (by rw [hsz]; exact (by omega : t + 1 + 13 = t + 14)) hx13 (hd 59) rfl ar_int rfl (fun _ _ h => h) (by decide) (by decide) (by decide) (by rw [hR.1]; decide) (by rw [hR.2]; decide) (fun _ => rfl) (ce_int (by decide) (zr14 14 (by decide)).1) (nr_put (by decide) (zr14 14 (by decide)).2.2.1) ?_
  have hx14 : Ok _ 2 none _ _ (wg w t gX12_init_14) (xat x 14 23067) := ok_grow (w' := wg w t gX12_init_14) hx13 rfl rfl rfl rfl (lay_wg hL hb (by decide +kernel)) (by rw [hR.1]; decide) (by rw [hR.2]; decide)
  refine z_putR (pc' := 129) (o := 14) (by decide) hx14 (hd 60) hin fw_12_54 (wat_new (G := gX12_init_14) (o := 0) (kd := 40 + 12) (n := 0) (by decide +kernel)) rfl (by decide) rfl rfl rfl ?_
  refine z_as (U' := (wr vX12_init_15 (qX12_init_15 t))) ((wrR ..).trans rfl) ?_
  have zr15 : Zr UZ_X12_init (wr vX12_init_15 (qX12_init_15 t)) 15 := Zr.cR zr14 (by decide)
  have rn15 : Rny (wr vX12_init_15 (qX12_init_15 t)) [0] := Rny.cR rn14 (by decide)
  refine r_aload_n (pc' := 130) hx14 (hd 61) rfl 0 rfl rfl ?_
  refine r_bipush (pc' := 132) (v := 6) hx14 (hd 62) (by decide) rfl ?_
  refine q_newa (gn := 6) (G := gX12_init_14) (K := 14) (N := 23067) (kd := 21) (c := 1) (n := 6) (o := 15) (ty := .long) (e9 := .inr (.inl (fun _ => 0))) rfl hb hz (by decide) (by rw [hsz]; exact (by omega : t + 1 + 14 = t + 15)) hx14 (hd 63) rfl ar_long rfl (fun _ _ h => h) (by decide) (by decide) (by decide) (by rw [hR.1]; decide) (by rw [hR.2]; decide) (fun _ => rfl) (ce_long (by decide) (zr15 15 (by decide)).2.1) (nr_put (by decide) (zr15 15 (by decide)).2.2.1) ?_
  have hx15 : Ok _ 2 none _ _ (wg w t gX12_init_15) (xat x 15 23073) := ok_grow (w' := wg w t gX12_init_15) hx14 rfl rfl rfl rfl (lay_wg hL hb (by decide +kernel)) (by rw [hR.1]; decide) (by rw [hR.2]; decide)
  refine r_dup (pc' := 135) hx15 (hd 64) rfl rfl ?_
  refine r_iconst (pc' := 136) (v := 0) hx15 (hd 65) (by decide) rfl ?_
  refine r_ldc2 (pc' := 139) hx15 (hd 66) kc_12_57 rfl ?_
  refine z_last (pc' := 140) (k := 0) (by decide) hx15 (hd 67) (wat_new (G := gX12_init_15) (o := 15) (kd := 21) (n := 6) (by decide +kernel)) (by decide) (by decide) rfl ?_
  refine z_as (U' := (wr vX12_init_16 (qX12_init_16 t))) ((wrJ ..).trans rfl) ?_
  have zr16 : Zr UZ_X12_init (wr vX12_init_16 (qX12_init_16 t)) 16 := Zr.cJ zr15 (by decide)
  have rn16 : Rny (wr vX12_init_16 (qX12_init_16 t)) [0] := Rny.cJ rn15
  refine r_dup (pc' := 141) hx15 (hd 68) rfl rfl ?_
  refine r_iconst (pc' := 142) (v := 1) hx15 (hd 69) (by decide) rfl ?_
  refine r_ldc2 (pc' := 145) hx15 (hd 70) kc_12_59 rfl ?_
  refine z_last (pc' := 146) (k := 1) (by decide) hx15 (hd 71) (wat_new (G := gX12_init_15) (o := 15) (kd := 21) (n := 6) (by decide +kernel)) (by decide) (by decide) rfl ?_
  refine z_as (U' := (wr vX12_init_17 (qX12_init_17 t))) ((wrJ ..).trans rfl) ?_
  have zr17 : Zr UZ_X12_init (wr vX12_init_17 (qX12_init_17 t)) 16 := Zr.cJ zr16 (by decide)
  have rn17 : Rny (wr vX12_init_17 (qX12_init_17 t)) [0] := Rny.cJ rn16
  refine r_dup (pc' := 147) hx15 (hd 72) rfl rfl ?_
  refine r_iconst (pc' := 148) (v := 2) hx15 (hd 73) (by decide) rfl ?_
  refine r_ldc2 (pc' := 151) hx15 (hd 74) kc_12_61 rfl ?_
  refine z_last (pc' := 152) (k := 2) (by decide) hx15 (hd 75) (wat_new (G := gX12_init_15) (o := 15) (kd := 21) (n := 6) (by decide +kernel)) (by decide) (by decide) rfl ?_
  refine z_as (U' := (wr vX12_init_18 (qX12_init_18 t))) ((wrJ ..).trans rfl) ?_
  have zr18 : Zr UZ_X12_init (wr vX12_init_18 (qX12_init_18 t)) 16 := Zr.cJ zr17 (by decide)
  have rn18 : Rny (wr vX12_init_18 (qX12_init_18 t)) [0] := Rny.cJ rn17
  refine r_dup (pc' := 153) hx15 (hd 76) rfl rfl ?_
  refine r_iconst (pc' := 154) (v := 3) hx15 (hd 77) (by decide) rfl ?_
  refine r_ldc2 (pc' := 157) hx15 (hd 78) kc_12_63 rfl ?_
  refine z_last (pc' := 158) (k := 3) (by decide) hx15 (hd 79) (wat_new (G := gX12_init_15) (o := 15) (kd := 21) (n := 6) (by decide +kernel)) (by decide) (by decide) rfl ?_
  refine z_as (U' := (wr vX12_init_19 (qX12_init_19 t))) ((wrJ ..).trans rfl) ?_
  have zr19 : Zr UZ_X12_init (wr vX12_init_19 (qX12_init_19 t)) 16 := Zr.cJ zr18 (by decide)
  have rn19 : Rny (wr vX12_init_19 (qX12_init_19 t)) [0] := Rny.cJ rn18
  refine r_dup (pc' := 159) hx15 (hd 80) rfl rfl ?_
  refine r_iconst (pc' := 160) (v := 4) hx15 (hd 81) (by decide) rfl ?_
  refine r_ldc2 (pc' := 163) hx15 (hd 82) kc_12_65 rfl ?_
  refine z_last (pc' := 164) (k := 4) (by decide) hx15 (hd 83) (wat_new (G := gX12_init_15) (o := 15) (kd := 21) (n := 6) (by decide +kernel)) (by decide) (by decide) rfl ?_
  refine z_as (U' := (wr vX12_init_20 (qX12_init_20 t))) ((wrJ ..).trans rfl) ?_
  have zr20 : Zr UZ_X12_init (wr vX12_init_20 (qX12_init_20 t)) 16 := Zr.cJ zr19 (by decide)
  have rn20 : Rny (wr vX12_init_20 (qX12_init_20 t)) [0] := Rny.cJ rn19
  refine r_dup (pc' := 165) hx15 (hd 84) rfl rfl ?_
  refine r_iconst (pc' := 166) (v := 5) hx15 (hd 85) (by decide) rfl ?_
  refine r_ldc2 (pc' := 169) hx15 (hd 86) kc_12_67 rfl ?_
  refine z_last (pc' := 170) (k := 5) (by decide) hx15 (hd 87) (wat_new (G := gX12_init_15) (o := 15) (kd := 21) (n := 6) (by decide +kernel)) (by decide) (by decide) rfl ?_
  refine z_as (U' := (wr vX12_init_21 (qX12_init_21 t))) ((wrJ ..).trans rfl) ?_
  have zr21 : Zr UZ_X12_init (wr vX12_init_21 (qX12_init_21 t)) 16 := Zr.cJ zr20 (by decide)
  have rn21 : Rny (wr vX12_init_21 (qX12_init_21 t)) [0] := Rny.cJ rn20
  refine z_putR (pc' := 173) (o := 15) (by decide) hx15 (hd 88) hin fw_12_69 (wat_new (G := gX12_init_15) (o := 0) (kd := 40 + 12) (n := 0) (by decide +kernel)) rfl (by decide) rfl rfl rfl ?_
  refine z_as (U' := (wr vX12_init_22 (qX12_init_22 t))) ((wrR ..).trans rfl) ?_
  have zr22 : Zr UZ_X12_init (wr vX12_init_22 (qX12_init_22 t)) 16 := Zr.cR zr21 (by decide)
  have rn22 : Rny (wr vX12_init_22 (qX12_init_22 t)) [0] := Rny.cR rn21 (by decide)
  refine r_aload_n (pc' := 174) hx15 (hd 89) rfl 0 rfl rfl ?_
  refine r_bipush (pc' := 176) (v := 7) hx15 (hd 90) (by decide) rfl ?_
  refine q_newa (gn := 7) (G := gX12_init_15) (K := 15) (N := 23073) (kd := 21) (c := 1) (n := 7) (o := 16) (ty := .long) (e9 := .inr (.inl (fun _ => 0))) rfl hb hz (by decide) (by rw [hsz]; exact (by omega : t + 1 + 15 = t + 16)) hx15 (hd 91) rfl ar_long rfl (fun _ _ h => h) (by decide) (by decide) (by decide) (by rw [hR.1]; decide) (by rw [hR.2]; decide) (fun _ => rfl) (ce_long (by decide) (zr22 16 (by decide)).2.1) (nr_put (by decide) (zr22 16 (by decide)).2.2.1) ?_
  have hx16 : Ok _ 2 none _ _ (wg w t gX12_init_16) (xat x 16 23080) := ok_grow (w' := wg w t gX12_init_16) hx15 rfl rfl rfl rfl (lay_wg hL hb (by decide +kernel)) (by rw [hR.1]; decide) (by rw [hR.2]; decide)
  refine r_dup (pc' := 179) hx16 (hd 92) rfl rfl ?_
  refine r_iconst (pc' := 180) (v := 0) hx16 (hd 93) (by decide) rfl ?_
  refine r_ldc2 (pc' := 183) hx16 (hd 94) kc_12_73 rfl ?_
  refine z_last (pc' := 184) (k := 0) (by decide) hx16 (hd 95) (wat_new (G := gX12_init_16) (o := 16) (kd := 21) (n := 7) (by decide +kernel)) (by decide) (by decide) rfl ?_
  refine z_as (U' := (wr vX12_init_23 (qX12_init_23 t))) ((wrJ ..).trans rfl) ?_
  have zr23 : Zr UZ_X12_init (wr vX12_init_23 (qX12_init_23 t)) 17 := Zr.cJ zr22 (by decide)
  have rn23 : Rny (wr vX12_init_23 (qX12_init_23 t)) [0] := Rny.cJ rn22
  refine r_dup (pc' := 185) hx16 (hd 96) rfl rfl ?_
  refine r_iconst (pc' := 186) (v := 1) hx16 (hd 97) (by decide) rfl ?_
  refine r_ldc2 (pc' := 189) hx16 (hd 98) kc_12_75 rfl ?_
  refine z_last (pc' := 190) (k := 1) (by decide) hx16 (hd 99) (wat_new (G := gX12_init_16) (o := 16) (kd := 21) (n := 7) (by decide +kernel)) (by decide) (by decide) rfl ?_
  refine z_as (U' := (wr vX12_init_24 (qX12_init_24 t))) ((wrJ ..).trans rfl) ?_
  have zr24 : Zr UZ_X12_init (wr vX12_init_24 (qX12_init_24 t)) 17 := Zr.cJ zr23 (by decide)
  have rn24 : Rny (wr vX12_init_24 (qX12_init_24 t)) [0] := Rny.cJ rn23
  refine r_dup (pc' := 191) hx16 (hd 100) rfl rfl ?_
  refine r_iconst (pc' := 192) (v := 2) hx16 (hd 101) (by decide) rfl ?_
  refine r_ldc2 (pc' := 195) hx16 (hd 102) kc_12_77 rfl ?_
  refine z_last (pc' := 196) (k := 2) (by decide) hx16 (hd 103) (wat_new (G := gX12_init_16) (o := 16) (kd := 21) (n := 7) (by decide +kernel)) (by decide) (by decide) rfl ?_
  refine z_as (U' := (wr vX12_init_25 (qX12_init_25 t))) ((wrJ ..).trans rfl) ?_
  have zr25 : Zr UZ_X12_init (wr vX12_init_25 (qX12_init_25 t)) 17 := Zr.cJ zr24 (by decide)
  have rn25 : Rny (wr vX12_init_25 (qX12_init_25 t)) [0] := Rny.cJ rn24
  refine r_dup (pc' := 197) hx16 (hd 104) rfl rfl ?_
  refine r_iconst (pc' := 198) (v := 3) hx16 (hd 105) (by decide) rfl ?_
  refine r_ldc2 (pc' := 201) hx16 (hd 106) kc_12_79 rfl ?_
  refine z_last (pc' := 202) (k := 3) (by decide) hx16 (hd 107) (wat_new (G := gX12_init_16) (o := 16) (kd := 21) (n := 7) (by decide +kernel)) (by decide) (by decide) rfl ?_
  refine z_as (U' := (wr vX12_init_26 (qX12_init_26 t))) ((wrJ ..).trans rfl) ?_
  have zr26 : Zr UZ_X12_init (wr vX12_init_26 (qX12_init_26 t)) 17 := Zr.cJ zr25 (by decide)
  have rn26 : Rny (wr vX12_init_26 (qX12_init_26 t)) [0] := Rny.cJ rn25
  refine r_dup (pc' := 203) hx16 (hd 108) rfl rfl ?_
  refine r_iconst (pc' := 204) (v := 4) hx16 (hd 109) (by decide) rfl ?_
  refine r_ldc2 (pc' := 207) hx16 (hd 110) kc_12_81 rfl ?_
  refine z_last (pc' := 208) (k := 4) (by decide) hx16 (hd 111) (wat_new (G := gX12_init_16) (o := 16) (kd := 21) (n := 7) (by decide +kernel)) (by decide) (by decide) rfl ?_
  refine z_as (U' := (wr vX12_init_27 (qX12_init_27 t))) ((wrJ ..).trans rfl) ?_
  have zr27 : Zr UZ_X12_init (wr vX12_init_27 (qX12_init_27 t)) 17 := Zr.cJ zr26 (by decide)
  have rn27 : Rny (wr vX12_init_27 (qX12_init_27 t)) [0] := Rny.cJ rn26
  refine r_dup (pc' := 209) hx16 (hd 112) rfl rfl ?_
  refine r_iconst (pc' := 210) (v := 5) hx16 (hd 113) (by decide) rfl ?_
  refine r_ldc2 (pc' := 213) hx16 (hd 114) kc_12_83 rfl ?_
  refine z_last (pc' := 214) (k := 5) (by decide) hx16 (hd 115) (wat_new (G := gX12_init_16) (o := 16) (kd := 21) (n := 7) (by decide +kernel)) (by decide) (by decide) rfl ?_
  refine z_as (U' := (wr vX12_init_28 (qX12_init_28 t))) ((wrJ ..).trans rfl) ?_
  have zr28 : Zr UZ_X12_init (wr vX12_init_28 (qX12_init_28 t)) 17 := Zr.cJ zr27 (by decide)
  have rn28 : Rny (wr vX12_init_28 (qX12_init_28 t)) [0] := Rny.cJ rn27
  refine r_dup (pc' := 215) hx16 (hd 116) rfl rfl ?_
  refine r_bipush (pc' := 217) (v := 6) hx16 (hd 117) (by decide) rfl ?_
  refine r_ldc2 (pc' := 220) hx16 (hd 118) kc_12_85 rfl ?_
  refine z_last (pc' := 221) (k := 6) (by decide) hx16 (hd 119) (wat_new (G := gX12_init_16) (o := 16) (kd := 21) (n := 7) (by decide +kernel)) (by decide) (by decide) rfl ?_
  refine z_as (U' := (wr vX12_init_29 (qX12_init_29 t))) ((wrJ ..).trans rfl) ?_
  have zr29 : Zr UZ_X12_init (wr vX12_init_29 (qX12_init_29 t)) 17 := Zr.cJ zr28 (by decide)
  have rn29 : Rny (wr vX12_init_29 (qX12_init_29 t)) [0] := Rny.cJ rn28
  refine z_putR (pc' := 224) (o := 16) (by decide) hx16 (hd 120) hin fw_12_87 (wat_new (G := gX12_init_16) (o := 0) (kd := 40 + 12) (n := 0) (by decide +kernel)) rfl (by decide) rfl rfl rfl ?_
  refine z_as (U' := (wr vX12_init_30 (qX12_init_30 t))) ((wrR ..).trans rfl) ?_
  have zr30 : Zr UZ_X12_init (wr vX12_init_30 (qX12_init_30 t)) 17 := Zr.cR zr29 (by decide)
  have rn30 : Rny (wr vX12_init_30 (qX12_init_30 t)) [0] := Rny.cR rn29 (by decide)
  refine r_aload_n (pc' := 225) hx16 (hd 121) rfl 0 rfl rfl ?_
  refine r_bipush (pc' := 227) (v := 7) hx16 (hd 122) (by decide) rfl ?_
  refine q_newa (gn := 7) (G := gX12_init_16) (K := 16) (N := 23080) (kd := 21) (c := 1) (n := 7) (o := 17) (ty := .long) (e9 := .inr (.inl (fun _ => 0))) rfl hb hz (by decide) (by rw [hsz]; exact (by omega : t + 1 + 16 = t + 17)) hx16 (hd 123) rfl ar_long rfl (fun _ _ h => h) (by decide) (by decide) (by decide) (by rw [hR.1]; decide) (by rw [hR.2]; decide) (fun _ => rfl) (ce_long (by decide) (zr30 17 (by decide)).2.1) (nr_put (by decide) (zr30 17 (by decide)).2.2.1) ?_
  have hx17 : Ok _ 2 none _ _ (wg w t gX12_init_17) (xat x 17 23087) := ok_grow (w' := wg w t gX12_init_17) hx16 rfl rfl rfl rfl (lay_wg hL hb (by decide +kernel)) (by rw [hR.1]; decide) (by rw [hR.2]; decide)
  refine r_dup (pc' := 230) hx17 (hd 124) rfl rfl ?_
  refine r_iconst (pc' := 231) (v := 0) hx17 (hd 125) (by decide) rfl ?_
  refine r_ldc2 (pc' := 234) hx17 (hd 126) kc_12_90 rfl ?_
  refine z_last (pc' := 235) (k := 0) (by decide) hx17 (hd 127) (wat_new (G := gX12_init_17) (o := 17) (kd := 21) (n := 7) (by decide +kernel)) (by decide) (by decide) rfl ?_
  refine z_as (U' := (wr vX12_init_31 (qX12_init_31 t))) ((wrJ ..).trans rfl) ?_
  have zr31 : Zr UZ_X12_init (wr vX12_init_31 (qX12_init_31 t)) 18 := Zr.cJ zr30 (by decide)
  have rn31 : Rny (wr vX12_init_31 (qX12_init_31 t)) [0] := Rny.cJ rn30
  refine r_dup (pc' := 236) hx17 (hd 128) rfl rfl ?_
  refine r_iconst (pc' := 237) (v := 1) hx17 (hd 129) (by decide) rfl ?_
  refine r_ldc2 (pc' := 240) hx17 (hd 130) kc_12_92 rfl ?_
  refine z_last (pc' := 241) (k := 1) (by decide) hx17 (hd 131) (wat_new (G := gX12_init_17) (o := 17) (kd := 21) (n := 7) (by decide +kernel)) (by decide) (by decide) rfl ?_
  refine z_as (U' := (wr vX12_init_32 (qX12_init_32 t))) ((wrJ ..).trans rfl) ?_
  have zr32 : Zr UZ_X12_init (wr vX12_init_32 (qX12_init_32 t)) 18 := Zr.cJ zr31 (by decide)
  have rn32 : Rny (wr vX12_init_32 (qX12_init_32 t)) [0] := Rny.cJ rn31
  refine r_dup (pc' := 242) hx17 (hd 132) rfl rfl ?_
  refine r_iconst (pc' := 243) (v := 2) hx17 (hd 133) (by decide) rfl ?_
  refine r_ldc2 (pc' := 246) hx17 (hd 134) kc_12_94 rfl ?_
  refine z_last (pc' := 247) (k := 2) (by decide) hx17 (hd 135) (wat_new (G := gX12_init_17) (o := 17) (kd := 21) (n := 7) (by decide +kernel)) (by decide) (by decide) rfl ?_
  refine z_as (U' := (wr vX12_init_33 (qX12_init_33 t))) ((wrJ ..).trans rfl) ?_
  have zr33 : Zr UZ_X12_init (wr vX12_init_33 (qX12_init_33 t)) 18 := Zr.cJ zr32 (by decide)
  have rn33 : Rny (wr vX12_init_33 (qX12_init_33 t)) [0] := Rny.cJ rn32
  refine r_dup (pc' := 248) hx17 (hd 136) rfl rfl ?_
  refine r_iconst (pc' := 249) (v := 3) hx17 (hd 137) (by decide) rfl ?_
  refine r_ldc2 (pc' := 252) hx17 (hd 138) kc_12_96 rfl ?_
  refine z_last (pc' := 253) (k := 3) (by decide) hx17 (hd 139) (wat_new (G := gX12_init_17) (o := 17) (kd := 21) (n := 7) (by decide +kernel)) (by decide) (by decide) rfl ?_
  refine z_as (U' := (wr vX12_init_34 (qX12_init_34 t))) ((wrJ ..).trans rfl) ?_
  have zr34 : Zr UZ_X12_init (wr vX12_init_34 (qX12_init_34 t)) 18 := Zr.cJ zr33 (by decide)
  have rn34 : Rny (wr vX12_init_34 (qX12_init_34 t)) [0] := Rny.cJ rn33
  refine r_dup (pc' := 254) hx17 (hd 140) rfl rfl ?_
  refine r_iconst (pc' := 255) (v := 4) hx17 (hd 141) (by decide) rfl ?_
  refine r_ldc2 (pc' := 258) hx17 (hd 142) kc_12_98 rfl ?_
  refine z_last (pc' := 259) (k := 4) (by decide) hx17 (hd 143) (wat_new (G := gX12_init_17) (o := 17) (kd := 21) (n := 7) (by decide +kernel)) (by decide) (by decide) rfl ?_
  refine z_as (U' := (wr vX12_init_35 (qX12_init_35 t))) ((wrJ ..).trans rfl) ?_
  have zr35 : Zr UZ_X12_init (wr vX12_init_35 (qX12_init_35 t)) 18 := Zr.cJ zr34 (by decide)
  have rn35 : Rny (wr vX12_init_35 (qX12_init_35 t)) [0] := Rny.cJ rn34
  refine r_dup (pc' := 260) hx17 (hd 144) rfl rfl ?_
  refine r_iconst (pc' := 261) (v := 5) hx17 (hd 145) (by decide) rfl ?_
  refine r_ldc2 (pc' := 264) hx17 (hd 146) kc_12_100 rfl ?_
  refine z_last (pc' := 265) (k := 5) (by decide) hx17 (hd 147) (wat_new (G := gX12_init_17) (o := 17) (kd := 21) (n := 7) (by decide +kernel)) (by decide) (by decide) rfl ?_
  refine z_as (U' := (wr vX12_init_36 (qX12_init_36 t))) ((wrJ ..).trans rfl) ?_
  have zr36 : Zr UZ_X12_init (wr vX12_init_36 (qX12_init_36 t)) 18 := Zr.cJ zr35 (by decide)
  have rn36 : Rny (wr vX12_init_36 (qX12_init_36 t)) [0] := Rny.cJ rn35
  refine r_dup (pc' := 266) hx17 (hd 148) rfl rfl ?_
  refine r_bipush (pc' := 268) (v := 6) hx17 (hd 149) (by decide) rfl ?_
  refine r_ldc2 (pc' := 271) hx17 (hd 150) kc_12_102 rfl ?_
  refine z_last (pc' := 272) (k := 6) (by decide) hx17 (hd 151) (wat_new (G := gX12_init_17) (o := 17) (kd := 21) (n := 7) (by decide +kernel)) (by decide) (by decide) rfl ?_
  refine z_as (U' := (wr vX12_init_37 (qX12_init_37 t))) ((wrJ ..).trans rfl) ?_
  have zr37 : Zr UZ_X12_init (wr vX12_init_37 (qX12_init_37 t)) 18 := Zr.cJ zr36 (by decide)
  have rn37 : Rny (wr vX12_init_37 (qX12_init_37 t)) [0] := Rny.cJ rn36
  refine z_putR (pc' := 275) (o := 17) (by decide) hx17 (hd 152) hin fw_12_104 (wat_new (G := gX12_init_17) (o := 0) (kd := 40 + 12) (n := 0) (by decide +kernel)) rfl (by decide) rfl rfl rfl ?_
  refine z_as (U' := (wr vX12_init_38 (qX12_init_38 t))) ((wrR ..).trans rfl) ?_
  have zr38 : Zr UZ_X12_init (wr vX12_init_38 (qX12_init_38 t)) 18 := Zr.cR zr37 (by decide)
  have rn38 : Rny (wr vX12_init_38 (qX12_init_38 t)) [0] := Rny.cR rn37 (by decide)
  refine r_aload_n (pc' := 276) hx17 (hd 153) rfl 0 rfl rfl ?_
  refine r_bipush (pc' := 278) (v := 13) hx17 (hd 154) (by decide) rfl ?_
  refine q_newa (gn := 13) (G := gX12_init_17) (K := 17) (N := 23087) (kd := 21) (c := 1) (n := 13) (o := 18) (ty := .long) (e9 := .inr (.inl (fun _ => 0))) rfl hb hz (by decide) (by rw [hsz]; exact (by omega : t + 1 + 17 = t + 18)) hx17 (hd 155) rfl ar_long rfl (fun _ _ h => h) (by decide) (by decide) (by decide) (by rw [hR.1]; decide) (by rw [hR.2]; decide) (fun _ => rfl) (ce_long (by decide) (zr38 18 (by decide)).2.1) (nr_put (by decide) (zr38 18 (by decide)).2.2.1) ?_
  have hx18 : Ok _ 2 none _ _ (wg w t gX12_init_18) (xat x 18 23100) := ok_grow (w' := wg w t gX12_init_18) hx17 rfl rfl rfl rfl (lay_wg hL hb (by decide +kernel)) (by rw [hR.1]; decide) (by rw [hR.2]; decide)
  refine z_putR (pc' := 283) (o := 18) (by decide) hx18 (hd 156) hin fw_12_107 (wat_new (G := gX12_init_18) (o := 0) (kd := 40 + 12) (n := 0) (by decide +kernel)) rfl (by decide) rfl rfl rfl ?_
  refine z_as (U' := (wr vX12_init_39 (qX12_init_39 t))) ((wrR ..).trans rfl) ?_
  have zr39 : Zr UZ_X12_init (wr vX12_init_39 (qX12_init_39 t)) 19 := Zr.cR zr38 (by decide)
  have rn39 : Rny (wr vX12_init_39 (qX12_init_39 t)) [0] := Rny.cR rn38 (by decide)
  refine r_aload_n (pc' := 284) hx18 (hd 157) rfl 0 rfl rfl ?_
  refine r_bipush (pc' := 286) (v := 13) hx18 (hd 158) (by decide) rfl ?_
  refine q_newa (gn := 13) (G := gX12_init_18) (K := 18) (N := 23100) (kd := 21) (c := 1) (n := 13) (o := 19) (ty := .long) (e9 := .inr (.inl (fun _ => 0))) rfl hb hz (by decide) (by rw [hsz]; exact (by omega : t + 1 + 18 = t + 19)) hx18 (hd 159) rfl ar_long rfl (fun _ _ h => h) (by decide) (by decide) (by decide) (by rw [hR.1]; decide) (by rw [hR.2]; decide) (fun _ => rfl) (ce_long (by decide) (zr39 19 (by decide)).2.1) (nr_put (by decide) (zr39 19 (by decide)).2.2.1) ?_
  have hx19 : Ok _ 2 none _ _ (wg w t gX12_init_19) (xat x 19 23113) := ok_grow (w' := wg w t gX12_init_19) hx18 rfl rfl rfl rfl (lay_wg hL hb (by decide +kernel)) (by rw [hR.1]; decide) (by rw [hR.2]; decide)
  refine z_putR (pc' := 291) (o := 19) (by decide) hx19 (hd 160) hin fw_12_110 (wat_new (G := gX12_init_19) (o := 0) (kd := 40 + 12) (n := 0) (by decide +kernel)) rfl (by decide) rfl rfl rfl ?_
  refine z_as (U' := (wr vX12_init_40 (qX12_init_40 t))) ((wrR ..).trans rfl) ?_
  have zr40 : Zr UZ_X12_init (wr vX12_init_40 (qX12_init_40 t)) 20 := Zr.cR zr39 (by decide)
  have rn40 : Rny (wr vX12_init_40 (qX12_init_40 t)) [0] := Rny.cR rn39 (by decide)
  refine r_aload_n (pc' := 292) hx19 (hd 161) rfl 0 rfl rfl ?_
  refine r_sipush (pc' := 295) (v := 400) hx19 (hd 162) (by decide) rfl ?_
  refine q_newa (gn := 400) (G := gX12_init_19) (K := 19) (N := 23113) (kd := 21) (c := 1) (n := 400) (o := 20) (ty := .long) (e9 := .inr (.inl (fun _ => 0))) rfl hb hz (by decide) (by rw [hsz]; exact (by omega : t + 1 + 19 = t + 20)) hx19 (hd 163) rfl ar_long rfl (fun _ _ h => h) (by decide) (by decide) (by decide) (by rw [hR.1]; decide) (by rw [hR.2]; decide) (fun _ => rfl) (ce_long (by decide) (zr40 20 (by decide)).2.1) (nr_put (by decide) (zr40 20 (by decide)).2.2.1) ?_
  have hx20 : Ok _ 2 none _ _ (wg w t gX12_init_20) (xat x 20 23513) := ok_grow (w' := wg w t gX12_init_20) hx19 rfl rfl rfl rfl (lay_wg hL hb (by decide +kernel)) (by rw [hR.1]; decide) (by rw [hR.2]; decide)
  refine z_putR (pc' := 300) (o := 20) (by decide) hx20 (hd 164) hin fw_12_113 (wat_new (G := gX12_init_20) (o := 0) (kd := 40 + 12) (n := 0) (by decide +kernel)) rfl (by decide) rfl rfl rfl ?_
  refine z_as (U' := (wr vX12_init_41 (qX12_init_41 t))) ((wrR ..).trans rfl) ?_
  have zr41 : Zr UZ_X12_init (wr vX12_init_41 (qX12_init_41 t)) 21 := Zr.cR zr40 (by decide)
  have rn41 : Rny (wr vX12_init_41 (qX12_init_41 t)) [0] := Rny.cR rn40 (by decide)
  refine r_aload_n (pc' := 301) hx20 (hd 165) rfl 0 rfl rfl ?_
  refine r_bipush (pc' := 303) (v := 52) hx20 (hd 166) (by decide) rfl ?_
  refine q_newa (gn := 52) (G := gX12_init_20) (K := 20) (N := 23513) (kd := 20) (c := 0) (n := 52) (o := 21) (ty := .int) (e9 := .inl (fun _ => 0)) rfl hb hz (by decide) (by rw [hsz]; exact (by omega : t + 1 + 20 = t + 21)) hx20 (hd 167) rfl ar_int rfl (fun _ _ h => h) (by decide) (by decide) (by decide) (by rw [hR.1]; decide) (by rw [hR.2]; decide) (fun _ => rfl) (ce_int (by decide) (zr41 21 (by decide)).1) (nr_put (by decide) (zr41 21 (by decide)).2.2.1) ?_
  have hx21 : Ok _ 2 none _ _ (wg w t gX12_init_21) (xat x 21 23565) := ok_grow (w' := wg w t gX12_init_21) hx20 rfl rfl rfl rfl (lay_wg hL hb (by decide +kernel)) (by rw [hR.1]; decide) (by rw [hR.2]; decide)
  refine z_putR (pc' := 308) (o := 21) (by decide) hx21 (hd 168) hin fw_12_116 (wat_new (G := gX12_init_21) (o := 0) (kd := 40 + 12) (n := 0) (by decide +kernel)) rfl (by decide) rfl rfl rfl ?_
  refine z_as (U' := (wr vX12_init_42 (qX12_init_42 t))) ((wrR ..).trans rfl) ?_
  have zr42 : Zr UZ_X12_init (wr vX12_init_42 (qX12_init_42 t)) 22 := Zr.cR zr41 (by decide)
  have rn42 : Rny (wr vX12_init_42 (qX12_init_42 t)) [0] := Rny.cR rn41 (by decide)
  refine r_aload_n (pc' := 309) hx21 (hd 169) rfl 0 rfl rfl ?_
  refine r_bipush (pc' := 311) (v := 6) hx21 (hd 170) (by decide) rfl ?_
  refine q_newa (gn := 6) (G := gX12_init_21) (K := 21) (N := 23565) (kd := 20) (c := 0) (n := 6) (o := 22) (ty := .int) (e9 := .inl (fun _ => 0)) rfl hb hz (by decide) (by rw [hsz]; exact (by omega : t + 1 + 21 = t + 22)) hx21 (hd 171) rfl ar_int rfl (fun _ _ h => h) (by decide) (by decide) (by decide) (by rw [hR.1]; decide) (by rw [hR.2]; decide) (fun _ => rfl) (ce_int (by decide) (zr42 22 (by decide)).1) (nr_put (by decide) (zr42 22 (by decide)).2.2.1) ?_
  have hx22 : Ok _ 2 none _ _ (wg w t gX12_init_22) (xat x 22 23571) := ok_grow (w' := wg w t gX12_init_22) hx21 rfl rfl rfl rfl (lay_wg hL hb (by decide +kernel)) (by rw [hR.1]; decide) (by rw [hR.2]; decide)
  refine z_putR (pc' := 316) (o := 22) (by decide) hx22 (hd 172) hin fw_12_119 (wat_new (G := gX12_init_22) (o := 0) (kd := 40 + 12) (n := 0) (by decide +kernel)) rfl (by decide) rfl rfl rfl ?_
  refine z_as (U' := (wr vX12_init_43 (qX12_init_43 t))) ((wrR ..).trans rfl) ?_
  have zr43 : Zr UZ_X12_init (wr vX12_init_43 (qX12_init_43 t)) 23 := Zr.cR zr42 (by decide)
  have rn43 : Rny (wr vX12_init_43 (qX12_init_43 t)) [0] := Rny.cR rn42 (by decide)
  refine r_aload_n (pc' := 317) hx22 (hd 173) rfl 0 rfl rfl ?_
  refine r_bipush (pc' := 319) (v := 13) hx22 (hd 174) (by decide) rfl ?_
  refine q_newa (gn := 13) (G := gX12_init_22) (K := 22) (N := 23571) (kd := 20) (c := 0) (n := 13) (o := 23) (ty := .int) (e9 := .inl (fun _ => 0)) rfl hb hz (by decide) (by rw [hsz]; exact (by omega : t + 1 + 22 = t + 23)) hx22 (hd 175) rfl ar_int rfl (fun _ _ h => h) (by decide) (by decide) (by decide) (by rw [hR.1]; decide) (by rw [hR.2]; decide) (fun _ => rfl) (ce_int (by decide) (zr43 23 (by decide)).1) (nr_put (by decide) (zr43 23 (by decide)).2.2.1) ?_
  have hx23 : Ok _ 2 none _ _ (wg w t gX12_init_23) (xat x 23 23584) := ok_grow (w' := wg w t gX12_init_23) hx22 rfl rfl rfl rfl (lay_wg hL hb (by decide +kernel)) (by rw [hR.1]; decide) (by rw [hR.2]; decide)
  refine z_putR (pc' := 324) (o := 23) (by decide) hx23 (hd 176) hin fw_12_122 (wat_new (G := gX12_init_23) (o := 0) (kd := 40 + 12) (n := 0) (by decide +kernel)) rfl (by decide) rfl rfl rfl ?_
  refine z_as (U' := (wr vX12_init_44 (qX12_init_44 t))) ((wrR ..).trans rfl) ?_
  have zr44 : Zr UZ_X12_init (wr vX12_init_44 (qX12_init_44 t)) 24 := Zr.cR zr43 (by decide)
  have rn44 : Rny (wr vX12_init_44 (qX12_init_44 t)) [0] := Rny.cR rn43 (by decide)
  refine r_aload_n (pc' := 325) hx23 (hd 177) rfl 0 rfl rfl ?_
  refine r_bipush (pc' := 327) (v := 6) hx23 (hd 178) (by decide) rfl ?_
  refine q_newa (gn := 6) (G := gX12_init_23) (K := 23) (N := 23584) (kd := 20) (c := 0) (n := 6) (o := 24) (ty := .int) (e9 := .inl (fun _ => 0)) rfl hb hz (by decide) (by rw [hsz]; exact (by omega : t + 1 + 23 = t + 24)) hx23 (hd 179) rfl ar_int rfl (fun _ _ h => h) (by decide) (by decide) (by decide) (by rw [hR.1]; decide) (by rw [hR.2]; decide) (fun _ => rfl) (ce_int (by decide) (zr44 24 (by decide)).1) (nr_put (by decide) (zr44 24 (by decide)).2.2.1) ?_
  have hx24 : Ok _ 2 none _ _ (wg w t gX12_init_24) (xat x 24 23590) := ok_grow (w' := wg w t gX12_init_24) hx23 rfl rfl rfl rfl (lay_wg hL hb (by decide +kernel)) (by rw [hR.1]; decide) (by rw [hR.2]; decide)
  refine z_putR (pc' := 332) (o := 24) (by decide) hx24 (hd 180) hin fw_12_125 (wat_new (G := gX12_init_24) (o := 0) (kd := 40 + 12) (n := 0) (by decide +kernel)) rfl (by decide) rfl rfl rfl ?_
  refine z_as (U' := (wr vX12_init_45 (qX12_init_45 t))) ((wrR ..).trans rfl) ?_
  have zr45 : Zr UZ_X12_init (wr vX12_init_45 (qX12_init_45 t)) 25 := Zr.cR zr44 (by decide)
  have rn45 : Rny (wr vX12_init_45 (qX12_init_45 t)) [0] := Rny.cR rn44 (by decide)
  refine r_aload_n (pc' := 333) hx24 (hd 181) rfl 0 rfl rfl ?_
  refine r_bipush (pc' := 335) (v := 8) hx24 (hd 182) (by decide) rfl ?_
  refine q_newa (gn := 8) (G := gX12_init_24) (K := 24) (N := 23590) (kd := 20) (c := 0) (n := 8) (o := 25) (ty := .int) (e9 := .inl (fun _ => 0)) rfl hb hz (by decide) (by rw [hsz]; exact (by omega : t + 1 + 24 = t + 25)) hx24 (hd 183) rfl ar_int rfl (fun _ _ h => h) (by decide) (by decide) (by decide) (by rw [hR.1]; decide) (by rw [hR.2]; decide) (fun _ => rfl) (ce_int (by decide) (zr45 25 (by decide)).1) (nr_put (by decide) (zr45 25 (by decide)).2.2.1) ?_
  have hx25 : Ok _ 2 none _ _ (wg w t gX12_init_25) (xat x 25 23598) := ok_grow (w' := wg w t gX12_init_25) hx24 rfl rfl rfl rfl (lay_wg hL hb (by decide +kernel)) (by rw [hR.1]; decide) (by rw [hR.2]; decide)
  refine z_putR (pc' := 340) (o := 25) (by decide) hx25 (hd 184) hin fw_12_128 (wat_new (G := gX12_init_25) (o := 0) (kd := 40 + 12) (n := 0) (by decide +kernel)) rfl (by decide) rfl rfl rfl ?_
  refine z_as (U' := (wr vX12_init_46 (qX12_init_46 t))) ((wrR ..).trans rfl) ?_
  have zr46 : Zr UZ_X12_init (wr vX12_init_46 (qX12_init_46 t)) 26 := Zr.cR zr45 (by decide)
  have rn46 : Rny (wr vX12_init_46 (qX12_init_46 t)) [0] := Rny.cR rn45 (by decide)
  refine r_aload_n (pc' := 341) hx25 (hd 185) rfl 0 rfl rfl ?_
  refine r_iconst (pc' := 342) (v := 4) hx25 (hd 186) (by decide) rfl ?_
  refine q_newa (gn := 4) (G := gX12_init_25) (K := 25) (N := 23598) (kd := 20) (c := 0) (n := 4) (o := 26) (ty := .int) (e9 := .inl (fun _ => 0)) rfl hb hz (by decide) (by rw [hsz]; exact (by omega : t + 1 + 25 = t + 26)) hx25 (hd 187) rfl ar_int rfl (fun _ _ h => h) (by decide) (by decide) (by decide) (by rw [hR.1]; decide) (by rw [hR.2]; decide) (fun _ => rfl) (ce_int (by decide) (zr46 26 (by decide)).1) (nr_put (by decide) (zr46 26 (by decide)).2.2.1) ?_
  have hx26 : Ok _ 2 none _ _ (wg w t gX12_init_26) (xat x 26 23602) := ok_grow (w' := wg w t gX12_init_26) hx25 rfl rfl rfl rfl (lay_wg hL hb (by decide +kernel)) (by rw [hR.1]; decide) (by rw [hR.2]; decide)
  refine z_putR (pc' := 347) (o := 26) (by decide) hx26 (hd 188) hin fw_12_131 (wat_new (G := gX12_init_26) (o := 0) (kd := 40 + 12) (n := 0) (by decide +kernel)) rfl (by decide) rfl rfl rfl ?_
  refine z_as (U' := (wr vX12_init_47 (qX12_init_47 t))) ((wrR ..).trans rfl) ?_
  have zr47 : Zr UZ_X12_init (wr vX12_init_47 (qX12_init_47 t)) 27 := Zr.cR zr46 (by decide)
  have rn47 : Rny (wr vX12_init_47 (qX12_init_47 t)) [0] := Rny.cR rn46 (by decide)
  refine r_aload_n (pc' := 348) hx26 (hd 189) rfl 0 rfl rfl ?_
  refine r_iconst (pc' := 349) (v := 5) hx26 (hd 190) (by decide) rfl ?_
  refine q_newa (gn := 5) (G := gX12_init_26) (K := 26) (N := 23602) (kd := 20) (c := 0) (n := 5) (o := 27) (ty := .int) (e9 := .inl (fun _ => 0)) rfl hb hz (by decide) (by rw [hsz]; exact (by omega : t + 1 + 26 = t + 27)) hx26 (hd 191) rfl ar_int rfl (fun _ _ h => h) (by decide) (by decide) (by decide) (by rw [hR.1]; decide) (by rw [hR.2]; decide) (fun _ => rfl) (ce_int (by decide) (zr47 27 (by decide)).1) (nr_put (by decide) (zr47 27 (by decide)).2.2.1) ?_
  have hx27 : Ok _ 2 none _ _ (wg w t gX12_init_27) (xat x 27 23607) := ok_grow (w' := wg w t gX12_init_27) hx26 rfl rfl rfl rfl (lay_wg hL hb (by decide +kernel)) (by rw [hR.1]; decide) (by rw [hR.2]; decide)
  refine z_putR (pc' := 354) (o := 27) (by decide) hx27 (hd 192) hin fw_12_134 (wat_new (G := gX12_init_27) (o := 0) (kd := 40 + 12) (n := 0) (by decide +kernel)) rfl (by decide) rfl rfl rfl ?_
  refine z_as (U' := (wr vX12_init_48 (qX12_init_48 t))) ((wrR ..).trans rfl) ?_
  have zr48 : Zr UZ_X12_init (wr vX12_init_48 (qX12_init_48 t)) 28 := Zr.cR zr47 (by decide)
  have rn48 : Rny (wr vX12_init_48 (qX12_init_48 t)) [0] := Rny.cR rn47 (by decide)
  refine r_aload_n (pc' := 355) hx27 (hd 193) rfl 0 rfl rfl ?_
  refine r_bipush (pc' := 357) (v := 6) hx27 (hd 194) (by decide) rfl ?_
  refine q_newa (gn := 6) (G := gX12_init_27) (K := 27) (N := 23607) (kd := 20) (c := 0) (n := 6) (o := 28) (ty := .int) (e9 := .inl (fun _ => 0)) rfl hb hz (by decide) (by rw [hsz]; exact (by omega : t + 1 + 27 = t + 28)) hx27 (hd 195) rfl ar_int rfl (fun _ _ h => h) (by decide) (by decide) (by decide) (by rw [hR.1]; decide) (by rw [hR.2]; decide) (fun _ => rfl) (ce_int (by decide) (zr48 28 (by decide)).1) (nr_put (by decide) (zr48 28 (by decide)).2.2.1) ?_
  have hx28 : Ok _ 2 none _ _ (wg w t gX12_init_28) (xat x 28 23613) := ok_grow (w' := wg w t gX12_init_28) hx27 rfl rfl rfl rfl (lay_wg hL hb (by decide +kernel)) (by rw [hR.1]; decide) (by rw [hR.2]; decide)
  refine z_putR (pc' := 362) (o := 28) (by decide) hx28 (hd 196) hin fw_12_137 (wat_new (G := gX12_init_28) (o := 0) (kd := 40 + 12) (n := 0) (by decide +kernel)) rfl (by decide) rfl rfl rfl ?_
  refine z_as (U' := (wr vX12_init_49 (qX12_init_49 t))) ((wrR ..).trans rfl) ?_
  have zr49 : Zr UZ_X12_init (wr vX12_init_49 (qX12_init_49 t)) 29 := Zr.cR zr48 (by decide)
  have rn49 : Rny (wr vX12_init_49 (qX12_init_49 t)) [0] := Rny.cR rn48 (by decide)
  refine r_aload_n (pc' := 363) hx28 (hd 197) rfl 0 rfl rfl ?_
  refine r_bipush (pc' := 365) (v := 14) hx28 (hd 198) (by decide) rfl ?_
  refine q_newa (gn := 14) (G := gX12_init_28) (K := 28) (N := 23613) (kd := 20) (c := 0) (n := 14) (o := 29) (ty := .int) (e9 := .inl (fun _ => 0)) rfl hb hz (by decide) (by rw [hsz]; exact (by omega : t + 1 + 28 = t + 29)) hx28 (hd 199) rfl ar_int rfl (fun _ _ h => h) (by decide) (by decide) (by decide) (by rw [hR.1]; decide) (by rw [hR.2]; decide) (fun _ => rfl) (ce_int (by decide) (zr49 29 (by decide)).1) (nr_put (by decide) (zr49 29 (by decide)).2.2.1) ?_
  have hx29 : Ok _ 2 none _ _ (wg w t gX12_init_29) (xat x 29 23627) := ok_grow (w' := wg w t gX12_init_29) hx28 rfl rfl rfl rfl (lay_wg hL hb (by decide +kernel)) (by rw [hR.1]; decide) (by rw [hR.2]; decide)
  refine z_putR (pc' := 370) (o := 29) (by decide) hx29 (hd 200) hin fw_12_140 (wat_new (G := gX12_init_29) (o := 0) (kd := 40 + 12) (n := 0) (by decide +kernel)) rfl (by decide) rfl rfl rfl ?_
  refine z_as (U' := (wr vX12_init_50 (qX12_init_50 t))) ((wrR ..).trans rfl) ?_
  have zr50 : Zr UZ_X12_init (wr vX12_init_50 (qX12_init_50 t)) 30 := Zr.cR zr49 (by decide)
  have rn50 : Rny (wr vX12_init_50 (qX12_init_50 t)) [0] := Rny.cR rn49 (by decide)
  refine r_aload_n (pc' := 371) hx29 (hd 201) rfl 0 rfl rfl ?_
  refine r_bipush (pc' := 373) (v := 52) hx29 (hd 202) (by decide) rfl ?_
  refine q_newa (gn := 52) (G := gX12_init_29) (K := 29) (N := 23627) (kd := 20) (c := 0) (n := 52) (o := 30) (ty := .int) (e9 := .inl (fun _ => 0)) rfl hb hz (by decide) (by rw [hsz]; exact (by omega : t + 1 + 29 = t + 30)) hx29 (hd 203) rfl ar_int rfl (fun _ _ h => h) (by decide) (by decide) (by decide) (by rw [hR.1]; decide) (by rw [hR.2]; decide) (fun _ => rfl) (ce_int (by decide) (zr50 30 (by decide)).1) (nr_put (by decide) (zr50 30 (by decide)).2.2.1) ?_
  have hx30 : Ok _ 2 none _ _ (wg w t gX12_init_30) (xat x 30 23679) := ok_grow (w' := wg w t gX12_init_30) hx29 rfl rfl rfl rfl (lay_wg hL hb (by decide +kernel)) (by rw [hR.1]; decide) (by rw [hR.2]; decide)
  refine z_putR (pc' := 378) (o := 30) (by decide) hx30 (hd 204) hin fw_12_143 (wat_new (G := gX12_init_30) (o := 0) (kd := 40 + 12) (n := 0) (by decide +kernel)) rfl (by decide) rfl rfl rfl ?_
  refine z_as (U' := (wr vX12_init_51 (qX12_init_51 t))) ((wrR ..).trans rfl) ?_
  have zr51 : Zr UZ_X12_init (wr vX12_init_51 (qX12_init_51 t)) 31 := Zr.cR zr50 (by decide)
  have rn51 : Rny (wr vX12_init_51 (qX12_init_51 t)) [0] := Rny.cR rn50 (by decide)
  refine r_aload_n (pc' := 379) hx30 (hd 205) rfl 0 rfl rfl ?_
  refine r_bipush (pc' := 381) (v := 6) hx30 (hd 206) (by decide) rfl ?_
  refine q_newa (gn := 6) (G := gX12_init_30) (K := 30) (N := 23679) (kd := 20) (c := 0) (n := 6) (o := 31) (ty := .int) (e9 := .inl (fun _ => 0)) rfl hb hz (by decide) (by rw [hsz]; exact (by omega : t + 1 + 30 = t + 31)) hx30 (hd 207) rfl ar_int rfl (fun _ _ h => h) (by decide) (by decide) (by decide) (by rw [hR.1]; decide) (by rw [hR.2]; decide) (fun _ => rfl) (ce_int (by decide) (zr51 31 (by decide)).1) (nr_put (by decide) (zr51 31 (by decide)).2.2.1) ?_
  have hx31 : Ok _ 2 none _ _ (wg w t gX12_init_31) (xat x 31 23685) := ok_grow (w' := wg w t gX12_init_31) hx30 rfl rfl rfl rfl (lay_wg hL hb (by decide +kernel)) (by rw [hR.1]; decide) (by rw [hR.2]; decide)
  refine z_putR (pc' := 386) (o := 31) (by decide) hx31 (hd 208) hin fw_12_146 (wat_new (G := gX12_init_31) (o := 0) (kd := 40 + 12) (n := 0) (by decide +kernel)) rfl (by decide) rfl rfl rfl ?_
  refine z_as (U' := (wr vX12_init_52 (qX12_init_52 t))) ((wrR ..).trans rfl) ?_
  have zr52 : Zr UZ_X12_init (wr vX12_init_52 (qX12_init_52 t)) 32 := Zr.cR zr51 (by decide)
  have rn52 : Rny (wr vX12_init_52 (qX12_init_52 t)) [0] := Rny.cR rn51 (by decide)
  refine r_aload_n (pc' := 387) hx31 (hd 209) rfl 0 rfl rfl ?_
  refine r_sipush (pc' := 390) (v := 1220) hx31 (hd 210) (by decide) rfl ?_
  refine q_newa (gn := 1220) (G := gX12_init_31) (K := 31) (N := 23685) (kd := 20) (c := 0) (n := 1220) (o := 32) (ty := .int) (e9 := .inl (fun _ => 0)) rfl hb hz (by decide) (by rw [hsz]; exact (by omega : t + 1 + 31 = t + 32)) hx31 (hd 211) rfl ar_int rfl (fun _ _ h => h) (by decide) (by decide) (by decide) (by rw [hR.1]; decide) (by rw [hR.2]; decide) (fun _ => rfl) (ce_int (by decide) (zr52 32 (by decide)).1) (nr_put (by decide) (zr52 32 (by decide)).2.2.1) ?_
  have hx32 : Ok _ 2 none _ _ (wg w t gX12_init_32) (xat x 32 24905) := ok_grow (w' := wg w t gX12_init_32) hx31 rfl rfl rfl rfl (lay_wg hL hb (by decide +kernel)) (by rw [hR.1]; decide) (by rw [hR.2]; decide)
  refine z_putR (pc' := 395) (o := 32) (by decide) hx32 (hd 212) hin fw_12_149 (wat_new (G := gX12_init_32) (o := 0) (kd := 40 + 12) (n := 0) (by decide +kernel)) rfl (by decide) rfl rfl rfl ?_
  refine z_as (U' := (wr vX12_init_53 (qX12_init_53 t))) ((wrR ..).trans rfl) ?_
  have zr53 : Zr UZ_X12_init (wr vX12_init_53 (qX12_init_53 t)) 33 := Zr.cR zr52 (by decide)
  have rn53 : Rny (wr vX12_init_53 (qX12_init_53 t)) [0] := Rny.cR rn52 (by decide)
  refine r_aload_n (pc' := 396) hx32 (hd 213) rfl 0 rfl rfl ?_
  refine r_bipush (pc' := 398) (v := 10) hx32 (hd 214) (by decide) rfl ?_
  refine q_newa (gn := 10) (G := gX12_init_32) (K := 32) (N := 24905) (kd := 20) (c := 0) (n := 10) (o := 33) (ty := .int) (e9 := .inl (fun _ => 0)) rfl hb hz (by decide) (by rw [hsz]; exact (by omega : t + 1 + 32 = t + 33)) hx32 (hd 215) rfl ar_int rfl (fun _ _ h => h) (by decide) (by decide) (by decide) (by rw [hR.1]; decide) (by rw [hR.2]; decide) (fun _ => rfl) (ce_int (by decide) (zr53 33 (by decide)).1) (nr_put (by decide) (zr53 33 (by decide)).2.2.1) ?_
  have hx33 : Ok _ 2 none _ _ (wg w t gX12_init_33) (xat x 33 24915) := ok_grow (w' := wg w t gX12_init_33) hx32 rfl rfl rfl rfl (lay_wg hL hb (by decide +kernel)) (by rw [hR.1]; decide) (by rw [hR.2]; decide)
  refine z_putR (pc' := 403) (o := 33) (by decide) hx33 (hd 216) hin fw_12_152 (wat_new (G := gX12_init_33) (o := 0) (kd := 40 + 12) (n := 0) (by decide +kernel)) rfl (by decide) rfl rfl rfl ?_
  refine z_as (U' := (wr vX12_init_54 (qX12_init_54 t))) ((wrR ..).trans rfl) ?_
  have zr54 : Zr UZ_X12_init (wr vX12_init_54 (qX12_init_54 t)) 34 := Zr.cR zr53 (by decide)
  have rn54 : Rny (wr vX12_init_54 (qX12_init_54 t)) [0] := Rny.cR rn53 (by decide)
  refine r_aload_n (pc' := 404) hx33 (hd 217) rfl 0 rfl rfl ?_
  refine r_bipush (pc' := 406) (v := 10) hx33 (hd 218) (by decide) rfl ?_
  refine q_newa (gn := 10) (G := gX12_init_33) (K := 33) (N := 24915) (kd := 20) (c := 0) (n := 10) (o := 34) (ty := .int) (e9 := .inl (fun _ => 0)) rfl hb hz (by decide) (by rw [hsz]; exact (by omega : t + 1 + 33 = t + 34)) hx33 (hd 219) rfl ar_int rfl (fun _ _ h => h) (by decide) (by decide) (by decide) (by rw [hR.1]; decide) (by rw [hR.2]; decide) (fun _ => rfl) (ce_int (by decide) (zr54 34 (by decide)).1) (nr_put (by decide) (zr54 34 (by decide)).2.2.1) ?_
  have hx34 : Ok _ 2 none _ _ (wg w t gX12_init_34) (xat x 34 24925) := ok_grow (w' := wg w t gX12_init_34) hx33 rfl rfl rfl rfl (lay_wg hL hb (by decide +kernel)) (by rw [hR.1]; decide) (by rw [hR.2]; decide)
  refine z_putR (pc' := 411) (o := 34) (by decide) hx34 (hd 220) hin fw_12_155 (wat_new (G := gX12_init_34) (o := 0) (kd := 40 + 12) (n := 0) (by decide +kernel)) rfl (by decide) rfl rfl rfl ?_
  refine z_as (U' := (wr vX12_init_55 (qX12_init_55 t))) ((wrR ..).trans rfl) ?_
  have zr55 : Zr UZ_X12_init (wr vX12_init_55 (qX12_init_55 t)) 35 := Zr.cR zr54 (by decide)
  have rn55 : Rny (wr vX12_init_55 (qX12_init_55 t)) [0] := Rny.cR rn54 (by decide)
  refine r_aload_n (pc' := 412) hx34 (hd 221) rfl 0 rfl rfl ?_
  refine r_bipush (pc' := 414) (v := 10) hx34 (hd 222) (by decide) rfl ?_
  refine q_newa (gn := 10) (G := gX12_init_34) (K := 34) (N := 24925) (kd := 20) (c := 0) (n := 10) (o := 35) (ty := .int) (e9 := .inl (fun _ => 0)) rfl hb hz (by decide) (by rw [hsz]; exact (by omega : t + 1 + 34 = t + 35)) hx34 (hd 223) rfl ar_int rfl (fun _ _ h => h) (by decide) (by decide) (by decide) (by rw [hR.1]; decide) (by rw [hR.2]; decide) (fun _ => rfl) (ce_int (by decide) (zr55 35 (by decide)).1) (nr_put (by decide) (zr55 35 (by decide)).2.2.1) ?_
  have hx35 : Ok _ 2 none _ _ (wg w t gX12_init_35) (xat x 35 24935) := ok_grow (w' := wg w t gX12_init_35) hx34 rfl rfl rfl rfl (lay_wg hL hb (by decide +kernel)) (by rw [hR.1]; decide) (by rw [hR.2]; decide)
  refine z_putR (pc' := 419) (o := 35) (by decide) hx35 (hd 224) hin fw_12_158 (wat_new (G := gX12_init_35) (o := 0) (kd := 40 + 12) (n := 0) (by decide +kernel)) rfl (by decide) rfl rfl rfl ?_
  refine z_as (U' := (wr vX12_init_56 (qX12_init_56 t))) ((wrR ..).trans rfl) ?_
  have zr56 : Zr UZ_X12_init (wr vX12_init_56 (qX12_init_56 t)) 36 := Zr.cR zr55 (by decide)
  have rn56 : Rny (wr vX12_init_56 (qX12_init_56 t)) [0] := Rny.cR rn55 (by decide)
  refine r_aload_n (pc' := 420) hx35 (hd 225) rfl 0 rfl rfl ?_
  refine r_bipush (pc' := 422) (v := 10) hx35 (hd 226) (by decide) rfl ?_
  refine q_newa (gn := 10) (G := gX12_init_35) (K := 35) (N := 24935) (kd := 20) (c := 0) (n := 10) (o := 36) (ty := .int) (e9 := .inl (fun _ => 0)) rfl hb hz (by decide) (by rw [hsz]; exact (by omega : t + 1 + 35 = t + 36)) hx35 (hd 227) rfl ar_int rfl (fun _ _ h => h) (by decide) (by decide) (by decide) (by rw [hR.1]; decide) (by rw [hR.2]; decide) (fun _ => rfl) (ce_int (by decide) (zr56 36 (by decide)).1) (nr_put (by decide) (zr56 36 (by decide)).2.2.1) ?_
  have hx36 : Ok _ 2 none _ _ (wg w t gX12_init_36) (xat x 36 24945) := ok_grow (w' := wg w t gX12_init_36) hx35 rfl rfl rfl rfl (lay_wg hL hb (by decide +kernel)) (by rw [hR.1]; decide) (by rw [hR.2]; decide)
  refine z_putR (pc' := 427) (o := 36) (by decide) hx36 (hd 228) hin fw_12_161 (wat_new (G := gX12_init_36) (o := 0) (kd := 40 + 12) (n := 0) (by decide +kernel)) rfl (by decide) rfl rfl rfl ?_
  refine z_as (U' := (wr vX12_init_57 (qX12_init_57 t))) ((wrR ..).trans rfl) ?_
  have zr57 : Zr UZ_X12_init (wr vX12_init_57 (qX12_init_57 t)) 37 := Zr.cR zr56 (by decide)
  have rn57 : Rny (wr vX12_init_57 (qX12_init_57 t)) [0] := Rny.cR rn56 (by decide)
  refine r_aload_n (pc' := 428) hx36 (hd 229) rfl 0 rfl rfl ?_
  refine r_bipush (pc' := 430) (v := 15) hx36 (hd 230) (by decide) rfl ?_
  refine q_newa (gn := 15) (G := gX12_init_36) (K := 36) (N := 24945) (kd := 20) (c := 0) (n := 15) (o := 37) (ty := .int) (e9 := .inl (fun _ => 0)) rfl hb hz (by decide) (by rw [hsz]; exact (by omega : t + 1 + 36 = t + 37)) hx36 (hd 231) rfl ar_int rfl (fun _ _ h => h) (by decide) (by decide) (by decide) (by rw [hR.1]; decide) (by rw [hR.2]; decide) (fun _ => rfl) (ce_int (by decide) (zr57 37 (by decide)).1) (nr_put (by decide) (zr57 37 (by decide)).2.2.1) ?_
  have hx37 : Ok _ 2 none _ _ (wg w t gX12_init_37) (xat x 37 24960) := ok_grow (w' := wg w t gX12_init_37) hx36 rfl rfl rfl rfl (lay_wg hL hb (by decide +kernel)) (by rw [hR.1]; decide) (by rw [hR.2]; decide)
  refine z_putR (pc' := 435) (o := 37) (by decide) hx37 (hd 232) hin fw_12_164 (wat_new (G := gX12_init_37) (o := 0) (kd := 40 + 12) (n := 0) (by decide +kernel)) rfl (by decide) rfl rfl rfl ?_
  refine z_as (U' := (wr vX12_init_58 (qX12_init_58 t))) ((wrR ..).trans rfl) ?_
  have zr58 : Zr UZ_X12_init (wr vX12_init_58 (qX12_init_58 t)) 38 := Zr.cR zr57 (by decide)
  have rn58 : Rny (wr vX12_init_58 (qX12_init_58 t)) [0] := Rny.cR rn57 (by decide)
  refine r_aload_n (pc' := 436) hx37 (hd 233) rfl 0 rfl rfl ?_
  refine r_bipush (pc' := 438) (v := 21) hx37 (hd 234) (by decide) rfl ?_
  refine q_newa (gn := 21) (G := gX12_init_37) (K := 37) (N := 24960) (kd := 21) (c := 1) (n := 21) (o := 38) (ty := .long) (e9 := .inr (.inl (fun _ => 0))) rfl hb hz (by decide) (by rw [hsz]; exact (by omega : t + 1 + 37 = t + 38)) hx37 (hd 235) rfl ar_long rfl (fun _ _ h => h) (by decide) (by decide) (by decide) (by rw [hR.1]; decide) (by rw [hR.2]; decide) (fun _ => rfl) (ce_long (by decide) (zr58 38 (by decide)).2.1) (nr_put (by decide) (zr58 38 (by decide)).2.2.1) ?_
  have hx38 : Ok _ 2 none _ _ (wg w t gX12_init_38) (xat x 38 24981) := ok_grow (w' := wg w t gX12_init_38) hx37 rfl rfl rfl rfl (lay_wg hL hb (by decide +kernel)) (by rw [hR.1]; decide) (by rw [hR.2]; decide)
  refine z_putR (pc' := 443) (o := 38) (by decide) hx38 (hd 236) hin fw_12_167 (wat_new (G := gX12_init_38) (o := 0) (kd := 40 + 12) (n := 0) (by decide +kernel)) rfl (by decide) rfl rfl rfl ?_
  refine z_as (U' := (wr vX12_init_59 (qX12_init_59 t))) ((wrR ..).trans rfl) ?_
  have zr59 : Zr UZ_X12_init (wr vX12_init_59 (qX12_init_59 t)) 39 := Zr.cR zr58 (by decide)
  have rn59 : Rny (wr vX12_init_59 (qX12_init_59 t)) [0] := Rny.cR rn58 (by decide)
  refine r_aload_n (pc' := 444) hx38 (hd 237) rfl 0 rfl rfl ?_
  refine r_iconst (pc' := 445) (v := 4) hx38 (hd 238) (by decide) rfl ?_
  refine q_newa (gn := 4) (G := gX12_init_38) (K := 38) (N := 24981) (kd := 21) (c := 1) (n := 4) (o := 39) (ty := .long) (e9 := .inr (.inl (fun _ => 0))) rfl hb hz (by decide) (by rw [hsz]; exact (by omega : t + 1 + 38 = t + 39)) hx38 (hd 239) rfl ar_long rfl (fun _ _ h => h) (by decide) (by decide) (by decide) (by rw [hR.1]; decide) (by rw [hR.2]; decide) (fun _ => rfl) (ce_long (by decide) (zr59 39 (by decide)).2.1) (nr_put (by decide) (zr59 39 (by decide)).2.2.1) ?_
  have hx39 : Ok _ 2 none _ _ (wg w t gX12_init_39) (xat x 39 24985) := ok_grow (w' := wg w t gX12_init_39) hx38 rfl rfl rfl rfl (lay_wg hL hb (by decide +kernel)) (by rw [hR.1]; decide) (by rw [hR.2]; decide)
  refine r_dup (pc' := 448) hx39 (hd 240) rfl rfl ?_
  refine r_iconst (pc' := 449) (v := 0) hx39 (hd 241) (by decide) rfl ?_
  refine r_ldc2 (pc' := 452) hx39 (hd 242) kc_12_65 rfl ?_
  refine z_last (pc' := 453) (k := 0) (by decide) hx39 (hd 243) (wat_new (G := gX12_init_39) (o := 39) (kd := 21) (n := 4) (by decide +kernel)) (by decide) (by decide) rfl ?_
  refine z_as (U' := (wr vX12_init_60 (qX12_init_60 t))) ((wrJ ..).trans rfl) ?_
  have zr60 : Zr UZ_X12_init (wr vX12_init_60 (qX12_init_60 t)) 40 := Zr.cJ zr59 (by decide)
  have rn60 : Rny (wr vX12_init_60 (qX12_init_60 t)) [0] := Rny.cJ rn59
  refine r_dup (pc' := 454) hx39 (hd 244) rfl rfl ?_
  refine r_iconst (pc' := 455) (v := 1) hx39 (hd 245) (by decide) rfl ?_
  refine r_ldc2 (pc' := 458) hx39 (hd 246) kc_12_170 rfl ?_
  refine z_last (pc' := 459) (k := 1) (by decide) hx39 (hd 247) (wat_new (G := gX12_init_39) (o := 39) (kd := 21) (n := 4) (by decide +kernel)) (by decide) (by decide) rfl ?_
  refine z_as (U' := (wr vX12_init_61 (qX12_init_61 t))) ((wrJ ..).trans rfl) ?_
  have zr61 : Zr UZ_X12_init (wr vX12_init_61 (qX12_init_61 t)) 40 := Zr.cJ zr60 (by decide)
  have rn61 : Rny (wr vX12_init_61 (qX12_init_61 t)) [0] := Rny.cJ rn60
  refine r_dup (pc' := 460) hx39 (hd 248) rfl rfl ?_
  refine r_iconst (pc' := 461) (v := 2) hx39 (hd 249) (by decide) rfl ?_
  refine r_ldc2 (pc' := 464) hx39 (hd 250) kc_12_172 rfl ?_
  refine z_last (pc' := 465) (k := 2) (by decide) hx39 (hd 251) (wat_new (G := gX12_init_39) (o := 39) (kd := 21) (n := 4) (by decide +kernel)) (by decide) (by decide) rfl ?_
  refine z_as (U' := (wr vX12_init_62 (qX12_init_62 t))) ((wrJ ..).trans rfl) ?_
  have zr62 : Zr UZ_X12_init (wr vX12_init_62 (qX12_init_62 t)) 40 := Zr.cJ zr61 (by decide)
  have rn62 : Rny (wr vX12_init_62 (qX12_init_62 t)) [0] := Rny.cJ rn61
  refine r_dup (pc' := 466) hx39 (hd 252) rfl rfl ?_
  refine r_iconst (pc' := 467) (v := 3) hx39 (hd 253) (by decide) rfl ?_
  refine r_ldc2 (pc' := 470) hx39 (hd 254) kc_12_174 rfl ?_
  refine z_last (pc' := 471) (k := 3) (by decide) hx39 (hd 255) (wat_new (G := gX12_init_39) (o := 39) (kd := 21) (n := 4) (by decide +kernel)) (by decide) (by decide) rfl ?_
  refine z_as (U' := (wr vX12_init_63 (qX12_init_63 t))) ((wrJ ..).trans rfl) ?_
  have zr63 : Zr UZ_X12_init (wr vX12_init_63 (qX12_init_63 t)) 40 := Zr.cJ zr62 (by decide)
  have rn63 : Rny (wr vX12_init_63 (qX12_init_63 t)) [0] := Rny.cJ rn62
  refine z_putR (pc' := 474) (o := 39) (by decide) hx39 (hd 256) hin fw_12_176 (wat_new (G := gX12_init_39) (o := 0) (kd := 40 + 12) (n := 0) (by decide +kernel)) rfl (by decide) rfl rfl rfl ?_
  refine z_as (U' := (wr vX12_init_64 (qX12_init_64 t))) ((wrR ..).trans rfl) ?_
  have zr64 : Zr UZ_X12_init (wr vX12_init_64 (qX12_init_64 t)) 40 := Zr.cR zr63 (by decide)
  have rn64 : Rny (wr vX12_init_64 (qX12_init_64 t)) [0] := Rny.cR rn63 (by decide)
  refine r_aload_n (pc' := 475) hx39 (hd 257) rfl 0 rfl rfl ?_
  refine r_bipush (pc' := 477) (v := 96) hx39 (hd 258) (by decide) rfl ?_
  refine q_newa (gn := 96) (G := gX12_init_39) (K := 39) (N := 24985) (kd := 20) (c := 0) (n := 96) (o := 40) (ty := .int) (e9 := .inl (fun _ => 0)) rfl hb hz (by decide) (by rw [hsz]; exact (by omega : t + 1 + 39 = t + 40)) hx39 (hd 259) rfl ar_int rfl (fun _ _ h => h) (by decide) (by decide) (by decide) (by rw [hR.1]; decide) (by rw [hR.2]; decide) (fun _ => rfl) (ce_int (by decide) (zr64 40 (by decide)).1) (nr_put (by decide) (zr64 40 (by decide)).2.2.1) ?_
  have hx40 : Ok _ 2 none _ _ (wg w t gX12_init_40) (xat x 40 25081) := ok_grow (w' := wg w t gX12_init_40) hx39 rfl rfl rfl rfl (lay_wg hL hb (by decide +kernel)) (by rw [hR.1]; decide) (by rw [hR.2]; decide)
  refine z_putR (pc' := 482) (o := 40) (by decide) hx40 (hd 260) hin fw_12_179 (wat_new (G := gX12_init_40) (o := 0) (kd := 40 + 12) (n := 0) (by decide +kernel)) rfl (by decide) rfl rfl rfl ?_
  refine z_as (U' := (wr vX12_init_65 (qX12_init_65 t))) ((wrR ..).trans rfl) ?_
  have zr65 : Zr UZ_X12_init (wr vX12_init_65 (qX12_init_65 t)) 41 := Zr.cR zr64 (by decide)
  have rn65 : Rny (wr vX12_init_65 (qX12_init_65 t)) [0] := Rny.cR rn64 (by decide)
  refine r_aload_n (pc' := 483) hx40 (hd 261) rfl 0 rfl rfl ?_
  refine r_iconst (pc' := 484) (v := (-1)) hx40 (hd 262) (by decide) rfl ?_
  refine z_putI (pc' := 487) (by decide) hx40 (hd 263) hin fw_12_182 (wat_new (G := gX12_init_40) (o := 0) (kd := 40 + 12) (n := 0) (by decide +kernel)) rfl (by decide) rfl rfl rfl ?_
  refine z_as (U' := (wr vX12_init_66 (qX12_init_66 t))) ((wrI ..).trans rfl) ?_
  have zr66 : Zr UZ_X12_init (wr vX12_init_66 (qX12_init_66 t)) 41 := Zr.cI zr65 (by decide)
  have rn66 : Rny (wr vX12_init_66 (qX12_init_66 t)) [0] := Rny.cI rn65
  refine r_aload_n (pc' := 488) hx40 (hd 264) rfl 0 rfl rfl ?_
  refine r_iconst (pc' := 489) (v := 2) hx40 (hd 265) (by decide) rfl ?_
  refine q_newa (gn := 2) (G := gX12_init_40) (K := 40) (N := 25081) (kd := 20) (c := 0) (n := 2) (o := 41) (ty := .int) (e9 := .inl (fun _ => 0)) rfl hb hz (by decide) (by rw [hsz]; exact (by omega : t + 1 + 40 = t + 41)) hx40 (hd 266) rfl ar_int rfl (fun _ _ h => h) (by decide) (by decide) (by decide) (by rw [hR.1]; decide) (by rw [hR.2]; decide) (fun _ => rfl) (ce_int (by decide) (zr66 41 (by decide)).1) (nr_put (by decide) (zr66 41 (by decide)).2.2.1) ?_
  have hx41 : Ok _ 2 none _ _ (wg w t gX12_init_41) (xat x 41 25083) := ok_grow (w' := wg w t gX12_init_41) hx40 rfl rfl rfl rfl (lay_wg hL hb (by decide +kernel)) (by rw [hR.1]; decide) (by rw [hR.2]; decide)
  refine z_putR (pc' := 494) (o := 41) (by decide) hx41 (hd 267) hin fw_12_185 (wat_new (G := gX12_init_41) (o := 0) (kd := 40 + 12) (n := 0) (by decide +kernel)) rfl (by decide) rfl rfl rfl ?_
  refine z_as (U' := (wr vX12_init_67 (qX12_init_67 t))) ((wrR ..).trans rfl) ?_
  have zr67 : Zr UZ_X12_init (wr vX12_init_67 (qX12_init_67 t)) 42 := Zr.cR zr66 (by decide)
  have rn67 : Rny (wr vX12_init_67 (qX12_init_67 t)) [0] := Rny.cR rn66 (by decide)
  refine r_aload_n (pc' := 495) hx41 (hd 268) rfl 0 rfl rfl ?_
  refine z_getR (pc' := 498) (o := 2) (by decide) hx41 (hd 269) flI_12_13 (wat_new (G := gX12_init_41) (o := 0) (kd := 40 + 12) (n := 0) (by decide +kernel)) rfl rfl (by decide) rfl ?_
  refine r_iconst (pc' := 499) (v := 2) hx41 (hd 270) (by decide) rfl ?_
  refine r_iconst (pc' := 500) (v := (-1)) hx41 (hd 271) (by decide) rfl ?_
  refine z_iast (pc' := 501) (k := 2) (by decide) hx41 (hd 272) (wat_new (G := gX12_init_41) (o := 2) (kd := 20) (n := 5594) (by decide +kernel)) (by decide) (by decide) rfl ?_
  refine z_as (U' := (wr vX12_init_68 (qX12_init_68 t))) ((wrI ..).trans rfl) ?_
  have zr68 : Zr UZ_X12_init (wr vX12_init_68 (qX12_init_68 t)) 42 := Zr.cI zr67 (by decide)
  have rn68 : Rny (wr vX12_init_68 (qX12_init_68 t)) [0] := Rny.cI rn67
  refine r_aload_n (pc' := 502) hx41 (hd 273) rfl 0 rfl rfl ?_
  refine z_getR (pc' := 505) (o := 2) (by decide) hx41 (hd 274) flI_12_13 (wat_new (G := gX12_init_41) (o := 0) (kd := 40 + 12) (n := 0) (by decide +kernel)) rfl rfl (by decide) rfl ?_
  refine r_iconst (pc' := 506) (v := 5) hx41 (hd 275) (by decide) rfl ?_
  refine r_iconst (pc' := 507) (v := 1) hx41 (hd 276) (by decide) rfl ?_
  refine z_iast (pc' := 508) (k := 5) (by decide) hx41 (hd 277) (wat_new (G := gX12_init_41) (o := 2) (kd := 20) (n := 5594) (by decide +kernel)) (by decide) (by decide) rfl ?_
  refine z_as (U' := (wr vX12_init_69 (qX12_init_69 t))) ((wrI ..).trans rfl) ?_
  have zr69 : Zr UZ_X12_init (wr vX12_init_69 (qX12_init_69 t)) 42 := Zr.cI zr68 (by decide)
  have rn69 : Rny (wr vX12_init_69 (qX12_init_69 t)) [0] := Rny.cI rn68
  refine r_aload_n (pc' := 509) hx41 (hd 278) rfl 0 rfl rfl ?_
  refine z_getR (pc' := 512) (o := 2) (by decide) hx41 (hd 279) flI_12_13 (wat_new (G := gX12_init_41) (o := 0) (kd := 40 + 12) (n := 0) (by decide +kernel)) rfl rfl (by decide) rfl ?_
  refine r_bipush (pc' := 514) (v := 7) hx41 (hd 280) (by decide) rfl ?_
  refine r_bipush (pc' := 516) (v := 15) hx41 (hd 281) (by decide) rfl ?_
  refine z_iast (pc' := 517) (k := 7) (by decide) hx41 (hd 282) (wat_new (G := gX12_init_41) (o := 2) (kd := 20) (n := 5594) (by decide +kernel)) (by decide) (by decide) rfl ?_
  refine z_as (U' := (wr vX12_init_70 (qX12_init_70 t))) ((wrI ..).trans rfl) ?_
  have zr70 : Zr UZ_X12_init (wr vX12_init_70 (qX12_init_70 t)) 42 := Zr.cI zr69 (by decide)
  have rn70 : Rny (wr vX12_init_70 (qX12_init_70 t)) [0] := Rny.cI rn69
  refine r_aload_n (pc' := 518) hx41 (hd 283) rfl 0 rfl rfl ?_
  refine z_getR (pc' := 521) (o := 2) (by decide) hx41 (hd 284) flI_12_13 (wat_new (G := gX12_init_41) (o := 0) (kd := 40 + 12) (n := 0) (by decide +kernel)) rfl rfl (by decide) rfl ?_
  refine r_bipush (pc' := 523) (v := 10) hx41 (hd 285) (by decide) rfl ?_
  refine r_iconst (pc' := 524) (v := 1) hx41 (hd 286) (by decide) rfl ?_
  refine z_iast (pc' := 525) (k := 10) (by decide) hx41 (hd 287) (wat_new (G := gX12_init_41) (o := 2) (kd := 20) (n := 5594) (by decide +kernel)) (by decide) (by decide) rfl ?_
  refine z_as (U' := (wr vX12_init_71 (qX12_init_71 t))) ((wrI ..).trans rfl) ?_
  have zr71 : Zr UZ_X12_init (wr vX12_init_71 (qX12_init_71 t)) 42 := Zr.cI zr70 (by decide)
  have rn71 : Rny (wr vX12_init_71 (qX12_init_71 t)) [0] := Rny.cI rn70
  refine r_aload_n (pc' := 526) hx41 (hd 288) rfl 0 rfl rfl ?_
  refine z_getR (pc' := 529) (o := 2) (by decide) hx41 (hd 289) flI_12_13 (wat_new (G := gX12_init_41) (o := 0) (kd := 40 + 12) (n := 0) (by decide +kernel)) rfl rfl (by decide) rfl ?_
  refine r_bipush (pc' := 531) (v := 11) hx41 (hd 290) (by decide) rfl ?_
  refine r_iconst (pc' := 532) (v := (-1)) hx41 (hd 291) (by decide) rfl ?_
  refine z_iast (pc' := 533) (k := 11) (by decide) hx41 (hd 292) (wat_new (G := gX12_init_41) (o := 2) (kd := 20) (n := 5594) (by decide +kernel)) (by decide) (by decide) rfl ?_
  refine z_as (U' := (wr vX12_init_72 (qX12_init_72 t))) ((wrI ..).trans rfl) ?_
  have zr72 : Zr UZ_X12_init (wr vX12_init_72 (qX12_init_72 t)) 42 := Zr.cI zr71 (by decide)
  have rn72 : Rny (wr vX12_init_72 (qX12_init_72 t)) [0] := Rny.cI rn71
  refine r_aload_n (pc' := 534) hx41 (hd 293) rfl 0 rfl rfl ?_
  refine z_getR (pc' := 537) (o := 2) (by decide) hx41 (hd 294) flI_12_13 (wat_new (G := gX12_init_41) (o := 0) (kd := 40 + 12) (n := 0) (by decide +kernel)) rfl rfl (by decide) rfl ?_
  refine r_bipush (pc' := 539) (v := 14) hx41 (hd 295) (by decide) rfl ?_
  refine r_iconst (pc' := 540) (v := (-1)) hx41 (hd 296) (by decide) rfl ?_
  refine z_iast (pc' := 541) (k := 14) (by decide) hx41 (hd 297) (wat_new (G := gX12_init_41) (o := 2) (kd := 20) (n := 5594) (by decide +kernel)) (by decide) (by decide) rfl ?_
  refine z_as (U' := (wr vX12_init_73 (qX12_init_73 t))) ((wrI ..).trans rfl) ?_
  have zr73 : Zr UZ_X12_init (wr vX12_init_73 (qX12_init_73 t)) 42 := Zr.cI zr72 (by decide)
  have rn73 : Rny (wr vX12_init_73 (qX12_init_73 t)) [0] := Rny.cI rn72
  refine r_aload_n (pc' := 542) hx41 (hd 298) rfl 0 rfl rfl ?_
  refine z_getR (pc' := 545) (o := 2) (by decide) hx41 (hd 299) flI_12_13 (wat_new (G := gX12_init_41) (o := 0) (kd := 40 + 12) (n := 0) (by decide +kernel)) rfl rfl (by decide) rfl ?_
  refine r_bipush (pc' := 547) (v := 15) hx41 (hd 300) (by decide) rfl ?_
  refine r_iconst (pc' := 548) (v := (-1)) hx41 (hd 301) (by decide) rfl ?_
  refine z_iast (pc' := 549) (k := 15) (by decide) hx41 (hd 302) (wat_new (G := gX12_init_41) (o := 2) (kd := 20) (n := 5594) (by decide +kernel)) (by decide) (by decide) rfl ?_
  refine z_as (U' := (wr vX12_init_74 (qX12_init_74 t))) ((wrI ..).trans rfl) ?_
  have zr74 : Zr UZ_X12_init (wr vX12_init_74 (qX12_init_74 t)) 42 := Zr.cI zr73 (by decide)
  have rn74 : Rny (wr vX12_init_74 (qX12_init_74 t)) [0] := Rny.cI rn73
  refine r_iconst (pc' := 550) (v := 0) hx41 (hd 303) (by decide) rfl ?_
  refine r_istore_n (pc' := 551) (L' := [(1, .int 0), (0, .ref t)]) hx41 (hd 304) rfl (by decide) rfl rfl ?_
  have hloop : ∀ (n c : Nat), c + n = 52 → C (xat x 41 25083) (wg w t gX12_init_41) (Qi x w t G_X12_init (put M t 42 T_X12_init) 41 25083) 2 551 [(1, .int (Int32.ofNat c)), (0, .ref t)] [] (put M t 42 (wr (fil vX12_init_74 c) (qX12_init_74 t))) (some ()) := by
    intro n
    induction n with
    | zero =>
      intro c hc
      obtain rfl : c = 52 := by omega
      refine r_iload_n (pc' := 552) hx41 (hd 305) rfl 0 rfl rfl ?_
      refine r_bipush (pc' := 554) (v := 52) hx41 (hd 306) (by decide) rfl ?_
      refine z_geT 573 hx41 (hd 307) (by decide) (by decide) ?_
      have rn75 : Rny (wr vX12_init_75 (qX12_init_75 t)) [0] := Rny.cF rn74
      refine z_as (U' := (wr vX12_init_75 (qX12_init_75 t))) rfl ?_
      refine z_done (G := gX12_init_41) (G' := G_X12_init) (l := [0]) (T := T_X12_init) (ci := 12) hb rfl rfl rn75 (by decide +kernel) (by decide +kernel) (fun o ho H => by
        have e9 : o = 0 := by simpa using ho
        subst e9
        exact va_done (S := 42) (ci := 12) (by decide) (by decide) (fun k hk => by
          match k, hk with
          | 0, _ => first | exact trivial | exact rfl
          | 1, _ => first | exact trivial | exact rfl
          | 2, _ => first | exact trivial | exact rfl
          | 3, _ => first | exact trivial | exact rfl
          | 4, _ => first | exact trivial | exact rfl
          | 5, _ => first | exact trivial | exact rfl
          | 6, _ => first | exact trivial | exact rfl
          | 7, _ => first | exact trivial | exact rfl
          | 8, _ => first | exact trivial | exact rfl
          | 9, _ => first | exact trivial | exact rfl
          | 10, _ => first | exact trivial | exact rfl
          | 11, _ => first | exact trivial | exact rfl
          | 12, _ => first | exact trivial | exact rfl
          | 13, _ => first | exact trivial | exact rfl
          | 14, _ => first | exact trivial | exact rfl
          | 15, _ => first | exact trivial | exact rfl
          | 16, _ => first | exact trivial | exact rfl
          | 17, _ => first | exact trivial | exact rfl
          | 18, _ => first | exact trivial | exact rfl
          | 19, _ => first | exact trivial | exact rfl
          | 20, _ => first | exact trivial | exact rfl
          | 21, _ => first | exact trivial | exact rfl
          | 22, _ => first | exact trivial | exact rfl
          | 23, _ => first | exact trivial | exact rfl
          | 24, _ => first | exact trivial | exact rfl
          | 25, _ => first | exact trivial | exact rfl
          | 26, _ => first | exact trivial | exact rfl
          | 27, _ => first | exact trivial | exact rfl
          | 28, _ => first | exact trivial | exact rfl
          | 29, _ => first | exact trivial | exact rfl
          | 30, _ => first | exact trivial | exact rfl
          | 31, _ => first | exact trivial | exact rfl
          | 32, _ => first | exact trivial | exact rfl
          | 33, _ => first | exact trivial | exact rfl
          | 34, _ => first | exact trivial | exact rfl
          | 35, _ => first | exact trivial | exact rfl
          | 36, _ => first | exact trivial | exact rfl
          | 37, _ => first | exact trivial | exact rfl
          | 38, _ => first | exact trivial | exact rfl
          | 39, _ => first | exact trivial | exact rfl
          | 40, _ => first | exact trivial | exact rfl
          | 41, _ => first | exact trivial | exact rfl
          | 42, _ => first | exact trivial | exact rfl
          | 43, _ => first | exact trivial | exact rfl
          | 44, _ => first | exact trivial | exact rfl
          | 45, _ => first | exact trivial | exact rfl
          | 46, _ => first | exact trivial | exact rfl
          | 47, _ => first | exact trivial | exact rfl
          | 48, _ => first | exact trivial | exact rfl
          | 49, _ => first | exact trivial | exact rfl
          | 50, _ => first | exact trivial | exact rfl
          | 51, _ => first | exact trivial | exact rfl
          | 52, _ => first | exact trivial | exact rfl
          | 53, _ => first | exact trivial | exact rfl
          | 54, _ => first | exact trivial | exact rfl
          | 55, _ => first | exact trivial | exact rfl
          | 56, _ => first | exact trivial | exact rfl
          | 57, _ => first | exact trivial | exact rfl
          | 58, _ => first | exact trivial | exact rfl
          | 59, _ => first | exact trivial | exact rfl
          | 60, _ => first | exact trivial | exact rfl
          | 61, _ => first | exact trivial | exact rfl
          | 62, _ => first | exact trivial | exact rfl
          | 63, _ => first | exact trivial | exact rfl
          | 64, _ => first | exact trivial | exact rfl
          | 65, _ => first | exact trivial | exact rfl
          | 66, _ => first | exact trivial | exact rfl
          | 67, _ => first | exact trivial | exact rfl
          | n + 68, h => exact absurd h (by rw [show nf 12 = 68 from rfl]; omega))) rfl ?_
      exact q_vretI (ok_grow (w' := wg w t G_X12_init) hx41 rfl rfl rfl rfl (lay_wg hL hb (by decide +kernel)) (by rw [hR.1]; decide) (by rw [hR.2]; decide)) (hd 317)
    | succ n ih =>
      intro c hc
      refine r_iload_n (pc' := 552) hx41 (hd 305) rfl 0 rfl rfl ?_
      refine r_bipush (pc' := 554) (v := 52) hx41 (hd 306) (by decide) rfl ?_
      refine z_geF (pc' := 557) 573 hx41 (hd 307) (by decide) (fil_c c (by omega)).1 rfl ?_
      refine r_aload_n (pc' := 558) hx41 (hd 308) rfl 1 rfl rfl ?_
      refine z_getR (pc' := 561) (o := 2) (by decide) hx41 (hd 309) flI_12_13 (wat_new (G := gX12_init_41) (o := 0) (kd := 40 + 12) (n := 0) (by decide +kernel)) rfl rfl (by decide) rfl ?_
      refine r_bipush (pc' := 563) (v := 18) hx41 (hd 310) (by decide) rfl ?_
      refine r_iload_n (pc' := 564) hx41 (hd 311) rfl 0 rfl rfl ?_
      refine r_iadd (pc' := 565) hx41 (hd 312) rfl ?_
      refine r_iconst (pc' := 566) (v := (-1)) hx41 (hd 313) (by decide) rfl ?_
      refine z_iast (pc' := 567) (k := 18 + c) (by decide) hx41 (hd 314) (wat_new (G := gX12_init_41) (o := 2) (kd := 20) (n := 5594) (by decide +kernel)) (fil_c c (by omega)).2.1 (fil_c c (by omega)).2.2.1 rfl ?_
      refine z_as (U' := wr (fil vX12_init_74 (c + 1)) (qX12_init_74 t)) (fil_s _ _ _) ?_
      refine z_iinc (pc' := 570) (v := Int32.ofNat (c + 1)) (L' := [(1, .int (Int32.ofNat (c + 1))), (0, .ref t)]) (j := 0) hx41 (hd 315) rfl (fil_c c (by omega)).2.2.2 (by decide) rfl rfl ?_
      refine r_goto (tgt := 551) hx41 (hd 316) (by decide) ?_
      exact ih (c + 1) (by omega)
  refine z_as (U' := wr (fil vX12_init_74 0) (qX12_init_74 t)) (fil_0 _ _) ?_
  exact hloop 52 0 rfl
