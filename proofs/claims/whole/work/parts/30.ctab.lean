def kt_X0_init : List (Nat × Instr × Nat) := [(0, .aload_n 0, 1), (1, .invokespecial 3, 3), (4, .aload_n 0, 1), (5, .bipush 8, 2), (7, .newarray .int, 2), (9, .putfield 11, 3), (12, .aload_n 0, 1), (13, .bipush 8, 2), (15, .newarray .int, 2), (17, .putfield 15, 3), (20, .aload_n 0, 1), (21, .bipush 8, 2), (23, .newarray .int, 2), (25, .putfield 18, 3), (28, .aload_n 0, 1), (29, .bipush 8, 2), (31, .newarray .int, 2), (33, .putfield 21, 3), (36, .aload_n 0, 1), (37, .bipush 8, 2), (39, .newarray .int, 2), (41, .putfield 24, 3), (44, .aload_n 0, 1), (45, .bipush 8, 2), (47, .newarray .int, 2), (49, .putfield 27, 3), (52, .aload_n 0, 1), (53, .bipush 8, 2), (55, .newarray .int, 2), (57, .putfield 30, 3), (60, .aload_n 0, 1), (61, .aload_n 1, 1), (62, .putfield 33, 3), (65, .return_, 1)]
theorem kd_X0_init : (kt_X0_init.all fun q => decide (decode cX0_init q.1 = .ok q.2)) = true := by decide +kernel
def kt_X1_init : List (Nat × Instr × Nat) := [(0, .aload_n 0, 1), (1, .invokespecial 3, 3), (4, .aload_n 0, 1), (5, .iconst 3, 1), (6, .newarray .int, 2), (8, .putfield 11, 3), (11, .aload_n 0, 1), (12, .iconst 3, 1), (13, .newarray .int, 2), (15, .putfield 15, 3), (18, .aload_n 0, 1), (19, .iconst 3, 1), (20, .newarray .int, 2), (22, .putfield 18, 3), (25, .aload_n 0, 1), (26, .iconst 3, 1), (27, .newarray .int, 2), (29, .putfield 21, 3), (32, .aload_n 0, 1), (33, .iconst 3, 1), (34, .newarray .int, 2), (36, .putfield 24, 3), (39, .aload_n 0, 1), (40, .aload_n 1, 1), (41, .putfield 27, 3), (44, .aload_n 0, 1), (45, .aload_n 2, 1), (46, .putfield 31, 3), (49, .aload_n 0, 1), (50, .aload_n 3, 1), (51, .putfield 35, 3), (54, .return_, 1)]
theorem kd_X1_init : (kt_X1_init.all fun q => decide (decode cX1_init q.1 = .ok q.2)) = true := by decide +kernel
def kt_X2_init_0 : List (Nat × Instr × Nat) := [(0, .aload_n 0, 1), (1, .invokespecial 5, 3), (4, .aload_n 0, 1), (5, .bipush 7, 2), (7, .newarray .int, 2), (9, .putfield 11, 3), (12, .aload_n 0, 1), (13, .bipush 7, 2), (15, .newarray .int, 2), (17, .putfield 15, 3), (20, .aload_n 0, 1), (21, .bipush 7, 2), (23, .bipush 7, 2), (25, .multianewarray 18 2, 4), (29, .putfield 20, 3), (32, .aload_n 0, 1), (33, .sipush 128, 3), (36, .newarray .int, 2), (38, .putfield 23, 3), (41, .aload_n 0, 1), (42, .bipush 7, 2), (44, .sipush 128, 3), (47, .multianewarray 18 2, 4), (51, .putfield 26, 3), (54, .aload_n 0, 1), (55, .iconst 3, 1), (56, .sipush 128, 3), (59, .multianewarray 18 2, 4), (63, .putfield 31, 3), (66, .aload_n 0, 1), (67, .bipush 7, 2), (69, .newarray .int, 2), (71, .putfield 34, 3), (74, .aload_n 0, 1), (75, .iconst 3, 1), (76, .newarray .int, 2), (78, .putfield 37, 3), (81, .aload_n 0, 1), (82, .bipush 7, 2), (84, .newarray .int, 2)]
theorem kd_X2_init_0 : (kt_X2_init_0.all fun q => decide (decode cX2_init q.1 = .ok q.2)) = true := by decide +kernel
def kt_X2_init_1 : List (Nat × Instr × Nat) := [(86, .putfield 40, 3), (89, .aload_n 0, 1), (90, .iconst 3, 1), (91, .newarray .int, 2), (93, .putfield 43, 3), (96, .aload_n 0, 1), (97, .iconst 3, 1), (98, .newarray .int, 2), (100, .putfield 46, 3), (103, .aload_n 0, 1), (104, .iconst 3, 1), (105, .newarray .int, 2), (107, .putfield 49, 3), (110, .aload_n 0, 1), (111, .iconst 3, 1), (112, .newarray .int, 2), (114, .putfield 52, 3), (117, .aload_n 0, 1), (118, .aload_n 1, 1), (119, .putfield 55, 3), (122, .aload_n 0, 1), (123, .aload_n 2, 1), (124, .putfield 59, 3), (127, .aload_n 0, 1), (128, .aload_n 3, 1), (129, .putfield 63, 3), (132, .return_, 1)]
theorem kd_X2_init_1 : (kt_X2_init_1.all fun q => decide (decode cX2_init q.1 = .ok q.2)) = true := by decide +kernel
def kt_X2_init : List (Nat × Instr × Nat) := kt_X2_init_0 ++ (kt_X2_init_1)
theorem kd_X2_init : (kt_X2_init.all fun q => decide (decode cX2_init q.1 = .ok q.2)) = true := all_app kd_X2_init_0 (kd_X2_init_1)
def kt_X3_init_0 : List (Nat × Instr × Nat) := [(0, .aload_n 0, 1), (1, .invokespecial 3, 3), (4, .aload_n 0, 1), (5, .bipush 8, 2), (7, .newarray .int, 2), (9, .putfield 11, 3), (12, .aload_n 0, 1), (13, .bipush 8, 2), (15, .newarray .int, 2), (17, .putfield 15, 3), (20, .aload_n 0, 1), (21, .bipush 12, 2), (23, .newarray .int, 2), (25, .putfield 18, 3), (28, .aload_n 0, 1), (29, .bipush 12, 2), (31, .newarray .int, 2), (33, .putfield 21, 3), (36, .aload_n 0, 1), (37, .bipush 12, 2), (39, .newarray .int, 2), (41, .putfield 24, 3), (44, .aload_n 0, 1), (45, .bipush 12, 2), (47, .newarray .int, 2), (49, .putfield 27, 3), (52, .aload_n 0, 1), (53, .bipush 12, 2), (55, .newarray .int, 2), (57, .putfield 30, 3), (60, .aload_n 0, 1), (61, .bipush 12, 2), (63, .newarray .int, 2), (65, .putfield 33, 3), (68, .aload_n 0, 1), (69, .bipush 12, 2), (71, .newarray .int, 2), (73, .putfield 36, 3), (76, .aload_n 0, 1), (77, .aload_n 1, 1)]
theorem kd_X3_init_0 : (kt_X3_init_0.all fun q => decide (decode cX3_init q.1 = .ok q.2)) = true := by decide +kernel
def kt_X3_init_1 : List (Nat × Instr × Nat) := [(78, .putfield 39, 3), (81, .return_, 1)]
theorem kd_X3_init_1 : (kt_X3_init_1.all fun q => decide (decode cX3_init q.1 = .ok q.2)) = true := by decide +kernel
def kt_X3_init : List (Nat × Instr × Nat) := kt_X3_init_0 ++ (kt_X3_init_1)
theorem kd_X3_init : (kt_X3_init.all fun q => decide (decode cX3_init q.1 = .ok q.2)) = true := all_app kd_X3_init_0 (kd_X3_init_1)
def kt_X4_init : List (Nat × Instr × Nat) := [(0, .aload_n 0, 1), (1, .invokespecial 3, 3), (4, .aload_n 0, 1), (5, .sipush 240, 3), (8, .newarray .int, 2), (10, .putfield 11, 3), (13, .aload_n 0, 1), (14, .new 15, 3), (17, .dup, 1), (18, .invokespecial 17, 3), (21, .putfield 18, 3), (24, .return_, 1)]
theorem kd_X4_init : (kt_X4_init.all fun q => decide (decode cX4_init q.1 = .ok q.2)) = true := by decide +kernel
def kt_X5_init : List (Nat × Instr × Nat) := [(0, .aload_n 0, 1), (1, .invokespecial 1, 3), (4, .aload_n 0, 1), (5, .bipush 8, 2), (7, .newarray .int, 2), (9, .putfield 9, 3), (12, .aload_n 0, 1), (13, .bipush 8, 2), (15, .bipush 6, 2), (17, .multianewarray 13 2, 4), (21, .putfield 15, 3), (24, .aload_n 0, 1), (25, .invokevirtual 18, 3), (28, .return_, 1)]
theorem kd_X5_init : (kt_X5_init.all fun q => decide (decode cX5_init q.1 = .ok q.2)) = true := by decide +kernel
def kt_X6_init : List (Nat × Instr × Nat) := [(0, .aload_n 0, 1), (1, .invokespecial 5, 3), (4, .aload_n 0, 1), (5, .bipush 20, 2), (7, .newarray .int, 2), (9, .putfield 11, 3), (12, .aload_n 0, 1), (13, .bipush 20, 2), (15, .newarray .int, 2), (17, .putfield 15, 3), (20, .aload_n 0, 1), (21, .bipush 20, 2), (23, .newarray .int, 2), (25, .putfield 18, 3), (28, .aload_n 0, 1), (29, .bipush 8, 2), (31, .newarray .int, 2), (33, .putfield 21, 3), (36, .aload_n 0, 1), (37, .aload_n 1, 1), (38, .putfield 24, 3), (41, .aload_n 0, 1), (42, .aload_n 2, 1), (43, .putfield 28, 3), (46, .return_, 1)]
theorem kd_X6_init : (kt_X6_init.all fun q => decide (decode cX6_init q.1 = .ok q.2)) = true := by decide +kernel
def kt_X7_init : List (Nat × Instr × Nat) := [(0, .aload_n 0, 1), (1, .invokespecial 1, 3), (4, .aload_n 0, 1), (5, .iconst 4, 1), (6, .newarray .int, 2), (8, .putfield 9, 3), (11, .aload_n 0, 1), (12, .iconst 4, 1), (13, .newarray .int, 2), (15, .putfield 13, 3), (18, .aload_n 0, 1), (19, .iconst 4, 1), (20, .bipush 40, 2), (22, .multianewarray 16 2, 4), (26, .putfield 18, 3), (29, .aload_n 0, 1), (30, .getfield 9, 3), (33, .iconst (-1), 1), (34, .invokestatic 21, 3), (37, .return_, 1)]
theorem kd_X7_init : (kt_X7_init.all fun q => decide (decode cX7_init q.1 = .ok q.2)) = true := by decide +kernel
def kt_X8_init : List (Nat × Instr × Nat) := [(0, .aload_n 0, 1), (1, .invokespecial 3, 3), (4, .iconst 0, 1), (5, .iload_n 1, 1), (6, .invokestatic 9, 3), (9, .istore_n 2, 1), (10, .aload_n 0, 1), (11, .iload_n 2, 1), (12, .newarray .int, 2), (14, .putfield 15, 3), (17, .aload_n 0, 1), (18, .iload_n 2, 1), (19, .newarray .int, 2), (21, .putfield 21, 3), (24, .aload_n 0, 1), (25, .iload_n 2, 1), (26, .newarray .int, 2), (28, .putfield 24, 3), (31, .return_, 1)]
theorem kd_X8_init : (kt_X8_init.all fun q => decide (decode cX8_init q.1 = .ok q.2)) = true := by decide +kernel
def kt_X9_init_0 : List (Nat × Instr × Nat) := [(0, .aload_n 0, 1), (1, .invokespecial 5, 3), (4, .aload_n 0, 1), (5, .bipush 12, 2), (7, .newarray .int, 2), (9, .putfield 11, 3), (12, .aload_n 0, 1), (13, .bipush 12, 2), (15, .newarray .int, 2), (17, .putfield 17, 3), (20, .aload_n 0, 1), (21, .bipush 12, 2), (23, .newarray .int, 2), (25, .putfield 20, 3), (28, .aload_n 0, 1), (29, .bipush 8, 2), (31, .newarray .int, 2), (33, .putfield 23, 3), (36, .aload_n 0, 1), (37, .bipush 8, 2), (39, .newarray .int, 2), (41, .putfield 26, 3), (44, .aload_n 0, 1), (45, .bipush 12, 2), (47, .bipush 7, 2), (49, .multianewarray 29 2, 4), (53, .putfield 31, 3), (56, .aload_n 0, 1), (57, .bipush 12, 2), (59, .newarray .int, 2), (61, .putfield 34, 3), (64, .aload_n 0, 1), (65, .bipush 61, 2), (67, .bipush 12, 2), (69, .multianewarray 29 2, 4), (73, .putfield 37, 3), (76, .aload_n 0, 1), (77, .aload_n 1, 1), (78, .putfield 40, 3), (81, .aload_n 0, 1)]
theorem kd_X9_init_0 : (kt_X9_init_0.all fun q => decide (decode cX9_init q.1 = .ok q.2)) = true := by decide +kernel
def kt_X9_init_1 : List (Nat × Instr × Nat) := [(82, .aload_n 2, 1), (83, .putfield 44, 3), (86, .aload_n 0, 1), (87, .aload_n 3, 1), (88, .putfield 48, 3), (91, .return_, 1)]
theorem kd_X9_init_1 : (kt_X9_init_1.all fun q => decide (decode cX9_init q.1 = .ok q.2)) = true := by decide +kernel
def kt_X9_init : List (Nat × Instr × Nat) := kt_X9_init_0 ++ (kt_X9_init_1)
theorem kd_X9_init : (kt_X9_init.all fun q => decide (decode cX9_init q.1 = .ok q.2)) = true := all_app kd_X9_init_0 (kd_X9_init_1)
def kt_X10_init_0 : List (Nat × Instr × Nat) := [(0, .aload_n 0, 1), (1, .invokespecial 1, 3), (4, .aload_n 0, 1), (5, .new 7, 3), (8, .dup, 1), (9, .invokespecial 9, 3), (12, .putfield 10, 3), (15, .aload_n 0, 1), (16, .new 16, 3), (19, .dup, 1), (20, .invokespecial 18, 3), (23, .putfield 19, 3), (26, .aload_n 0, 1), (27, .new 23, 3), (30, .dup, 1), (31, .aload_n 0, 1), (32, .getfield 10, 3), (35, .invokespecial 25, 3), (38, .putfield 28, 3), (41, .aload_n 0, 1), (42, .new 32, 3), (45, .dup, 1), (46, .aload_n 0, 1), (47, .getfield 28, 3), (50, .invokespecial 34, 3), (53, .putfield 37, 3), (56, .aload_n 0, 1), (57, .new 41, 3), (60, .dup, 1), (61, .bipush 12, 2), (63, .invokespecial 45, 3), (66, .putfield 48, 3), (69, .aload_n 0, 1), (70, .new 43, 3), (73, .dup, 1), (74, .aload_n 0, 1), (75, .getfield 28, 3), (78, .aload_n 0, 1), (79, .getfield 37, 3), (82, .aload_n 0, 1)]
theorem kd_X10_init_0 : (kt_X10_init_0.all fun q => decide (decode cX10_init q.1 = .ok q.2)) = true := by decide +kernel
def kt_X10_init_1 : List (Nat × Instr × Nat) := [(83, .getfield 48, 3), (86, .invokespecial 52, 3), (89, .putfield 55, 3), (92, .aload_n 0, 1), (93, .new 59, 3), (96, .dup, 1), (97, .aload_n 0, 1), (98, .getfield 28, 3), (101, .aload_n 0, 1), (102, .getfield 37, 3), (105, .aload_n 0, 1), (106, .getfield 10, 3), (109, .invokespecial 61, 3), (112, .putfield 64, 3), (115, .aload_n 0, 1), (116, .new 68, 3), (119, .dup, 1), (120, .aload_n 0, 1), (121, .getfield 37, 3), (124, .aload_n 0, 1), (125, .getfield 64, 3), (128, .aload_n 0, 1), (129, .getfield 55, 3), (132, .invokespecial 70, 3), (135, .putfield 73, 3), (138, .aload_n 0, 1), (139, .new 41, 3), (142, .dup, 1), (143, .bipush 8, 2), (145, .invokespecial 45, 3), (148, .putfield 79, 3), (151, .aload_n 0, 1), (152, .new 77, 3), (155, .dup, 1), (156, .aload_n 0, 1), (157, .getfield 28, 3), (160, .aload_n 0, 1), (161, .getfield 79, 3), (164, .invokespecial 82, 3), (167, .putfield 85, 3)]
theorem kd_X10_init_1 : (kt_X10_init_1.all fun q => decide (decode cX10_init q.1 = .ok q.2)) = true := by decide +kernel
def kt_X10_init_2 : List (Nat × Instr × Nat) := [(170, .aload_n 0, 1), (171, .new 89, 3), (174, .dup, 1), (175, .invokespecial 91, 3), (178, .putfield 92, 3), (181, .return_, 1)]
theorem kd_X10_init_2 : (kt_X10_init_2.all fun q => decide (decode cX10_init q.1 = .ok q.2)) = true := by decide +kernel
def kt_X10_init : List (Nat × Instr × Nat) := kt_X10_init_0 ++ (kt_X10_init_1 ++ (kt_X10_init_2))
theorem kd_X10_init : (kt_X10_init.all fun q => decide (decode cX10_init q.1 = .ok q.2)) = true := all_app kd_X10_init_0 (all_app kd_X10_init_1 (kd_X10_init_2))
def kt_X11_init_0 : List (Nat × Instr × Nat) := [(0, .aload_n 0, 1), (1, .invokespecial 1, 3), (4, .aload_n 0, 1), (5, .bipush 8, 2), (7, .newarray .int, 2), (9, .putfield 7, 3), (12, .aload_n 0, 1), (13, .bipush 8, 2), (15, .newarray .int, 2), (17, .putfield 13, 3), (20, .aload_n 0, 1), (21, .bipush 12, 2), (23, .newarray .int, 2), (25, .putfield 16, 3), (28, .aload_n 0, 1), (29, .bipush 12, 2), (31, .newarray .int, 2), (33, .putfield 19, 3), (36, .aload_n 0, 1), (37, .bipush 12, 2), (39, .newarray .int, 2), (41, .putfield 22, 3), (44, .aload_n 0, 1), (45, .bipush 12, 2), (47, .newarray .int, 2), (49, .putfield 25, 3), (52, .aload_n 0, 1), (53, .bipush 12, 2), (55, .newarray .int, 2), (57, .putfield 28, 3), (60, .aload_n 0, 1), (61, .bipush 12, 2), (63, .newarray .int, 2), (65, .putfield 31, 3), (68, .aload_n 0, 1), (69, .bipush 8, 2), (71, .newarray .int, 2), (73, .putfield 34, 3), (76, .aload_n 0, 1), (77, .bipush 8, 2)]
theorem kd_X11_init_0 : (kt_X11_init_0.all fun q => decide (decode cX11_init q.1 = .ok q.2)) = true := by decide +kernel
def kt_X11_init_1 : List (Nat × Instr × Nat) := [(79, .newarray .int, 2), (81, .putfield 37, 3), (84, .aload_n 0, 1), (85, .bipush 8, 2), (87, .newarray .boolean, 2), (89, .putfield 40, 3), (92, .aload_n 0, 1), (93, .bipush 48, 2), (95, .newarray .int, 2), (97, .putfield 44, 3), (100, .aload_n 0, 1), (101, .bipush 48, 2), (103, .newarray .int, 2), (105, .putfield 47, 3), (108, .aload_n 0, 1), (109, .sipush 240, 3), (112, .newarray .int, 2), (114, .putfield 50, 3), (117, .aload_n 0, 1), (118, .bipush 12, 2), (120, .newarray .int, 2), (122, .putfield 53, 3), (125, .aload_n 0, 1), (126, .bipush 12, 2), (128, .newarray .int, 2), (130, .putfield 56, 3), (133, .aload_n 0, 1), (134, .bipush 12, 2), (136, .newarray .int, 2), (138, .putfield 59, 3), (141, .aload_n 0, 1), (142, .bipush 12, 2), (144, .newarray .int, 2), (146, .putfield 62, 3), (149, .aload_n 0, 1), (150, .bipush 12, 2), (152, .newarray .int, 2), (154, .putfield 65, 3), (157, .aload_n 0, 1), (158, .bipush 12, 2)]
theorem kd_X11_init_1 : (kt_X11_init_1.all fun q => decide (decode cX11_init q.1 = .ok q.2)) = true := by decide +kernel
def kt_X11_init_2 : List (Nat × Instr × Nat) := [(160, .newarray .int, 2), (162, .putfield 68, 3), (165, .aload_n 0, 1), (166, .bipush 96, 2), (168, .newarray .int, 2), (170, .putfield 71, 3), (173, .aload_n 0, 1), (174, .bipush 8, 2), (176, .newarray .int, 2), (178, .putfield 74, 3), (181, .aload_n 0, 1), (182, .bipush 12, 2), (184, .newarray .int, 2), (186, .putfield 77, 3), (189, .aload_n 0, 1), (190, .bipush 8, 2), (192, .newarray .int, 2), (194, .putfield 80, 3), (197, .aload_n 0, 1), (198, .sipush 732, 3), (201, .newarray .int, 2), (203, .putfield 83, 3), (206, .aload_n 0, 1), (207, .bipush 8, 2), (209, .newarray .int, 2), (211, .putfield 86, 3), (214, .aload_n 0, 1), (215, .bipush 8, 2), (217, .newarray .int, 2), (219, .putfield 89, 3), (222, .aload_n 0, 1), (223, .bipush 8, 2), (225, .newarray .int, 2), (227, .putfield 92, 3), (230, .aload_n 0, 1), (231, .bipush 8, 2), (233, .newarray .int, 2), (235, .putfield 95, 3), (238, .aload_n 0, 1), (239, .bipush 8, 2)]
theorem kd_X11_init_2 : (kt_X11_init_2.all fun q => decide (decode cX11_init q.1 = .ok q.2)) = true := by decide +kernel
def kt_X11_init_3 : List (Nat × Instr × Nat) := [(241, .newarray .int, 2), (243, .putfield 98, 3), (246, .aload_n 0, 1), (247, .bipush 8, 2), (249, .newarray .int, 2), (251, .putfield 101, 3), (254, .aload_n 0, 1), (255, .bipush 8, 2), (257, .newarray .int, 2), (259, .putfield 104, 3), (262, .aload_n 0, 1), (263, .iconst 3, 1), (264, .newarray .int, 2), (266, .putfield 107, 3), (269, .aload_n 0, 1), (270, .iconst 3, 1), (271, .newarray .int, 2), (273, .putfield 110, 3), (276, .aload_n 0, 1), (277, .iconst 3, 1), (278, .newarray .int, 2), (280, .putfield 113, 3), (283, .aload_n 0, 1), (284, .iconst 3, 1), (285, .newarray .int, 2), (287, .putfield 116, 3), (290, .aload_n 0, 1), (291, .iconst 3, 1), (292, .newarray .int, 2), (294, .putfield 119, 3), (297, .aload_n 0, 1), (298, .bipush 8, 2), (300, .newarray .int, 2), (302, .putfield 122, 3), (305, .aload_n 0, 1), (306, .bipush 8, 2), (308, .newarray .int, 2), (310, .putfield 125, 3), (313, .aload_n 0, 1), (314, .sipush 384, 3)]
theorem kd_X11_init_3 : (kt_X11_init_3.all fun q => decide (decode cX11_init q.1 = .ok q.2)) = true := by decide +kernel
def kt_X11_init_4 : List (Nat × Instr × Nat) := [(317, .newarray .int, 2), (319, .putfield 128, 3), (322, .aload_n 0, 1), (323, .sipush 896, 3), (326, .newarray .int, 2), (328, .putfield 131, 3), (331, .aload_n 0, 1), (332, .bipush 8, 2), (334, .newarray .int, 2), (336, .putfield 134, 3), (339, .aload_n 0, 1), (340, .iconst 3, 1), (341, .newarray .int, 2), (343, .putfield 137, 3), (346, .aload_n 0, 1), (347, .iconst 3, 1), (348, .newarray .int, 2), (350, .putfield 140, 3), (353, .aload_n 0, 1), (354, .iconst 3, 1), (355, .newarray .int, 2), (357, .putfield 143, 3), (360, .aload_n 0, 1), (361, .iconst 3, 1), (362, .newarray .int, 2), (364, .putfield 146, 3), (367, .aload_n 0, 1), (368, .iconst 3, 1), (369, .newarray .boolean, 2), (371, .putfield 149, 3), (374, .aload_n 0, 1), (375, .bipush 8, 2), (377, .newarray .int, 2), (379, .putfield 152, 3), (382, .aload_n 0, 1), (383, .bipush 8, 2), (385, .newarray .int, 2), (387, .putfield 155, 3), (390, .aload_n 0, 1), (391, .bipush 8, 2)]
theorem kd_X11_init_4 : (kt_X11_init_4.all fun q => decide (decode cX11_init q.1 = .ok q.2)) = true := by decide +kernel
def kt_X11_init_5 : List (Nat × Instr × Nat) := [(393, .newarray .int, 2), (395, .putfield 158, 3), (398, .aload_n 0, 1), (399, .iconst 4, 1), (400, .newarray .int, 2), (402, .putfield 161, 3), (405, .aload_n 0, 1), (406, .iconst 4, 1), (407, .newarray .int, 2), (409, .putfield 164, 3), (412, .aload_n 0, 1), (413, .sipush 160, 3), (416, .newarray .int, 2), (418, .putfield 167, 3), (421, .iconst 0, 1), (422, .istore_n 1, 1), (423, .iload_n 1, 1), (424, .iconst 4, 1), (425, .if_icmp .ge 17, 3), (428, .aload_n 0, 1), (429, .getfield 161, 3), (432, .iload_n 1, 1), (433, .bipush (-4), 2), (435, .iastore, 1), (436, .iinc 1 1, 3), (439, .goto (-16), 3), (442, .aload_n 0, 1), (443, .invokevirtual 170, 3), (446, .iconst 0, 1), (447, .istore_n 1, 1), (448, .iload_n 1, 1), (449, .bipush 8, 2), (451, .if_icmp .ge 21, 3), (454, .aload_n 0, 1), (455, .getfield 34, 3), (458, .iload_n 1, 1), (459, .aload_n 0, 1), (460, .getfield 37, 3), (463, .iload_n 1, 1), (464, .iaload, 1)]
theorem kd_X11_init_5 : (kt_X11_init_5.all fun q => decide (decode cX11_init q.1 = .ok q.2)) = true := by decide +kernel
def kt_X11_init_6 : List (Nat × Instr × Nat) := [(465, .iastore, 1), (466, .iinc 1 1, 3), (469, .goto (-21), 3), (472, .return_, 1)]
theorem kd_X11_init_6 : (kt_X11_init_6.all fun q => decide (decode cX11_init q.1 = .ok q.2)) = true := by decide +kernel
def kt_X11_init : List (Nat × Instr × Nat) := kt_X11_init_0 ++ (kt_X11_init_1 ++ (kt_X11_init_2 ++ (kt_X11_init_3 ++ (kt_X11_init_4 ++ (kt_X11_init_5 ++ (kt_X11_init_6))))))
theorem kd_X11_init : (kt_X11_init.all fun q => decide (decode cX11_init q.1 = .ok q.2)) = true := all_app kd_X11_init_0 (all_app kd_X11_init_1 (all_app kd_X11_init_2 (all_app kd_X11_init_3 (all_app kd_X11_init_4 (all_app kd_X11_init_5 (kd_X11_init_6))))))
def ar_X0_init : mRec := (kt_X0_init, cX0_init, yX0_init, 2, none, 0, 2, false, 1, 20)
def ar_X1_init : mRec := (kt_X1_init, cX1_init, yX1_init, 4, none, 1, 4, false, 1, 20)
def ar_X2_init : mRec := (kt_X2_init, cX2_init, yX2_init, 4, none, 2, 4, false, 1, 20)
def ar_X3_init : mRec := (kt_X3_init, cX3_init, yX3_init, 2, none, 3, 2, false, 1, 20)
def ar_X4_init : mRec := (kt_X4_init, cX4_init, yX4_init, 1, none, 4, 1, false, 3, 62)
def ar_X5_init : mRec := (kt_X5_init, cX5_init, yX5_init, 1, none, 5, 1, false, 2, 42)
def ar_X6_init : mRec := (kt_X6_init, cX6_init, yX6_init, 3, none, 6, 3, false, 1, 20)
def ar_X7_init : mRec := (kt_X7_init, cX7_init, yX7_init, 1, none, 7, 1, false, 1, 23)
def ar_X8_init : mRec := (kt_X8_init, cX8_init, yX8_init, 3, none, 8, 2, false, 1, 21)
def ar_X9_init : mRec := (kt_X9_init, cX9_init, yX9_init, 4, none, 9, 4, false, 1, 20)
def ar_X10_init : mRec := (kt_X10_init, cX10_init, yX10_init, 1, none, 10, 1, false, 4, 82)
def ar_X11_init : mRec := (kt_X11_init, cX11_init, yX11_init, 2, none, 11, 1, false, 1, 21)
def ar_X5_setAtFirst : mRec := (kt_X5_setAtFirst, cX5_setAtFirst, yX5_setAtFirst, 1, none, 5, 1, false, 1, 22)
def ar_X11_firstRules : mRec := (kt_X11_firstRules, cX11_firstRules, yX11_firstRules, 2, none, 11, 1, false, 0, 0)
def ar_J7_fill_53178 : mRec := (kt_J7_fill_53178, cJ7_fill_53178, yJ7_fill_53178, 4, none, 16, 2, true, 0, 0)
def aMany : Nat := 15
def aI (κ : Nat) : mRec := (cond (Nat.ble κ 7) (cond (Nat.ble κ 3) (cond (Nat.ble κ 1) (cond (Nat.ble κ 0) ar_X0_init ar_X1_init) (cond (Nat.ble κ 2) ar_X2_init ar_X3_init)) (cond (Nat.ble κ 5) (cond (Nat.ble κ 4) ar_X4_init ar_X5_init) (cond (Nat.ble κ 6) ar_X6_init ar_X7_init))) (cond (Nat.ble κ 11) (cond (Nat.ble κ 9) (cond (Nat.ble κ 8) ar_X8_init ar_X9_init) (cond (Nat.ble κ 10) ar_X10_init ar_X11_init)) (cond (Nat.ble κ 13) (cond (Nat.ble κ 12) ar_X5_setAtFirst ar_X11_firstRules) ar_J7_fill_53178)))
def aMc (κ : Nat) : Nat := [7, 5, 30, 9, 12, 10, 4, 7, 3, 81, 182, 53, 0, 0, 0].getD κ 0
def aMs (κ : Nat) : Nat := [56, 15, 1517, 100, 307, 64, 68, 172, 36, 953, 3484, 2958, 0, 0, 0].getD κ 0
abbrev aKt (κ : Nat) := (aI κ).1
abbrev aBy (κ : Nat) := (aI κ).2.1
abbrev aNm (κ : Nat) := (aI κ).2.2.1
abbrev aMx (κ : Nat) := (aI κ).2.2.2.1
abbrev aCl (κ : Nat) := (aI κ).2.2.2.2.2.1
abbrev aAr (κ : Nat) := (aI κ).2.2.2.2.2.2.1
abbrev aSa (κ : Nat) := (aI κ).2.2.2.2.2.2.2.1
abbrev aFr (κ : Nat) := (aI κ).2.2.2.2.2.2.2.2.1
abbrev aLo (κ : Nat) := (aI κ).2.2.2.2.2.2.2.2.2
/-- is it a constructor -/
def aIn (κ : Nat) : Bool := Nat.blt κ 12
def al_X0 : List (Nat × Nat) := []
def nw_X0 : List (Nat × Nat) := []
def mn_X0 : List (Nat × Nat) := []
def oi_X0 : List (Nat × Nat) := [(3, 0)]
def al_X1 : List (Nat × Nat) := []
def nw_X1 : List (Nat × Nat) := []
def mn_X1 : List (Nat × Nat) := []
def oi_X1 : List (Nat × Nat) := [(3, 0)]
def al_X2 : List (Nat × Nat) := [(148, 14)]
def nw_X2 : List (Nat × Nat) := []
def mn_X2 : List (Nat × Nat) := [(18, 0)]
def oi_X2 : List (Nat × Nat) := [(5, 0)]
def al_X3 : List (Nat × Nat) := []
def nw_X3 : List (Nat × Nat) := []
def mn_X3 : List (Nat × Nat) := []
def oi_X3 : List (Nat × Nat) := [(3, 0)]
def al_X4 : List (Nat × Nat) := [(17, 5), (30, 12)]
def nw_X4 : List (Nat × Nat) := [(15, 5)]
def mn_X4 : List (Nat × Nat) := []
def oi_X4 : List (Nat × Nat) := [(3, 0)]
def al_X5 : List (Nat × Nat) := [(18, 12)]
def nw_X5 : List (Nat × Nat) := []
def mn_X5 : List (Nat × Nat) := [(13, 0)]
def oi_X5 : List (Nat × Nat) := [(1, 0)]
def al_X6 : List (Nat × Nat) := [(90, 14)]
def nw_X6 : List (Nat × Nat) := []
def mn_X6 : List (Nat × Nat) := []
def oi_X6 : List (Nat × Nat) := [(5, 0)]
def al_X7 : List (Nat × Nat) := [(21, 14)]
def nw_X7 : List (Nat × Nat) := []
def mn_X7 : List (Nat × Nat) := [(16, 0)]
def oi_X7 : List (Nat × Nat) := [(1, 0)]
def al_X8 : List (Nat × Nat) := []
def nw_X8 : List (Nat × Nat) := []
def mn_X8 : List (Nat × Nat) := []
def oi_X8 : List (Nat × Nat) := [(3, 0)]
def al_X9 : List (Nat × Nat) := [(98, 14)]
def nw_X9 : List (Nat × Nat) := []
def mn_X9 : List (Nat × Nat) := [(29, 0)]
def oi_X9 : List (Nat × Nat) := [(5, 0)]
def al_X10 : List (Nat × Nat) := [(9, 5), (25, 3), (34, 0), (45, 8), (52, 9), (61, 1), (70, 2), (82, 6), (91, 7), (18, 4)]
def nw_X10 : List (Nat × Nat) := [(7, 5), (16, 4), (23, 3), (32, 0), (41, 8), (43, 9), (59, 1), (68, 2), (77, 6), (89, 7)]
def mn_X10 : List (Nat × Nat) := []
def oi_X10 : List (Nat × Nat) := [(1, 0)]
def al_X11 : List (Nat × Nat) := [(170, 13)]
def nw_X11 : List (Nat × Nat) := []
def mn_X11 : List (Nat × Nat) := []
def oi_X11 : List (Nat × Nat) := [(1, 0)]
def al_J0 : List (Nat × Nat) := []
def nw_J0 : List (Nat × Nat) := []
def mn_J0 : List (Nat × Nat) := []
def oi_J0 : List (Nat × Nat) := []
def al_J1 : List (Nat × Nat) := []
def nw_J1 : List (Nat × Nat) := []
def mn_J1 : List (Nat × Nat) := []
def oi_J1 : List (Nat × Nat) := []
def al_J3 : List (Nat × Nat) := []
def nw_J3 : List (Nat × Nat) := []
def mn_J3 : List (Nat × Nat) := []
def oi_J3 : List (Nat × Nat) := []
def al_J6 : List (Nat × Nat) := []
def nw_J6 : List (Nat × Nat) := []
def mn_J6 : List (Nat × Nat) := []
def oi_J6 : List (Nat × Nat) := []
def al_J7 : List (Nat × Nat) := []
def nw_J7 : List (Nat × Nat) := []
def mn_J7 : List (Nat × Nat) := []
def oi_J7 : List (Nat × Nat) := []
def al_J9 : List (Nat × Nat) := []
def nw_J9 : List (Nat × Nat) := []
def mn_J9 : List (Nat × Nat) := []
def oi_J9 : List (Nat × Nat) := []
def al_L : List (Nat × Nat) := [(9, 10), (12, 11)]
def nw_L : List (Nat × Nat) := [(7, 10), (10, 11)]
def mn_L : List (Nat × Nat) := []
def oi_L : List (Nat × Nat) := []
def alC (c : Nat) : List (Nat × Nat) := (cond (Nat.ble c 9) (cond (Nat.ble c 4) (cond (Nat.ble c 2) (cond (Nat.ble c 1) (cond (Nat.ble c 0) al_X0 al_X1) al_X2) (cond (Nat.ble c 3) al_X3 al_X4)) (cond (Nat.ble c 7) (cond (Nat.ble c 6) (cond (Nat.ble c 5) al_X5 al_X6) al_X7) (cond (Nat.ble c 8) al_X8 al_X9))) (cond (Nat.ble c 14) (cond (Nat.ble c 12) (cond (Nat.ble c 11) (cond (Nat.ble c 10) al_X10 al_X11) al_J0) (cond (Nat.ble c 13) al_J1 al_J3)) (cond (Nat.ble c 16) (cond (Nat.ble c 15) al_J6 al_J7) (cond (Nat.ble c 17) al_J9 al_L))))
def nwC (c : Nat) : List (Nat × Nat) := (cond (Nat.ble c 9) (cond (Nat.ble c 4) (cond (Nat.ble c 2) (cond (Nat.ble c 1) (cond (Nat.ble c 0) nw_X0 nw_X1) nw_X2) (cond (Nat.ble c 3) nw_X3 nw_X4)) (cond (Nat.ble c 7) (cond (Nat.ble c 6) (cond (Nat.ble c 5) nw_X5 nw_X6) nw_X7) (cond (Nat.ble c 8) nw_X8 nw_X9))) (cond (Nat.ble c 14) (cond (Nat.ble c 12) (cond (Nat.ble c 11) (cond (Nat.ble c 10) nw_X10 nw_X11) nw_J0) (cond (Nat.ble c 13) nw_J1 nw_J3)) (cond (Nat.ble c 16) (cond (Nat.ble c 15) nw_J6 nw_J7) (cond (Nat.ble c 17) nw_J9 nw_L))))
def mnC (c : Nat) : List (Nat × Nat) := (cond (Nat.ble c 9) (cond (Nat.ble c 4) (cond (Nat.ble c 2) (cond (Nat.ble c 1) (cond (Nat.ble c 0) mn_X0 mn_X1) mn_X2) (cond (Nat.ble c 3) mn_X3 mn_X4)) (cond (Nat.ble c 7) (cond (Nat.ble c 6) (cond (Nat.ble c 5) mn_X5 mn_X6) mn_X7) (cond (Nat.ble c 8) mn_X8 mn_X9))) (cond (Nat.ble c 14) (cond (Nat.ble c 12) (cond (Nat.ble c 11) (cond (Nat.ble c 10) mn_X10 mn_X11) mn_J0) (cond (Nat.ble c 13) mn_J1 mn_J3)) (cond (Nat.ble c 16) (cond (Nat.ble c 15) mn_J6 mn_J7) (cond (Nat.ble c 17) mn_J9 mn_L))))
def oiC (c : Nat) : List (Nat × Nat) := (cond (Nat.ble c 9) (cond (Nat.ble c 4) (cond (Nat.ble c 2) (cond (Nat.ble c 1) (cond (Nat.ble c 0) oi_X0 oi_X1) oi_X2) (cond (Nat.ble c 3) oi_X3 oi_X4)) (cond (Nat.ble c 7) (cond (Nat.ble c 6) (cond (Nat.ble c 5) oi_X5 oi_X6) oi_X7) (cond (Nat.ble c 8) oi_X8 oi_X9))) (cond (Nat.ble c 14) (cond (Nat.ble c 12) (cond (Nat.ble c 11) (cond (Nat.ble c 10) oi_X10 oi_X11) oi_J0) (cond (Nat.ble c 13) oi_J1 oi_J3)) (cond (Nat.ble c 16) (cond (Nat.ble c 15) oi_J6 oi_J7) (cond (Nat.ble c 17) oi_J9 oi_L))))
def aD (ci : Nat) : List (Option Nat ⊕ Int32) := (cond (Nat.ble ci 5) (cond (Nat.ble ci 2) (cond (Nat.ble ci 1) (cond (Nat.ble ci 0) [.inl none, .inr 0, .inr 0, .inl none, .inl none, .inl none, .inl none, .inl none, .inl none, .inl none] [.inl none, .inl none, .inl none, .inr 0, .inl none, .inl none, .inl none, .inl none, .inl none]) [.inl none, .inl none, .inl none, .inr 0, .inl none, .inl none, .inl none, .inl none, .inl none, .inl none, .inl none, .inl none, .inl none, .inr 0, .inl none, .inl none, .inl none, .inl none, .inr 0, .inr 0]) (cond (Nat.ble ci 4) (cond (Nat.ble ci 3) [.inl none, .inr 0, .inr 0, .inl none, .inl none, .inr 0, .inl none, .inl none, .inl none, .inl none, .inl none, .inl none, .inl none] [.inl none, .inl none, .inr 0, .inr 0, .inr 0, .inr 0, .inr 0, .inr 0, .inr 0, .inr 0]) [.inl none, .inl none, .inr 0])) (cond (Nat.ble ci 8) (cond (Nat.ble ci 7) (cond (Nat.ble ci 6) [.inl none, .inl none, .inr 0, .inl none, .inl none, .inl none, .inl none, .inr 0, .inr 0] [.inl none, .inl none, .inl none]) [.inl none, .inl none, .inl none, .inr 0]) (cond (Nat.ble ci 10) (cond (Nat.ble ci 9) [.inl none, .inl none, .inl none, .inl none, .inl none, .inl none, .inl none, .inl none, .inl none, .inl none, .inl none, .inr 0, .inr 0, .inr 0, .inr 0] [.inl none, .inl none, .inl none, .inl none, .inl none, .inl none, .inl none, .inl none, .inl none, .inl none, .inl none]) [.inr 0, .inl none, .inl none, .inr 0, .inl none, .inl none, .inl none, .inl none, .inl none, .inl none, .inr 0, .inr 0, .inl none, .inl none, .inl none, .inr 0, .inl none, .inr 0, .inl none, .inl none, .inr 0, .inr 0, .inr 0, .inr 0, .inr 0, .inr 0, .inr 0, .inr 0, .inl none, .inl none, .inl none, .inl none, .inl none, .inl none, .inl none, .inr 0, .inr 0, .inl none, .inl none, .inl none, .inl none, .inr 0, .inl none, .inl none, .inl none, .inl none, .inl none, .inl none, .inl none, .inr 0, .inl none, .inl none, .inl none, .inl none, .inl none, .inl none, .inr 0, .inl none, .inl none, .inl none, .inr 0, .inl none, .inl none, .inl none, .inl none, .inl none, .inl none, .inr 0, .inl none, .inl none, .inl none, .inl none, .inl none, .inl none])))
def tyA (ci : Nat) : Nat → FieldType := (cond (Nat.ble ci 5) (cond (Nat.ble ci 2) (cond (Nat.ble ci 1) (cond (Nat.ble ci 0) tyX0 tyX1) tyX2) (cond (Nat.ble ci 4) (cond (Nat.ble ci 3) tyX3 tyX4) tyX5)) (cond (Nat.ble ci 8) (cond (Nat.ble ci 7) (cond (Nat.ble ci 6) tyX6 tyX7) tyX8) (cond (Nat.ble ci 10) (cond (Nat.ble ci 9) tyX9 tyX10) tyX11)))
theorem adc_X0_init : mDec ar_X0_init := kd_X0_init
theorem adc_X1_init : mDec ar_X1_init := kd_X1_init
theorem adc_X2_init : mDec ar_X2_init := kd_X2_init
theorem adc_X3_init : mDec ar_X3_init := kd_X3_init
theorem adc_X4_init : mDec ar_X4_init := kd_X4_init
theorem adc_X5_init : mDec ar_X5_init := kd_X5_init
theorem adc_X6_init : mDec ar_X6_init := kd_X6_init
theorem adc_X7_init : mDec ar_X7_init := kd_X7_init
theorem adc_X8_init : mDec ar_X8_init := kd_X8_init
theorem adc_X9_init : mDec ar_X9_init := kd_X9_init
theorem adc_X10_init : mDec ar_X10_init := kd_X10_init
theorem adc_X11_init : mDec ar_X11_init := kd_X11_init
theorem adc_X5_setAtFirst : mDec ar_X5_setAtFirst := kd_X5_setAtFirst
theorem adc_X11_firstRules : mDec ar_X11_firstRules := kd_X11_firstRules
theorem adc_J7_fill_53178 : mDec ar_J7_fill_53178 := kd_J7_fill_53178
theorem aI_dec (κ : Nat) : mDec (aI κ) := (cP (cP (cP (cP adc_X0_init adc_X1_init _) (cP adc_X2_init adc_X3_init _) _) (cP (cP adc_X4_init adc_X5_init _) (cP adc_X6_init adc_X7_init _) _) _) (cP (cP (cP adc_X8_init adc_X9_init _) (cP adc_X10_init adc_X11_init _) _) (cP (cP adc_X5_setAtFirst adc_X11_firstRules _) adc_J7_fill_53178 _) _) _)
def aOKr (κ : Nat) : Prop := Cond.code (aNm κ) (aBy κ) (aMx κ) none ∈ wF ∧ plainName (aNm κ).cls = true ∧ Cond.initialized (aNm κ).cls ∈ wF ∧ (aNm κ).cls = cN (aCl κ) ∧ ((aNm κ).cls ≠ "java/lang/invoke/MethodHandle" ∧ (aNm κ).cls ≠ "java/lang/invoke/VarHandle") ∧ aCl κ < 19 ∧
  (aSa κ = true → Cond.static (aNm κ) ∈ wF ∧ (parseMethodDescriptor (aNm κ).desc).map (fun d => d.parameters.length) = some (aAr κ)) ∧
  (aSa κ = false → Cond.instanceMethod (aNm κ) ∈ wF ∧ (parseMethodDescriptor (aNm κ).desc).map (fun d => d.parameters.length + 1) = some (aAr κ)) ∧
  (aIn κ = true → (aNm κ).name = "<init>") ∧ (aIn κ = false → aSa κ = false → Cond.selects (aNm κ).cls (aNm κ) (aNm κ) ∈ wF)
set_option maxRecDepth 20000 in
theorem ao_X0_init : aOKr 0 := ⟨wt1 179 rfl rfl, by decide +kernel, wt1 6 rfl rfl, rfl, by decide +kernel, by decide, fun h => absurd h (by decide), fun _ => ⟨wt1 178 rfl rfl, by decide +kernel⟩, fun _ => rfl, fun h => absurd h (by decide)⟩
set_option maxRecDepth 20000 in
theorem ao_X1_init : aOKr 1 := ⟨wt2 83 rfl rfl, by decide +kernel, wt1 10 rfl rfl, rfl, by decide +kernel, by decide, fun h => absurd h (by decide), fun _ => ⟨wt2 82 rfl rfl, by decide +kernel⟩, fun _ => rfl, fun h => absurd h (by decide)⟩
set_option maxRecDepth 20000 in
theorem ao_X2_init : aOKr 2 := ⟨wt2 127 rfl rfl, by decide +kernel, wt1 11 rfl rfl, rfl, by decide +kernel, by decide, fun h => absurd h (by decide), fun _ => ⟨wt2 126 rfl rfl, by decide +kernel⟩, fun _ => rfl, fun h => absurd h (by decide)⟩
set_option maxRecDepth 20000 in
theorem ao_X3_init : aOKr 3 := ⟨wt1 110 rfl rfl, by decide +kernel, wt1 5 rfl rfl, rfl, by decide +kernel, by decide, fun h => absurd h (by decide), fun _ => ⟨wt1 109 rfl rfl, by decide +kernel⟩, fun _ => rfl, fun h => absurd h (by decide)⟩
set_option maxRecDepth 20000 in
theorem ao_X4_init : aOKr 4 := ⟨wt1 69 rfl rfl, by decide +kernel, wt1 4 rfl rfl, rfl, by decide +kernel, by decide, fun h => absurd h (by decide), fun _ => ⟨wt1 68 rfl rfl, by decide +kernel⟩, fun _ => rfl, fun h => absurd h (by decide)⟩
set_option maxRecDepth 20000 in
theorem ao_X5_init : aOKr 5 := ⟨wt1 33 rfl rfl, by decide +kernel, wt1 2 rfl rfl, rfl, by decide +kernel, by decide, fun h => absurd h (by decide), fun _ => ⟨wt1 32 rfl rfl, by decide +kernel⟩, fun _ => rfl, fun h => absurd h (by decide)⟩
set_option maxRecDepth 20000 in
theorem ao_X6_init : aOKr 6 := ⟨wt2 197 rfl rfl, by decide +kernel, wt1 12 rfl rfl, rfl, by decide +kernel, by decide, fun h => absurd h (by decide), fun _ => ⟨wt2 196 rfl rfl, by decide +kernel⟩, fun _ => rfl, fun h => absurd h (by decide)⟩
set_option maxRecDepth 20000 in
theorem ao_X7_init : aOKr 7 := ⟨wt2 233 rfl rfl, by decide +kernel, wt1 13 rfl rfl, rfl, by decide +kernel, by decide, fun h => absurd h (by decide), fun _ => ⟨wt2 232 rfl rfl, by decide +kernel⟩, fun _ => rfl, fun h => absurd h (by decide)⟩
set_option maxRecDepth 20000 in
theorem ao_X8_init : aOKr 8 := ⟨wt1 234 rfl rfl, by decide +kernel, wt1 7 rfl rfl, rfl, by decide +kernel, by decide, fun h => absurd h (by decide), fun _ => ⟨wt1 233 rfl rfl, by decide +kernel⟩, fun _ => rfl, fun h => absurd h (by decide)⟩
set_option maxRecDepth 20000 in
theorem ao_X9_init : aOKr 9 := ⟨wt2 26 rfl rfl, by decide +kernel, wt1 9 rfl rfl, rfl, by decide +kernel, by decide, fun h => absurd h (by decide), fun _ => ⟨wt2 25 rfl rfl, by decide +kernel⟩, fun _ => rfl, fun h => absurd h (by decide)⟩
set_option maxRecDepth 20000 in
theorem ao_X10_init : aOKr 10 := ⟨wt1 25 rfl rfl, by decide +kernel, wt1 1 rfl rfl, rfl, by decide +kernel, by decide, fun h => absurd h (by decide), fun _ => ⟨wt1 24 rfl rfl, by decide +kernel⟩, fun _ => rfl, fun h => absurd h (by decide)⟩
set_option maxRecDepth 20000 in
theorem ao_X11_init : aOKr 11 := ⟨wt6 38 rfl rfl, by decide +kernel, wt1 15 rfl rfl, rfl, by decide +kernel, by decide, fun h => absurd h (by decide), fun _ => ⟨wt6 37 rfl rfl, by decide +kernel⟩, fun _ => rfl, fun h => absurd h (by decide)⟩
set_option maxRecDepth 20000 in
theorem ao_X5_setAtFirst : aOKr 12 := ⟨wt1 40 rfl rfl, by decide +kernel, wt1 2 rfl rfl, rfl, by decide +kernel, by decide, fun h => absurd h (by decide), fun _ => ⟨wt1 38 rfl rfl, by decide +kernel⟩, fun h => absurd h (by decide), fun _ _ => wt1 39 rfl rfl⟩
set_option maxRecDepth 20000 in
theorem ao_X11_firstRules : aOKr 13 := ⟨wt6 43 rfl rfl, by decide +kernel, wt1 15 rfl rfl, rfl, by decide +kernel, by decide, fun h => absurd h (by decide), fun _ => ⟨wt6 42 rfl rfl, by decide +kernel⟩, fun h => absurd h (by decide), fun _ _ => wq3 7 74 rfl⟩
set_option maxRecDepth 20000 in
theorem ao_J7_fill_53178 : aOKr 14 := ⟨wt2 238 rfl rfl, by decide +kernel, wt1 14 rfl rfl, rfl, by decide +kernel, by decide, fun _ => ⟨wt2 237 rfl rfl, by decide +kernel⟩, fun h => absurd h (by decide), fun h => absurd h (by decide), fun _ h => absurd h (by decide)⟩
theorem aI_ok (κ : Nat) (h : κ < 15) : aOKr κ := by
  match κ, h with
  | 0, _ => exact ao_X0_init
  | 1, _ => exact ao_X1_init
  | 2, _ => exact ao_X2_init
  | 3, _ => exact ao_X3_init
  | 4, _ => exact ao_X4_init
  | 5, _ => exact ao_X5_init
  | 6, _ => exact ao_X6_init
  | 7, _ => exact ao_X7_init
  | 8, _ => exact ao_X8_init
  | 9, _ => exact ao_X9_init
  | 10, _ => exact ao_X10_init
  | 11, _ => exact ao_X11_init
  | 12, _ => exact ao_X5_setAtFirst
  | 13, _ => exact ao_X11_firstRules
  | 14, _ => exact ao_J7_fill_53178
  | n + 15, h => exact absurd h (by omega)
def alOK (c : Nat) (q : Nat × Nat) : Prop := q.2 < 15 ∧ (Cond.methodLink (cN c) q.1 (aNm q.2) ∈ wF ∨ (c = 10 ∧ q.1 = 18 ∧ q.2 = 4))
def nwOK (c : Nat) (q : Nat × Nat) : Prop := Cond.classLink (cN c) q.1 (cN q.2) ∈ wF ∧ Cond.instantiable (cN q.2) (aD q.2).length ∈ wF ∧ Cond.initialized (cN q.2) ∈ wF ∧ q.2 < 12
def mnOK (c : Nat) (q : Nat × Nat) : Prop := Cond.classLink (cN c) q.1 "[[I" ∈ wF
def oiOK (c : Nat) (q : Nat × Nat) : Prop := Cond.methodLink (cN c) q.1 objectInit ∈ wF
set_option maxRecDepth 20000 in
theorem alo_X0 : ∀ q ∈ al_X0, alOK 0 q := memn
set_option maxRecDepth 20000 in
theorem nwo_X0 : ∀ q ∈ nw_X0, nwOK 0 q := memn
set_option maxRecDepth 20000 in
theorem mno_X0 : ∀ q ∈ mn_X0, mnOK 0 q := memn
set_option maxRecDepth 20000 in
theorem oio_X0 : ∀ q ∈ oi_X0, oiOK 0 q := memc (wt1 180 rfl rfl) (memn)
set_option maxRecDepth 20000 in
theorem alo_X1 : ∀ q ∈ al_X1, alOK 1 q := memn
set_option maxRecDepth 20000 in
theorem nwo_X1 : ∀ q ∈ nw_X1, nwOK 1 q := memn
set_option maxRecDepth 20000 in
theorem mno_X1 : ∀ q ∈ mn_X1, mnOK 1 q := memn
set_option maxRecDepth 20000 in
theorem oio_X1 : ∀ q ∈ oi_X1, oiOK 1 q := memc (wt2 84 rfl rfl) (memn)
set_option maxRecDepth 20000 in
theorem alo_X2 : ∀ q ∈ al_X2, alOK 2 q := memc (⟨by decide, Or.inl (wt5 110 rfl rfl)⟩) (memn)
set_option maxRecDepth 20000 in
theorem nwo_X2 : ∀ q ∈ nw_X2, nwOK 2 q := memn
set_option maxRecDepth 20000 in
theorem mno_X2 : ∀ q ∈ mn_X2, mnOK 2 q := memc (wt2 129 rfl rfl) (memn)
set_option maxRecDepth 20000 in
theorem oio_X2 : ∀ q ∈ oi_X2, oiOK 2 q := memc (wt2 128 rfl rfl) (memn)
set_option maxRecDepth 20000 in
theorem alo_X3 : ∀ q ∈ al_X3, alOK 3 q := memn
set_option maxRecDepth 20000 in
theorem nwo_X3 : ∀ q ∈ nw_X3, nwOK 3 q := memn
set_option maxRecDepth 20000 in
theorem mno_X3 : ∀ q ∈ mn_X3, mnOK 3 q := memn
set_option maxRecDepth 20000 in
theorem oio_X3 : ∀ q ∈ oi_X3, oiOK 3 q := memc (wt1 111 rfl rfl) (memn)
set_option maxRecDepth 20000 in
theorem alo_X4 : ∀ q ∈ al_X4, alOK 4 q := memc (⟨by decide, Or.inl (wt1 72 rfl rfl)⟩) (memc (⟨by decide, Or.inl (wt3 198 rfl rfl)⟩) (memn))
set_option maxRecDepth 20000 in
theorem nwo_X4 : ∀ q ∈ nw_X4, nwOK 4 q := memc (⟨wt1 71 rfl rfl, wt1 30 rfl rfl, wt1 2 rfl rfl, by decide⟩) (memn)
set_option maxRecDepth 20000 in
theorem mno_X4 : ∀ q ∈ mn_X4, mnOK 4 q := memn
set_option maxRecDepth 20000 in
theorem oio_X4 : ∀ q ∈ oi_X4, oiOK 4 q := memc (wt1 70 rfl rfl) (memn)
set_option maxRecDepth 20000 in
theorem alo_X5 : ∀ q ∈ al_X5, alOK 5 q := memc (⟨by decide, Or.inl (wt1 37 rfl rfl)⟩) (memn)
set_option maxRecDepth 20000 in
theorem nwo_X5 : ∀ q ∈ nw_X5, nwOK 5 q := memn
set_option maxRecDepth 20000 in
theorem mno_X5 : ∀ q ∈ mn_X5, mnOK 5 q := memc (wt1 35 rfl rfl) (memn)
set_option maxRecDepth 20000 in
theorem oio_X5 : ∀ q ∈ oi_X5, oiOK 5 q := memc (wt1 34 rfl rfl) (memn)
set_option maxRecDepth 20000 in
theorem alo_X6 : ∀ q ∈ al_X6, alOK 6 q := memc (⟨by decide, Or.inl (wt5 207 rfl rfl)⟩) (memn)
set_option maxRecDepth 20000 in
theorem nwo_X6 : ∀ q ∈ nw_X6, nwOK 6 q := memn
set_option maxRecDepth 20000 in
theorem mno_X6 : ∀ q ∈ mn_X6, mnOK 6 q := memn
set_option maxRecDepth 20000 in
theorem oio_X6 : ∀ q ∈ oi_X6, oiOK 6 q := memc (wt2 198 rfl rfl) (memn)
set_option maxRecDepth 20000 in
theorem alo_X7 : ∀ q ∈ al_X7, alOK 7 q := memc (⟨by decide, Or.inl (wt2 236 rfl rfl)⟩) (memn)
set_option maxRecDepth 20000 in
theorem nwo_X7 : ∀ q ∈ nw_X7, nwOK 7 q := memn
set_option maxRecDepth 20000 in
theorem mno_X7 : ∀ q ∈ mn_X7, mnOK 7 q := memc (wt2 235 rfl rfl) (memn)
set_option maxRecDepth 20000 in
theorem oio_X7 : ∀ q ∈ oi_X7, oiOK 7 q := memc (wt2 234 rfl rfl) (memn)
set_option maxRecDepth 20000 in
theorem alo_X8 : ∀ q ∈ al_X8, alOK 8 q := memn
set_option maxRecDepth 20000 in
theorem nwo_X8 : ∀ q ∈ nw_X8, nwOK 8 q := memn
set_option maxRecDepth 20000 in
theorem mno_X8 : ∀ q ∈ mn_X8, mnOK 8 q := memn
set_option maxRecDepth 20000 in
theorem oio_X8 : ∀ q ∈ oi_X8, oiOK 8 q := memc (wt1 235 rfl rfl) (memn)
set_option maxRecDepth 20000 in
theorem alo_X9 : ∀ q ∈ al_X9, alOK 9 q := memc (⟨by decide, Or.inl (wt3 135 rfl rfl)⟩) (memn)
set_option maxRecDepth 20000 in
theorem nwo_X9 : ∀ q ∈ nw_X9, nwOK 9 q := memn
set_option maxRecDepth 20000 in
theorem mno_X9 : ∀ q ∈ mn_X9, mnOK 9 q := memc (wt2 28 rfl rfl) (memn)
set_option maxRecDepth 20000 in
theorem oio_X9 : ∀ q ∈ oi_X9, oiOK 9 q := memc (wt2 27 rfl rfl) (memn)
set_option maxRecDepth 20000 in
theorem alo_X10 : ∀ q ∈ al_X10, alOK 10 q := memc (⟨by decide, Or.inl (wt1 31 rfl rfl)⟩) (memc (⟨by decide, Or.inl (wt1 108 rfl rfl)⟩) (memc (⟨by decide, Or.inl (wt1 177 rfl rfl)⟩) (memc (⟨by decide, Or.inl (wt1 232 rfl rfl)⟩) (memc (⟨by decide, Or.inl (wt2 24 rfl rfl)⟩) (memc (⟨by decide, Or.inl (wt2 81 rfl rfl)⟩) (memc (⟨by decide, Or.inl (wt2 125 rfl rfl)⟩) (memc (⟨by decide, Or.inl (wt2 195 rfl rfl)⟩) (memc (⟨by decide, Or.inl (wt2 231 rfl rfl)⟩) (memc (⟨by decide, Or.inr ⟨rfl, rfl, rfl⟩⟩) (memn))))))))))
set_option maxRecDepth 20000 in
theorem nwo_X10 : ∀ q ∈ nw_X10, nwOK 10 q := memc (⟨wt1 29 rfl rfl, wt1 30 rfl rfl, wt1 2 rfl rfl, by decide⟩) (memc (⟨wt1 65 rfl rfl, wt1 66 rfl rfl, wt1 4 rfl rfl, by decide⟩) (memc (⟨wt1 106 rfl rfl, wt1 107 rfl rfl, wt1 5 rfl rfl, by decide⟩) (memc (⟨wt1 175 rfl rfl, wt1 176 rfl rfl, wt1 6 rfl rfl, by decide⟩) (memc (⟨wt1 230 rfl rfl, wt1 231 rfl rfl, wt1 7 rfl rfl, by decide⟩) (memc (⟨wt2 22 rfl rfl, wt2 23 rfl rfl, wt1 9 rfl rfl, by decide⟩) (memc (⟨wt2 79 rfl rfl, wt2 80 rfl rfl, wt1 10 rfl rfl, by decide⟩) (memc (⟨wt2 123 rfl rfl, wt2 124 rfl rfl, wt1 11 rfl rfl, by decide⟩) (memc (⟨wt2 193 rfl rfl, wt2 194 rfl rfl, wt1 12 rfl rfl, by decide⟩) (memc (⟨wt2 229 rfl rfl, wt2 230 rfl rfl, wt1 13 rfl rfl, by decide⟩) (memn))))))))))
set_option maxRecDepth 20000 in
theorem mno_X10 : ∀ q ∈ mn_X10, mnOK 10 q := memn
set_option maxRecDepth 20000 in
theorem oio_X10 : ∀ q ∈ oi_X10, oiOK 10 q := memc (wt1 26 rfl rfl) (memn)
set_option maxRecDepth 20000 in
theorem alo_X11 : ∀ q ∈ al_X11, alOK 11 q := memc (⟨by decide, Or.inl (wt6 40 rfl rfl)⟩) (memn)
set_option maxRecDepth 20000 in
theorem nwo_X11 : ∀ q ∈ nw_X11, nwOK 11 q := memn
set_option maxRecDepth 20000 in
theorem mno_X11 : ∀ q ∈ mn_X11, mnOK 11 q := memn
set_option maxRecDepth 20000 in
theorem oio_X11 : ∀ q ∈ oi_X11, oiOK 11 q := memc (wt6 39 rfl rfl) (memn)
set_option maxRecDepth 20000 in
theorem alo_J0 : ∀ q ∈ al_J0, alOK 12 q := memn
set_option maxRecDepth 20000 in
theorem nwo_J0 : ∀ q ∈ nw_J0, nwOK 12 q := memn
set_option maxRecDepth 20000 in
theorem mno_J0 : ∀ q ∈ mn_J0, mnOK 12 q := memn
set_option maxRecDepth 20000 in
theorem oio_J0 : ∀ q ∈ oi_J0, oiOK 12 q := memn
set_option maxRecDepth 20000 in
theorem alo_J1 : ∀ q ∈ al_J1, alOK 13 q := memn
set_option maxRecDepth 20000 in
theorem nwo_J1 : ∀ q ∈ nw_J1, nwOK 13 q := memn
set_option maxRecDepth 20000 in
theorem mno_J1 : ∀ q ∈ mn_J1, mnOK 13 q := memn
set_option maxRecDepth 20000 in
theorem oio_J1 : ∀ q ∈ oi_J1, oiOK 13 q := memn
set_option maxRecDepth 20000 in
theorem alo_J3 : ∀ q ∈ al_J3, alOK 14 q := memn
set_option maxRecDepth 20000 in
theorem nwo_J3 : ∀ q ∈ nw_J3, nwOK 14 q := memn
set_option maxRecDepth 20000 in
theorem mno_J3 : ∀ q ∈ mn_J3, mnOK 14 q := memn
set_option maxRecDepth 20000 in
theorem oio_J3 : ∀ q ∈ oi_J3, oiOK 14 q := memn
set_option maxRecDepth 20000 in
theorem alo_J6 : ∀ q ∈ al_J6, alOK 15 q := memn
set_option maxRecDepth 20000 in
theorem nwo_J6 : ∀ q ∈ nw_J6, nwOK 15 q := memn
set_option maxRecDepth 20000 in
theorem mno_J6 : ∀ q ∈ mn_J6, mnOK 15 q := memn
set_option maxRecDepth 20000 in
theorem oio_J6 : ∀ q ∈ oi_J6, oiOK 15 q := memn
set_option maxRecDepth 20000 in
theorem alo_J7 : ∀ q ∈ al_J7, alOK 16 q := memn
set_option maxRecDepth 20000 in
theorem nwo_J7 : ∀ q ∈ nw_J7, nwOK 16 q := memn
set_option maxRecDepth 20000 in
theorem mno_J7 : ∀ q ∈ mn_J7, mnOK 16 q := memn
set_option maxRecDepth 20000 in
theorem oio_J7 : ∀ q ∈ oi_J7, oiOK 16 q := memn
set_option maxRecDepth 20000 in
theorem alo_J9 : ∀ q ∈ al_J9, alOK 17 q := memn
set_option maxRecDepth 20000 in
theorem nwo_J9 : ∀ q ∈ nw_J9, nwOK 17 q := memn
set_option maxRecDepth 20000 in
theorem mno_J9 : ∀ q ∈ mn_J9, mnOK 17 q := memn
set_option maxRecDepth 20000 in
theorem oio_J9 : ∀ q ∈ oi_J9, oiOK 17 q := memn
set_option maxRecDepth 20000 in
theorem alo_L : ∀ q ∈ al_L, alOK 18 q := memc (⟨by decide, Or.inl (wt1 23 rfl rfl)⟩) (memc (⟨by decide, Or.inl (wt6 36 rfl rfl)⟩) (memn))
set_option maxRecDepth 20000 in
theorem nwo_L : ∀ q ∈ nw_L, nwOK 18 q := memc (⟨wt1 21 rfl rfl, wt1 22 rfl rfl, wt1 1 rfl rfl, by decide⟩) (memc (⟨wt6 34 rfl rfl, wt6 35 rfl rfl, wt1 15 rfl rfl, by decide⟩) (memn))
set_option maxRecDepth 20000 in
theorem mno_L : ∀ q ∈ mn_L, mnOK 18 q := memn
set_option maxRecDepth 20000 in
theorem oio_L : ∀ q ∈ oi_L, oiOK 18 q := memn
theorem alC_ok (c : Nat) (hc : c < 19) : ∀ q ∈ alC c, alOK c q := by
  match c, hc with
  | 0, _ => exact alo_X0
  | 1, _ => exact alo_X1
  | 2, _ => exact alo_X2
  | 3, _ => exact alo_X3
  | 4, _ => exact alo_X4
  | 5, _ => exact alo_X5
  | 6, _ => exact alo_X6
  | 7, _ => exact alo_X7
  | 8, _ => exact alo_X8
  | 9, _ => exact alo_X9
  | 10, _ => exact alo_X10
  | 11, _ => exact alo_X11
  | 12, _ => exact alo_J0
  | 13, _ => exact alo_J1
  | 14, _ => exact alo_J3
  | 15, _ => exact alo_J6
  | 16, _ => exact alo_J7
  | 17, _ => exact alo_J9
  | 18, _ => exact alo_L
  | n + 19, h => exact absurd h (by omega)
theorem nwC_ok (c : Nat) (hc : c < 19) : ∀ q ∈ nwC c, nwOK c q := by
  match c, hc with
  | 0, _ => exact nwo_X0
  | 1, _ => exact nwo_X1
  | 2, _ => exact nwo_X2
  | 3, _ => exact nwo_X3
  | 4, _ => exact nwo_X4
  | 5, _ => exact nwo_X5
  | 6, _ => exact nwo_X6
  | 7, _ => exact nwo_X7
  | 8, _ => exact nwo_X8
  | 9, _ => exact nwo_X9
  | 10, _ => exact nwo_X10
  | 11, _ => exact nwo_X11
  | 12, _ => exact nwo_J0
  | 13, _ => exact nwo_J1
  | 14, _ => exact nwo_J3
  | 15, _ => exact nwo_J6
  | 16, _ => exact nwo_J7
  | 17, _ => exact nwo_J9
  | 18, _ => exact nwo_L
  | n + 19, h => exact absurd h (by omega)
theorem mnC_ok (c : Nat) (hc : c < 19) : ∀ q ∈ mnC c, mnOK c q := by
  match c, hc with
  | 0, _ => exact mno_X0
  | 1, _ => exact mno_X1
  | 2, _ => exact mno_X2
  | 3, _ => exact mno_X3
  | 4, _ => exact mno_X4
  | 5, _ => exact mno_X5
  | 6, _ => exact mno_X6
  | 7, _ => exact mno_X7
  | 8, _ => exact mno_X8
  | 9, _ => exact mno_X9
  | 10, _ => exact mno_X10
  | 11, _ => exact mno_X11
  | 12, _ => exact mno_J0
  | 13, _ => exact mno_J1
  | 14, _ => exact mno_J3
  | 15, _ => exact mno_J6
  | 16, _ => exact mno_J7
  | 17, _ => exact mno_J9
  | 18, _ => exact mno_L
  | n + 19, h => exact absurd h (by omega)
theorem oiC_ok (c : Nat) (hc : c < 19) : ∀ q ∈ oiC c, oiOK c q := by
  match c, hc with
  | 0, _ => exact oio_X0
  | 1, _ => exact oio_X1
  | 2, _ => exact oio_X2
  | 3, _ => exact oio_X3
  | 4, _ => exact oio_X4
  | 5, _ => exact oio_X5
  | 6, _ => exact oio_X6
  | 7, _ => exact oio_X7
  | 8, _ => exact oio_X8
  | 9, _ => exact oio_X9
  | 10, _ => exact oio_X10
  | 11, _ => exact oio_X11
  | 12, _ => exact oio_J0
  | 13, _ => exact oio_J1
  | 14, _ => exact oio_J3
  | 15, _ => exact oio_J6
  | 16, _ => exact oio_J7
  | 17, _ => exact oio_J9
  | 18, _ => exact oio_L
  | n + 19, h => exact absurd h (by omega)
set_option maxRecDepth 20000 in
theorem obw : Cond.instanceMethod objectInit ∈ wF ∧ Cond.code objectInit ⟨#[0xb1]⟩ 1 none ∈ wF := ⟨wt1 27 rfl rfl, wt1 28 rfl rfl⟩
set_option maxRecDepth 20000 in
theorem acI : Cond.arrayClass .int ∈ wF := wt1 64 rfl rfl
set_option maxRecDepth 20000 in
theorem acZ : Cond.arrayClass .boolean ∈ wF := wt7 27 rfl rfl
def clA (ci : Nat) : Prop := ∀ C T N, vwCl[ci]? = some (C, T, N) → (aD ci).length = N ∧ C = cN ci ∧ ((∀ k, k < N → parseFieldDescriptor (T k).2.2.1 = some (tyA ci k)) ∧ ∀ a, a < N → ∀ b, b < N → a ≠ b → (T a).2.1 ≠ (T b).2.1) ∧ T = Tv ci ∧ ∀ w ∈ u_ws C T N, w ∈ wF
theorem clA_0 : clA 0 := fun C T N h => by
  cases h
  exact ⟨rfl, rfl, ⟨tyX0_ok, nmX0⟩, rfl, ul_X0⟩
theorem clA_1 : clA 1 := fun C T N h => by
  cases h
  exact ⟨rfl, rfl, ⟨tyX1_ok, nmX1⟩, rfl, ul_X1⟩
theorem clA_2 : clA 2 := fun C T N h => by
  cases h
  exact ⟨rfl, rfl, ⟨tyX2_ok, nmX2⟩, rfl, ul_X2⟩
theorem clA_3 : clA 3 := fun C T N h => by
  cases h
  exact ⟨rfl, rfl, ⟨tyX3_ok, nmX3⟩, rfl, ul_X3⟩
theorem clA_4 : clA 4 := fun C T N h => by
  cases h
  exact ⟨rfl, rfl, ⟨tyX4_ok, nmX4⟩, rfl, ul_X4⟩
theorem clA_5 : clA 5 := fun C T N h => by
  cases h
  exact ⟨rfl, rfl, ⟨tyX5_ok, nmX5⟩, rfl, ul_X5⟩
theorem clA_6 : clA 6 := fun C T N h => by
  cases h
  exact ⟨rfl, rfl, ⟨tyX6_ok, nmX6⟩, rfl, ul_X6⟩
theorem clA_7 : clA 7 := fun C T N h => by
  cases h
  exact ⟨rfl, rfl, ⟨tyX7_ok, nmX7⟩, rfl, ul_X7⟩
theorem clA_8 : clA 8 := fun C T N h => by
  cases h
  exact ⟨rfl, rfl, ⟨tyX8_ok, nmX8⟩, rfl, ul_X8⟩
theorem clA_9 : clA 9 := fun C T N h => by
  cases h
  exact ⟨rfl, rfl, ⟨tyX9_ok, nmX9⟩, rfl, ul_X9⟩
theorem clA_10 : clA 10 := fun C T N h => by
  cases h
  exact ⟨rfl, rfl, ⟨tyX10_ok, nmX10⟩, rfl, ul_X10⟩
theorem clA_11 : clA 11 := fun C T N h => by
  cases h
  exact ⟨rfl, rfl, ⟨tyX11_ok, nmX11⟩, rfl, ul_X11⟩
theorem clA_ok (ci : Nat) (h : ci < 12) : clA ci := by
  match ci, h with
  | 0, _ => exact clA_0
  | 1, _ => exact clA_1
  | 2, _ => exact clA_2
  | 3, _ => exact clA_3
  | 4, _ => exact clA_4
  | 5, _ => exact clA_5
  | 6, _ => exact clA_6
  | 7, _ => exact clA_7
  | 8, _ => exact clA_8
  | 9, _ => exact clA_9
  | 10, _ => exact clA_10
  | 11, _ => exact clA_11
  | n + 12, h => exact absurd h (by omega)
def avD (f : Option Nat ⊕ Int32) : Value := match f with
  | .inl _ => .null
  | .inr x => .int x
theorem dfA_0 : (∀ j, j < (aD 0).length → defaultValue (tyA 0 j) = avD ((aD 0).getD j (.inl none))) ∧ (∀ f ∈ aD 0, f = .inl none ∨ f = .inr 0) := by decide +kernel
theorem dfA_1 : (∀ j, j < (aD 1).length → defaultValue (tyA 1 j) = avD ((aD 1).getD j (.inl none))) ∧ (∀ f ∈ aD 1, f = .inl none ∨ f = .inr 0) := by decide +kernel
theorem dfA_2 : (∀ j, j < (aD 2).length → defaultValue (tyA 2 j) = avD ((aD 2).getD j (.inl none))) ∧ (∀ f ∈ aD 2, f = .inl none ∨ f = .inr 0) := by decide +kernel
theorem dfA_3 : (∀ j, j < (aD 3).length → defaultValue (tyA 3 j) = avD ((aD 3).getD j (.inl none))) ∧ (∀ f ∈ aD 3, f = .inl none ∨ f = .inr 0) := by decide +kernel
theorem dfA_4 : (∀ j, j < (aD 4).length → defaultValue (tyA 4 j) = avD ((aD 4).getD j (.inl none))) ∧ (∀ f ∈ aD 4, f = .inl none ∨ f = .inr 0) := by decide +kernel
theorem dfA_5 : (∀ j, j < (aD 5).length → defaultValue (tyA 5 j) = avD ((aD 5).getD j (.inl none))) ∧ (∀ f ∈ aD 5, f = .inl none ∨ f = .inr 0) := by decide +kernel
theorem dfA_6 : (∀ j, j < (aD 6).length → defaultValue (tyA 6 j) = avD ((aD 6).getD j (.inl none))) ∧ (∀ f ∈ aD 6, f = .inl none ∨ f = .inr 0) := by decide +kernel
theorem dfA_7 : (∀ j, j < (aD 7).length → defaultValue (tyA 7 j) = avD ((aD 7).getD j (.inl none))) ∧ (∀ f ∈ aD 7, f = .inl none ∨ f = .inr 0) := by decide +kernel
theorem dfA_8 : (∀ j, j < (aD 8).length → defaultValue (tyA 8 j) = avD ((aD 8).getD j (.inl none))) ∧ (∀ f ∈ aD 8, f = .inl none ∨ f = .inr 0) := by decide +kernel
theorem dfA_9 : (∀ j, j < (aD 9).length → defaultValue (tyA 9 j) = avD ((aD 9).getD j (.inl none))) ∧ (∀ f ∈ aD 9, f = .inl none ∨ f = .inr 0) := by decide +kernel
theorem dfA_10 : (∀ j, j < (aD 10).length → defaultValue (tyA 10 j) = avD ((aD 10).getD j (.inl none))) ∧ (∀ f ∈ aD 10, f = .inl none ∨ f = .inr 0) := by decide +kernel
theorem dfA_11 : (∀ j, j < (aD 11).length → defaultValue (tyA 11 j) = avD ((aD 11).getD j (.inl none))) ∧ (∀ f ∈ aD 11, f = .inl none ∨ f = .inr 0) := by decide +kernel
theorem dfA_ok (ci : Nat) (h : ci < 12) : (∀ j, j < (aD ci).length → defaultValue (tyA ci j) = avD ((aD ci).getD j (.inl none))) ∧ (∀ f ∈ aD ci, f = .inl none ∨ f = .inr 0) := by
  match ci, h with
  | 0, _ => exact dfA_0
  | 1, _ => exact dfA_1
  | 2, _ => exact dfA_2
  | 3, _ => exact dfA_3
  | 4, _ => exact dfA_4
  | 5, _ => exact dfA_5
  | 6, _ => exact dfA_6
  | 7, _ => exact dfA_7
  | 8, _ => exact dfA_8
  | 9, _ => exact dfA_9
  | 10, _ => exact dfA_10
  | 11, _ => exact dfA_11
  | n + 12, h => exact absurd h (by omega)
theorem tvA_0 : ∀ k, k < (aD 0).length → (Tv 0 k).1 = cN 0 := by decide +kernel
theorem tvA_1 : ∀ k, k < (aD 1).length → (Tv 1 k).1 = cN 1 := by decide +kernel
theorem tvA_2 : ∀ k, k < (aD 2).length → (Tv 2 k).1 = cN 2 := by decide +kernel
theorem tvA_3 : ∀ k, k < (aD 3).length → (Tv 3 k).1 = cN 3 := by decide +kernel
theorem tvA_4 : ∀ k, k < (aD 4).length → (Tv 4 k).1 = cN 4 := by decide +kernel
theorem tvA_5 : ∀ k, k < (aD 5).length → (Tv 5 k).1 = cN 5 := by decide +kernel
theorem tvA_6 : ∀ k, k < (aD 6).length → (Tv 6 k).1 = cN 6 := by decide +kernel
theorem tvA_7 : ∀ k, k < (aD 7).length → (Tv 7 k).1 = cN 7 := by decide +kernel
theorem tvA_8 : ∀ k, k < (aD 8).length → (Tv 8 k).1 = cN 8 := by decide +kernel
theorem tvA_9 : ∀ k, k < (aD 9).length → (Tv 9 k).1 = cN 9 := by decide +kernel
theorem tvA_10 : ∀ k, k < (aD 10).length → (Tv 10 k).1 = cN 10 := by decide +kernel
theorem tvA_11 : ∀ k, k < (aD 11).length → (Tv 11 k).1 = cN 11 := by decide +kernel
theorem tvA_ok (ci : Nat) (h : ci < 12) : ∀ k, k < (aD ci).length → (Tv ci k).1 = cN ci := by
  match ci, h with
  | 0, _ => exact tvA_0
  | 1, _ => exact tvA_1
  | 2, _ => exact tvA_2
  | 3, _ => exact tvA_3
  | 4, _ => exact tvA_4
  | 5, _ => exact tvA_5
  | 6, _ => exact tvA_6
  | 7, _ => exact tvA_7
  | 8, _ => exact tvA_8
  | 9, _ => exact tvA_9
  | 10, _ => exact tvA_10
  | 11, _ => exact tvA_11
  | n + 12, h => exact absurd h (by omega)
