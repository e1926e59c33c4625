/-! ===== decoded instructions, the rest (written by wip/whole/gen/part54.py) ===== -/
def zt_14 : zk_T := [(0, .iload_n 0, 1), (1, .invokestatic 11, 3), (4, .newarray .byte, 2), (6, .areturn, 1)]
set_option maxRecDepth 100000 in
theorem zd_14 : ∀ q ∈ zt_14, pz_dq prog_29_method_2_code q.1 q.2.1 q.2.2 = true := List.all_eq_true.mp (show (zt_14.all fun q => pz_dq prog_29_method_2_code q.1 q.2.1 q.2.2) = true by decide +kernel)
set_option maxRecDepth 100000 in
theorem zc_14 : zk_V 14 zt_14 := zk_chk_ok (cb := prog_29_method_2_code) (by rfl) zd_14 (by decide +kernel) (by decide +kernel)
def zt_15 : zk_T := [(0, .iload_n 0, 1), (1, .ifCond .ge 11, 3), (4, .new 17, 3), (7, .dup, 1), (8, .invokespecial 19, 3), (11, .athrow, 1), (12, .iload_n 0, 1), (13, .ldc 20, 2), (15, .if_icmp .lt 40, 3), (18, .new 21, 3), (21, .dup, 1), (22, .new 23, 3), (25, .dup, 1), (26, .invokespecial 25, 3), (29, .ldc 26, 2), (31, .invokevirtual 28, 3), (34, .iload_n 0, 1), (35, .invokevirtual 32, 3), (38, .ldc 35, 2), (40, .invokevirtual 28, 3), (43, .ldc 20, 2), (45, .invokevirtual 32, 3), (48, .invokevirtual 37, 3), (51, .invokespecial 41, 3), (54, .athrow, 1), (55, .iload_n 0, 1), (56, .iconst 1, 1), (57, .ishl, 1), (58, .ireturn, 1)]
set_option maxRecDepth 100000 in
theorem zd_15 : ∀ q ∈ zt_15, pz_dq prog_29_method_3_code q.1 q.2.1 q.2.2 = true := List.all_eq_true.mp (show (zt_15.all fun q => pz_dq prog_29_method_3_code q.1 q.2.1 q.2.2) = true by decide +kernel)
set_option maxRecDepth 100000 in
theorem zc_15 : zk_V 15 zt_15 := zk_chk_ok (cb := prog_29_method_3_code) (by rfl) zd_15 (by decide +kernel) (by decide +kernel)
def zt_25 : zk_T := [(0, .aload_n 0, 1), (1, .getfield 24, 3), (4, .iload_n 1, 1), (5, .invokevirtual 86, 3), (8, .lookupswitch 222 #[(32, 100), (33, 150), (38, 162), (40, 198), (41, 210), (48, 104), (49, 115), (59, 126), (61, 138), (94, 186), (124, 174)], 100), (108, .iload_n 1, 1), (109, .iconst 1, 1), (110, .iadd, 1), (111, .ireturn, 1), (112, .aload_n 0, 1), (113, .getfield 24, 3), (116, .iconst 4, 1), (117, .iload_n 1, 1), (118, .iconst 1, 1), (119, .invokevirtual 89, 3), (122, .ireturn, 1), (123, .aload_n 0, 1), (124, .getfield 24, 3), (127, .iconst 5, 1), (128, .iload_n 1, 1), (129, .iconst 1, 1), (130, .invokevirtual 89, 3), (133, .ireturn, 1), (134, .aload_n 0, 1), (135, .getfield 24, 3), (138, .bipush 9, 2), (140, .iload_n 1, 1), (141, .iconst 1, 1), (142, .invokevirtual 89, 3), (145, .ireturn, 1), (146, .aload_n 0, 1), (147, .getfield 24, 3), (150, .bipush 37, 2), (152, .iload_n 1, 1), (153, .iconst 1, 1), (154, .invokevirtual 89, 3), (157, .ireturn, 1), (158, .aload_n 0, 1), (159, .getfield 24, 3), (162, .bipush 6, 2), (164, .iload_n 1, 1), (165, .iconst 1, 1), (166, .invokevirtual 89, 3), (169, .ireturn, 1), (170, .aload_n 0, 1), (171, .getfield 24, 3), (174, .bipush 7, 2), (176, .iload_n 1, 1), (177, .iconst 1, 1), (178, .invokevirtual 89, 3), (181, .ireturn, 1), (182, .aload_n 0, 1), (183, .getfield 24, 3), (186, .bipush 8, 2), (188, .iload_n 1, 1), (189, .iconst 1, 1), (190, .invokevirtual 89, 3), (193, .ireturn, 1), (194, .aload_n 0, 1), (195, .getfield 24, 3), (198, .bipush 38, 2), (200, .iload_n 1, 1), (201, .iconst 1, 1), (202, .invokevirtual 89, 3), (205, .ireturn, 1), (206, .aload_n 0, 1), (207, .getfield 24, 3), (210, .bipush 15, 2), (212, .iload_n 1, 1), (213, .iconst 1, 1), (214, .invokevirtual 89, 3), (217, .ireturn, 1), (218, .aload_n 0, 1), (219, .getfield 24, 3), (222, .bipush 16, 2), (224, .iload_n 1, 1), (225, .iconst 1, 1), (226, .invokevirtual 89, 3), (229, .ireturn, 1), (230, .aload_n 0, 1), (231, .getfield 24, 3), (234, .iload_n 1, 1), (235, .invokevirtual 93, 3), (238, .ifCond .eq 11, 3), (241, .aload_n 0, 1), (242, .iload_n 1, 1), (243, .invokevirtual 96, 3), (246, .goto 11, 3), (249, .aload_n 0, 1), (250, .getfield 24, 3), (253, .iload_n 1, 1), (254, .invokevirtual 99, 3), (257, .ireturn, 1)]
set_option maxRecDepth 100000 in
theorem zd_25_0 : (((zt_25.drop 0).take 50).all fun q => pz_dq prog_4_method_4_code q.1 q.2.1 q.2.2) = true := by decide +kernel
set_option maxRecDepth 100000 in
theorem zd_25_50 : (((zt_25.drop 50).take 50).all fun q => pz_dq prog_4_method_4_code q.1 q.2.1 q.2.2) = true := by decide +kernel
theorem zd_25 : ∀ q ∈ zt_25, pz_dq prog_4_method_4_code q.1 q.2.1 q.2.2 = true := by
  have h : ∀ q ∈ zt_25.drop 0, pz_dq prog_4_method_4_code q.1 q.2.1 q.2.2 = true := (pt_piece 0 50 (List.all_eq_true.mp zd_25_0) (pt_piece 50 50 (List.all_eq_true.mp zd_25_50) (fun r hr => by rw [List.drop_eq_nil_of_le (by decide +kernel)] at hr; cases hr)))
  exact h
set_option maxRecDepth 100000 in
theorem zc_25 : zk_V 25 zt_25 := zk_chk_ok (cb := prog_4_method_4_code) (by rfl) zd_25 (by decide +kernel) (by decide +kernel)
def zt_26 : zk_T := [(0, .iload_n 1, 1), (1, .ifCond .lt 20, 3), (4, .iload_n 1, 1), (5, .aload_n 0, 1), (6, .getfield 35, 3), (9, .if_icmp .ge 12, 3), (12, .aload_n 0, 1), (13, .getfield 9, 3), (16, .iload_n 1, 1), (17, .iaload, 1), (18, .goto 4, 3), (21, .iconst 0, 1), (22, .ireturn, 1)]
set_option maxRecDepth 100000 in
theorem zd_26 : ∀ q ∈ zt_26, pz_dq prog_11_method_5_code q.1 q.2.1 q.2.2 = true := List.all_eq_true.mp (show (zt_26.all fun q => pz_dq prog_11_method_5_code q.1 q.2.1 q.2.2) = true by decide +kernel)
set_option maxRecDepth 100000 in
theorem zc_26 : zk_V 26 zt_26 := zk_chk_ok (cb := prog_11_method_5_code) (by rfl) zd_26 (by decide +kernel) (by decide +kernel)
def zt_29 : zk_T := [(0, .aload_n 0, 1), (1, .iload_n 1, 1), (2, .invokevirtual 38, 3), (5, .bipush 97, 2), (7, .if_icmp .lt 17, 3), (10, .aload_n 0, 1), (11, .iload_n 1, 1), (12, .invokevirtual 38, 3), (15, .bipush 122, 2), (17, .if_icmp .gt 7, 3), (20, .iconst 1, 1), (21, .goto 4, 3), (24, .iconst 0, 1), (25, .ireturn, 1)]
set_option maxRecDepth 100000 in
theorem zd_29 : ∀ q ∈ zt_29, pz_dq prog_11_method_7_code q.1 q.2.1 q.2.2 = true := List.all_eq_true.mp (show (zt_29.all fun q => pz_dq prog_11_method_7_code q.1 q.2.1 q.2.2) = true by decide +kernel)
set_option maxRecDepth 100000 in
theorem zc_29 : zk_V 29 zt_29 := zk_chk_ok (cb := prog_11_method_7_code) (by rfl) zd_29 (by decide +kernel) (by decide +kernel)
def zt_30 : zk_T := [(0, .aload_n 0, 1), (1, .getfield 24, 3), (4, .iload_n 1, 1), (5, .invokevirtual 102, 3), (8, .istore_n 2, 1), (9, .iload_n 2, 1), (10, .bipush 8, 2), (12, .if_icmp .le 12, 3), (15, .aload_n 0, 1), (16, .getfield 24, 3), (19, .iload_n 1, 1), (20, .invokevirtual 99, 3), (23, .ireturn, 1), (24, .aload_n 0, 1), (25, .getfield 24, 3), (28, .iload_n 1, 1), (29, .iload_n 2, 1), (30, .ldc 105, 2), (32, .invokevirtual 107, 3), (35, .ifCond .eq 15, 3), (38, .aload_n 0, 1), (39, .getfield 24, 3), (42, .bipush 33, 2), (44, .iload_n 1, 1), (45, .iload_n 2, 1), (46, .invokevirtual 89, 3), (49, .ireturn, 1), (50, .aload_n 0, 1), (51, .getfield 24, 3), (54, .iload_n 1, 1), (55, .iload_n 2, 1), (56, .ldc 111, 2), (58, .invokevirtual 107, 3), (61, .ifCond .eq 15, 3), (64, .aload_n 0, 1), (65, .getfield 24, 3), (68, .bipush 34, 2), (70, .iload_n 1, 1), (71, .iload_n 2, 1), (72, .invokevirtual 89, 3), (75, .ireturn, 1), (76, .aload_n 0, 1), (77, .getfield 24, 3), (80, .iload_n 1, 1), (81, .iload_n 2, 1), (82, .ldc 113, 2), (84, .invokevirtual 107, 3), (87, .ifCond .eq 15, 3), (90, .aload_n 0, 1), (91, .getfield 24, 3), (94, .bipush 35, 2), (96, .iload_n 1, 1), (97, .iload_n 2, 1), (98, .invokevirtual 89, 3), (101, .ireturn, 1), (102, .aload_n 0, 1), (103, .getfield 24, 3), (106, .iload_n 1, 1), (107, .iload_n 2, 1), (108, .ldc 115, 2), (110, .invokevirtual 107, 3), (113, .ifCond .eq 15, 3), (116, .aload_n 0, 1), (117, .getfield 24, 3), (120, .bipush 28, 2), (122, .iload_n 1, 1), (123, .iload_n 2, 1), (124, .invokevirtual 89, 3), (127, .ireturn, 1), (128, .aload_n 0, 1), (129, .getfield 24, 3), (132, .iload_n 1, 1), (133, .iload_n 2, 1), (134, .ldc 117, 2), (136, .invokevirtual 107, 3), (139, .ifCond .eq 15, 3), (142, .aload_n 0, 1), (143, .getfield 24, 3), (146, .bipush 36, 2), (148, .iload_n 1, 1), (149, .iload_n 2, 1), (150, .invokevirtual 89, 3), (153, .ireturn, 1), (154, .aload_n 0, 1), (155, .getfield 24, 3), (158, .iload_n 1, 1), (159, .iload_n 2, 1), (160, .invokevirtual 119, 3), (163, .ireturn, 1)]
set_option maxRecDepth 100000 in
theorem zd_30 : ∀ q ∈ zt_30, pz_dq prog_4_method_5_code q.1 q.2.1 q.2.2 = true := List.all_eq_true.mp (show (zt_30.all fun q => pz_dq prog_4_method_5_code q.1 q.2.1 q.2.2) = true by decide +kernel)
set_option maxRecDepth 100000 in
theorem zc_30 : zk_V 30 zt_30 := zk_chk_ok (cb := prog_4_method_5_code) (by rfl) zd_30 (by decide +kernel) (by decide +kernel)
def zt_31 : zk_T := [(0, .iconst 0, 1), (1, .istore_n 2, 1), (2, .iload_n 2, 1), (3, .sipush 400, 3), (6, .if_icmp .ge 19, 3), (9, .aload_n 0, 1), (10, .iload_n 1, 1), (11, .iload_n 2, 1), (12, .iadd, 1), (13, .invokevirtual 52, 3), (16, .ifCond .eq 9, 3), (19, .iinc 2 1, 3), (22, .goto (-20), 3), (25, .iload_n 2, 1), (26, .ireturn, 1)]
set_option maxRecDepth 100000 in
theorem zd_31 : ∀ q ∈ zt_31, pz_dq prog_11_method_9_code q.1 q.2.1 q.2.2 = true := List.all_eq_true.mp (show (zt_31.all fun q => pz_dq prog_11_method_9_code q.1 q.2.1 q.2.2) = true by decide +kernel)
set_option maxRecDepth 100000 in
theorem zc_31 : zk_V 31 zt_31 := zk_chk_ok (cb := prog_11_method_9_code) (by rfl) zd_31 (by decide +kernel) (by decide +kernel)
def zt_32 : zk_T := [(0, .aload_n 0, 1), (1, .iconst 1, 1), (2, .iload_n 1, 1), (3, .iconst 0, 1), (4, .iconst 0, 1), (5, .iconst 0, 1), (6, .invokevirtual 66, 3), (9, .pop, 1), (10, .aload_n 0, 1), (11, .getfield 35, 3), (14, .ireturn, 1)]
set_option maxRecDepth 100000 in
theorem zd_32 : ∀ q ∈ zt_32, pz_dq prog_11_method_15_code q.1 q.2.1 q.2.2 = true := List.all_eq_true.mp (show (zt_32.all fun q => pz_dq prog_11_method_15_code q.1 q.2.1 q.2.2) = true by decide +kernel)
set_option maxRecDepth 100000 in
theorem zc_32 : zk_V 32 zt_32 := zk_chk_ok (cb := prog_11_method_15_code) (by rfl) zd_32 (by decide +kernel) (by decide +kernel)
def zt_33 : zk_T := [(0, .iload_n 2, 1), (1, .aload_n 3, 1), (2, .invokevirtual 42, 3), (5, .if_icmp .ne 16, 3), (8, .aload_n 0, 1), (9, .iload_n 1, 1), (10, .aload_n 3, 1), (11, .invokevirtual 56, 3), (14, .ifCond .eq 7, 3), (17, .iconst 1, 1), (18, .goto 4, 3), (21, .iconst 0, 1), (22, .ireturn, 1)]
set_option maxRecDepth 100000 in
theorem zd_33 : ∀ q ∈ zt_33, pz_dq prog_11_method_10_code q.1 q.2.1 q.2.2 = true := List.all_eq_true.mp (show (zt_33.all fun q => pz_dq prog_11_method_10_code q.1 q.2.1 q.2.2) = true by decide +kernel)
set_option maxRecDepth 100000 in
theorem zc_33 : zk_V 33 zt_33 := zk_chk_ok (cb := prog_11_method_10_code) (by rfl) zd_33 (by decide +kernel) (by decide +kernel)
def zt_36 : zk_T := [(0, .iconst 0, 1), (1, .istore_n 3, 1), (2, .iload_n 3, 1), (3, .aload_n 2, 1), (4, .invokevirtual 42, 3), (7, .if_icmp .ge 26, 3), (10, .aload_n 0, 1), (11, .iload_n 1, 1), (12, .iload_n 3, 1), (13, .iadd, 1), (14, .invokevirtual 38, 3), (17, .aload_n 2, 1), (18, .iload_n 3, 1), (19, .invokevirtual 48, 3), (22, .if_icmp .eq 5, 3), (25, .iconst 0, 1), (26, .ireturn, 1), (27, .iinc 3 1, 3), (30, .goto (-28), 3), (33, .iconst 1, 1), (34, .ireturn, 1)]
set_option maxRecDepth 100000 in
theorem zd_36 : ∀ q ∈ zt_36, pz_dq prog_11_method_8_code q.1 q.2.1 q.2.2 = true := List.all_eq_true.mp (show (zt_36.all fun q => pz_dq prog_11_method_8_code q.1 q.2.1 q.2.2) = true by decide +kernel)
set_option maxRecDepth 100000 in
theorem zc_36 : zk_V 36 zt_36 := zk_chk_ok (cb := prog_11_method_8_code) (by rfl) zd_36 (by decide +kernel) (by decide +kernel)
def zt_37 : zk_T := [(0, .aload_n 0, 1), (1, .invokevirtual 492, 3), (4, .ifCond .eq 12, 3), (7, .aload_n 0, 1), (8, .getfield 9, 3), (11, .iload_n 1, 1), (12, .invokestatic 495, 3), (15, .ireturn, 1), (16, .aload_n 0, 1), (17, .getfield 9, 3), (20, .iload_n 1, 1), (21, .invokestatic 498, 3), (24, .ireturn, 1)]
set_option maxRecDepth 100000 in
theorem zd_37 : ∀ q ∈ zt_37, pz_dq prog_25_method_56_code q.1 q.2.1 q.2.2 = true := List.all_eq_true.mp (show (zt_37.all fun q => pz_dq prog_25_method_56_code q.1 q.2.1 q.2.2) = true by decide +kernel)
set_option maxRecDepth 100000 in
theorem zc_37 : zk_V 37 zt_37 := zk_chk_ok (cb := prog_25_method_56_code) (by rfl) zd_37 (by decide +kernel) (by decide +kernel)
def zt_38 : zk_T := [(0, .getstatic 38, 3), (3, .ifCond .eq 14, 3), (6, .aload_n 0, 1), (7, .getfield 15, 3), (10, .ifCond .ne 7, 3), (13, .iconst 1, 1), (14, .goto 4, 3), (17, .iconst 0, 1), (18, .ireturn, 1)]
set_option maxRecDepth 100000 in
theorem zd_38 : ∀ q ∈ zt_38, pz_dq prog_25_method_154_code q.1 q.2.1 q.2.2 = true := List.all_eq_true.mp (show (zt_38.all fun q => pz_dq prog_25_method_154_code q.1 q.2.1 q.2.2) = true by decide +kernel)
set_option maxRecDepth 100000 in
theorem zc_38 : zk_V 38 zt_38 := zk_chk_ok (cb := prog_25_method_154_code) (by rfl) zd_38 (by decide +kernel) (by decide +kernel)
def zt_39 : zk_T := [(0, .iload_n 1, 1), (1, .aload_n 0, 1), (2, .arraylength, 1), (3, .invokestatic 9, 3), (6, .aload_n 0, 1), (7, .iload_n 1, 1), (8, .baload, 1), (9, .sipush 255, 3), (12, .iand, 1), (13, .i2c, 1), (14, .ireturn, 1)]
set_option maxRecDepth 100000 in
theorem zd_39 : ∀ q ∈ zt_39, pz_dq prog_28_method_2_code q.1 q.2.1 q.2.2 = true := List.all_eq_true.mp (show (zt_39.all fun q => pz_dq prog_28_method_2_code q.1 q.2.1 q.2.2) = true by decide +kernel)
set_option maxRecDepth 100000 in
theorem zc_39 : zk_V 39 zt_39 := zk_chk_ok (cb := prog_28_method_2_code) (by rfl) zd_39 (by decide +kernel) (by decide +kernel)
def zt_42 : zk_T := [(0, .iload_n 1, 1), (1, .aload_n 0, 1), (2, .invokestatic 67, 3), (5, .aload_n 0, 1), (6, .iload_n 1, 1), (7, .invokestatic 71, 3), (10, .ireturn, 1)]
set_option maxRecDepth 100000 in
theorem zd_42 : ∀ q ∈ zt_42, pz_dq prog_29_method_83_code q.1 q.2.1 q.2.2 = true := List.all_eq_true.mp (show (zt_42.all fun q => pz_dq prog_29_method_83_code q.1 q.2.1 q.2.2) = true by decide +kernel)
set_option maxRecDepth 100000 in
theorem zc_42 : zk_V 42 zt_42 := zk_chk_ok (cb := prog_29_method_83_code) (by rfl) zd_42 (by decide +kernel) (by decide +kernel)
def zt_43 : zk_T := [(0, .iload_n 0, 1), (1, .aload_n 1, 1), (2, .invokestatic 48, 3), (5, .invokestatic 414, 3), (8, .return_, 1)]
set_option maxRecDepth 100000 in
theorem zd_43 : ∀ q ∈ zt_43, pz_dq prog_29_method_91_code q.1 q.2.1 q.2.2 = true := List.all_eq_true.mp (show (zt_43.all fun q => pz_dq prog_29_method_91_code q.1 q.2.1 q.2.2) = true by decide +kernel)
set_option maxRecDepth 100000 in
theorem zc_43 : zk_V 43 zt_43 := zk_chk_ok (cb := prog_29_method_91_code) (by rfl) zd_43 (by decide +kernel) (by decide +kernel)
def zt_44 : zk_T := [(0, .aload_n 0, 1), (1, .arraylength, 1), (2, .iconst 1, 1), (3, .ishr, 1), (4, .ireturn, 1)]
set_option maxRecDepth 100000 in
theorem zd_44 : ∀ q ∈ zt_44, pz_dq prog_29_method_6_code q.1 q.2.1 q.2.2 = true := List.all_eq_true.mp (show (zt_44.all fun q => pz_dq prog_29_method_6_code q.1 q.2.1 q.2.2) = true by decide +kernel)
set_option maxRecDepth 100000 in
theorem zc_44 : zk_V 44 zt_44 := zk_chk_ok (cb := prog_29_method_6_code) (by rfl) zd_44 (by decide +kernel) (by decide +kernel)
def zt_45 : zk_T := [(0, .getstatic 44, 3), (3, .ifCond .ne 25, 3), (6, .iload_n 1, 1), (7, .ifCond .lt 11, 3), (10, .iload_n 1, 1), (11, .aload_n 0, 1), (12, .invokestatic 48, 3), (15, .if_icmp .lt 13, 3), (18, .new 52, 3), (21, .dup, 1), (22, .ldc 54, 2), (24, .invokespecial 56, 3), (27, .athrow, 1), (28, .iload_n 1, 1), (29, .iconst 1, 1), (30, .ishl, 1), (31, .istore_n 1, 1), (32, .aload_n 0, 1), (33, .iload_n 1, 1), (34, .iinc 1 1, 3), (37, .baload, 1), (38, .sipush 255, 3), (41, .iand, 1), (42, .getstatic 59, 3), (45, .ishl, 1), (46, .aload_n 0, 1), (47, .iload_n 1, 1), (48, .baload, 1), (49, .sipush 255, 3), (52, .iand, 1), (53, .getstatic 63, 3), (56, .ishl, 1), (57, .ior, 1), (58, .i2c, 1), (59, .ireturn, 1)]
set_option maxRecDepth 100000 in
theorem zd_45 : ∀ q ∈ zt_45, pz_dq prog_29_method_5_code q.1 q.2.1 q.2.2 = true := List.all_eq_true.mp (show (zt_45.all fun q => pz_dq prog_29_method_5_code q.1 q.2.1 q.2.2) = true by decide +kernel)
set_option maxRecDepth 100000 in
theorem zc_45 : zk_V 45 zt_45 := zk_chk_ok (cb := prog_29_method_5_code) (by rfl) zd_45 (by decide +kernel) (by decide +kernel)
def zt_46 : zk_T := [(0, .aload_n 0, 1), (1, .bipush 32, 2), (3, .iload_n 1, 1), (4, .iload_n 2, 1), (5, .invokevirtual 70, 3), (8, .istore_n 3, 1), (9, .lconst 0, 1), (10, .lstore 4, 2), (12, .iconst 0, 1), (13, .istore 6, 2), (15, .iload 6, 2), (17, .iload_n 2, 1), (18, .if_icmp .ge 30, 3), (21, .lload 4, 2), (23, .iconst 5, 1), (24, .lshl, 1), (25, .aload_n 0, 1), (26, .iload_n 1, 1), (27, .iload 6, 2), (29, .iadd, 1), (30, .invokevirtual 38, 3), (33, .bipush 97, 2), (35, .isub, 1), (36, .iconst 1, 1), (37, .iadd, 1), (38, .i2l, 1), (39, .lor, 1), (40, .lstore 4, 2), (42, .iinc 6 1, 3), (45, .goto (-30), 3), (48, .aload_n 0, 1), (49, .getfield 27, 3), (52, .aload_n 0, 1), (53, .getfield 60, 3), (56, .iconst 1, 1), (57, .isub, 1), (58, .lload 4, 2), (60, .lastore, 1), (61, .iload_n 3, 1), (62, .ireturn, 1)]
set_option maxRecDepth 100000 in
theorem zd_46 : ∀ q ∈ zt_46, pz_dq prog_11_method_14_code q.1 q.2.1 q.2.2 = true := List.all_eq_true.mp (show (zt_46.all fun q => pz_dq prog_11_method_14_code q.1 q.2.1 q.2.2) = true by decide +kernel)
set_option maxRecDepth 100000 in
theorem zc_46 : zk_V 46 zt_46 := zk_chk_ok (cb := prog_11_method_14_code) (by rfl) zd_46 (by decide +kernel) (by decide +kernel)
def zt_51 : zk_T := [(0, .aload_n 0, 1), (1, .getfield 31, 3), (4, .iconst (-1), 1), (5, .if_icmp .ne 24, 3), (8, .aload_n 0, 1), (9, .getfield 63, 3), (12, .aload_n 0, 1), (13, .getfield 60, 3), (16, .if_icmp .ge 13, 3), (19, .aload_n 0, 1), (20, .dup, 1), (21, .getfield 63, 3), (24, .iconst 1, 1), (25, .iadd, 1), (26, .putfield 63, 3), (29, .return_, 1)]
set_option maxRecDepth 100000 in
theorem zd_51 : ∀ q ∈ zt_51, pz_dq prog_11_method_22_code q.1 q.2.1 q.2.2 = true := List.all_eq_true.mp (show (zt_51.all fun q => pz_dq prog_11_method_22_code q.1 q.2.1 q.2.2) = true by decide +kernel)
set_option maxRecDepth 100000 in
theorem zc_51 : zk_V 51 zt_51 := zk_chk_ok (cb := prog_11_method_22_code) (by rfl) zd_51 (by decide +kernel) (by decide +kernel)
def zt_60 : zk_T := [(0, .aload_n 0, 1), (1, .getfield 21, 3), (4, .iload_n 1, 1), (5, .iload_n 2, 1), (6, .bastore, 1), (7, .aload_n 0, 1), (8, .iconst 0, 1), (9, .putfield 58, 3), (12, .return_, 1)]
set_option maxRecDepth 100000 in
theorem zd_60 : ∀ q ∈ zt_60, pz_dq prog_3_method_12_code q.1 q.2.1 q.2.2 = true := List.all_eq_true.mp (show (zt_60.all fun q => pz_dq prog_3_method_12_code q.1 q.2.1 q.2.2) = true by decide +kernel)
set_option maxRecDepth 100000 in
theorem zc_60 : zk_V 60 zt_60 := zk_chk_ok (cb := prog_3_method_12_code) (by rfl) zd_60 (by decide +kernel) (by decide +kernel)
def zt_62 : zk_T := [(0, .iload_n 0, 1), (1, .bipush 35, 2), (3, .if_icmp .eq 15, 3), (6, .iload_n 0, 1), (7, .bipush 28, 2), (9, .if_icmp .eq 9, 3), (12, .iload_n 0, 1), (13, .bipush 36, 2), (15, .if_icmp .ne 7, 3), (18, .iconst 1, 1), (19, .goto 4, 3), (22, .iconst 0, 1), (23, .ireturn, 1)]
set_option maxRecDepth 100000 in
theorem zd_62 : ∀ q ∈ zt_62, pz_dq prog_4_method_11_code q.1 q.2.1 q.2.2 = true := List.all_eq_true.mp (show (zt_62.all fun q => pz_dq prog_4_method_11_code q.1 q.2.1 q.2.2) = true by decide +kernel)
set_option maxRecDepth 100000 in
theorem zc_62 : zk_V 62 zt_62 := zk_chk_ok (cb := prog_4_method_11_code) (by rfl) zd_62 (by decide +kernel) (by decide +kernel)
