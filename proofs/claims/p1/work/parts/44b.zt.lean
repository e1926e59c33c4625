/-! ===== decoded instructions (written by wip/whole/gen/part46.py) ===== -/
def zt_1 : zk_T := [(0, .aload_n 0, 1), (1, .invokespecial 1, 3), (4, .aload_n 0, 1), (5, .new 7, 3), (8, .dup, 1), (9, .invokespecial 9, 3), (12, .putfield 10, 3), (15, .aload_n 0, 1), (16, .new 16, 3), (19, .dup, 1), (20, .aload_n 0, 1), (21, .getfield 10, 3), (24, .invokespecial 18, 3), (27, .putfield 21, 3), (30, .aload_n 0, 1), (31, .new 25, 3), (34, .dup, 1), (35, .aload_n 0, 1), (36, .getfield 10, 3), (39, .invokespecial 27, 3), (42, .putfield 28, 3), (45, .aload_n 0, 1), (46, .new 32, 3), (49, .dup, 1), (50, .aload_n 0, 1), (51, .getfield 10, 3), (54, .invokespecial 34, 3), (57, .putfield 35, 3), (60, .aload_n 0, 1), (61, .new 39, 3), (64, .dup, 1), (65, .aload_n 0, 1), (66, .getfield 10, 3), (69, .invokespecial 41, 3), (72, .putfield 42, 3), (75, .aload_n 0, 1), (76, .iconst 2, 1), (77, .anewarray 46, 3), (80, .dup, 1), (81, .iconst 0, 1), (82, .new 46, 3), (85, .dup, 1), (86, .invokespecial 48, 3), (89, .aastore, 1), (90, .dup, 1), (91, .iconst 1, 1), (92, .new 46, 3), (95, .dup, 1), (96, .invokespecial 48, 3), (99, .aastore, 1), (100, .putfield 49, 3), (103, .aload_n 0, 1), (104, .new 46, 3), (107, .dup, 1), (108, .invokespecial 48, 3), (111, .putfield 53, 3), (114, .aload_n 0, 1), (115, .new 57, 3), (118, .dup, 1), (119, .invokespecial 59, 3), (122, .putfield 60, 3), (125, .aload_n 0, 1), (126, .new 64, 3), (129, .dup, 1), (130, .invokespecial 66, 3), (133, .putfield 67, 3), (136, .aload_n 0, 1), (137, .new 64, 3), (140, .dup, 1), (141, .invokespecial 66, 3), (144, .putfield 71, 3), (147, .aload_n 0, 1), (148, .bipush 24, 2), (150, .newarray .int, 2), (152, .putfield 74, 3), (155, .aload_n 0, 1), (156, .iconst 2, 1), (157, .sipush 1918, 3), (160, .multianewarray 78 2, 4), (164, .putfield 80, 3), (167, .aload_n 0, 1), (168, .iconst 2, 1), (169, .newarray .int, 2), (171, .putfield 83, 3), (174, .aload_n 0, 1), (175, .new 46, 3), (178, .dup, 1), (179, .invokespecial 48, 3), (182, .putfield 86, 3), (185, .aload_n 0, 1), (186, .new 57, 3), (189, .dup, 1), (190, .invokespecial 59, 3), (193, .putfield 89, 3), (196, .aload_n 0, 1), (197, .new 57, 3), (200, .dup, 1), (201, .invokespecial 59, 3), (204, .putfield 92, 3), (207, .return_, 1)]
set_option maxRecDepth 100000 in
theorem zd_1_0 : (((zt_1.drop 0).take 50).all fun q => pz_dq prog_1_method_1_code q.1 q.2.1 q.2.2) = true := by decide +kernel
set_option maxRecDepth 100000 in
theorem zd_1_50 : (((zt_1.drop 50).take 50).all fun q => pz_dq prog_1_method_1_code q.1 q.2.1 q.2.2) = true := by decide +kernel
theorem zd_1 : ∀ q ∈ zt_1, pz_dq prog_1_method_1_code q.1 q.2.1 q.2.2 = true := by
  have h : ∀ q ∈ zt_1.drop 0, pz_dq prog_1_method_1_code q.1 q.2.1 q.2.2 = true := (pt_piece 0 50 (List.all_eq_true.mp zd_1_0) (pt_piece 50 50 (List.all_eq_true.mp zd_1_50) (fun r hr => by rw [List.drop_eq_nil_of_le (by decide +kernel)] at hr; cases hr)))
  exact h
set_option maxRecDepth 100000 in
theorem zc_1 : zk_V 1 zt_1 := zk_chk_ok (cb := prog_1_method_1_code) (by rfl) zd_1 (by decide +kernel) (by decide +kernel)
def zt_2 : zk_T := [(0, .aload_n 0, 1), (1, .invokespecial 3, 3), (4, .aload_n 0, 1), (5, .sipush 400, 3), (8, .newarray .int, 2), (10, .putfield 9, 3), (13, .aload_n 0, 1), (14, .sipush 401, 3), (17, .newarray .int, 2), (19, .putfield 15, 3), (22, .aload_n 0, 1), (23, .sipush 401, 3), (26, .newarray .int, 2), (28, .putfield 18, 3), (31, .aload_n 0, 1), (32, .sipush 401, 3), (35, .newarray .int, 2), (37, .putfield 21, 3), (40, .aload_n 0, 1), (41, .sipush 401, 3), (44, .newarray .int, 2), (46, .putfield 24, 3), (49, .aload_n 0, 1), (50, .sipush 401, 3), (53, .newarray .long, 2), (55, .putfield 27, 3), (58, .aload_n 0, 1), (59, .iconst (-1), 1), (60, .putfield 31, 3), (63, .return_, 1)]
set_option maxRecDepth 100000 in
theorem zd_2 : ∀ q ∈ zt_2, pz_dq prog_11_method_1_code q.1 q.2.1 q.2.2 = true := List.all_eq_true.mp (show (zt_2.all fun q => pz_dq prog_11_method_1_code q.1 q.2.1 q.2.2) = true by decide +kernel)
set_option maxRecDepth 100000 in
theorem zc_2 : zk_V 2 zt_2 := zk_chk_ok (cb := prog_11_method_1_code) (by rfl) zd_2 (by decide +kernel) (by decide +kernel)
def zt_3 : zk_T := [(0, .aload_n 0, 1), (1, .invokespecial 3, 3), (4, .aload_n 0, 1), (5, .aload_n 1, 1), (6, .putfield 9, 3), (9, .return_, 1)]
set_option maxRecDepth 100000 in
theorem zd_3 : ∀ q ∈ zt_3, pz_dq prog_8_method_1_code q.1 q.2.1 q.2.2 = true := List.all_eq_true.mp (show (zt_3.all fun q => pz_dq prog_8_method_1_code q.1 q.2.1 q.2.2) = true by decide +kernel)
set_option maxRecDepth 100000 in
theorem zc_3 : zk_V 3 zt_3 := zk_chk_ok (cb := prog_8_method_1_code) (by rfl) zd_3 (by decide +kernel) (by decide +kernel)
def zt_4 : zk_T := [(0, .aload_n 0, 1), (1, .invokespecial 3, 3), (4, .aload_n 0, 1), (5, .new 9, 3), (8, .dup, 1), (9, .invokespecial 11, 3), (12, .putfield 12, 3), (15, .aload_n 0, 1), (16, .bipush 20, 2), (18, .newarray .int, 2), (20, .putfield 18, 3), (23, .aload_n 0, 1), (24, .bipush 20, 2), (26, .newarray .boolean, 2), (28, .putfield 22, 3), (31, .aload_n 0, 1), (32, .sipush 400, 3), (35, .newarray .int, 2), (37, .putfield 26, 3), (40, .aload_n 0, 1), (41, .aload_n 1, 1), (42, .putfield 29, 3), (45, .return_, 1)]
set_option maxRecDepth 100000 in
theorem zd_4 : ∀ q ∈ zt_4, pz_dq prog_9_method_1_code q.1 q.2.1 q.2.2 = true := List.all_eq_true.mp (show (zt_4.all fun q => pz_dq prog_9_method_1_code q.1 q.2.1 q.2.2) = true by decide +kernel)
set_option maxRecDepth 100000 in
theorem zc_4 : zk_V 4 zt_4 := zk_chk_ok (cb := prog_9_method_1_code) (by rfl) zd_4 (by decide +kernel) (by decide +kernel)
def zt_5 : zk_T := [(0, .aload_n 0, 1), (1, .invokespecial 3, 3), (4, .aload_n 0, 1), (5, .bipush 41, 2), (7, .newarray .long, 2), (9, .putfield 11, 3), (12, .aload_n 0, 1), (13, .sipush 1681, 3), (16, .newarray .long, 2), (18, .putfield 15, 3), (21, .aload_n 0, 1), (22, .bipush 41, 2), (24, .newarray .long, 2), (26, .putfield 18, 3), (29, .aload_n 0, 1), (30, .sipush 201, 3), (33, .newarray .int, 2), (35, .putfield 21, 3), (38, .aload_n 0, 1), (39, .sipush 201, 3), (42, .newarray .int, 2), (44, .putfield 25, 3), (47, .aload_n 0, 1), (48, .sipush 201, 3), (51, .newarray .long, 2), (53, .putfield 28, 3), (56, .aload_n 0, 1), (57, .sipush 201, 3), (60, .newarray .long, 2), (62, .putfield 31, 3), (65, .aload_n 0, 1), (66, .sipush 201, 3), (69, .newarray .boolean, 2), (71, .putfield 34, 3), (74, .return_, 1)]
set_option maxRecDepth 100000 in
theorem zd_5 : ∀ q ∈ zt_5, pz_dq prog_12_method_1_code q.1 q.2.1 q.2.2 = true := List.all_eq_true.mp (show (zt_5.all fun q => pz_dq prog_12_method_1_code q.1 q.2.1 q.2.2) = true by decide +kernel)
set_option maxRecDepth 100000 in
theorem zc_5 : zk_V 5 zt_5 := zk_chk_ok (cb := prog_12_method_1_code) (by rfl) zd_5 (by decide +kernel) (by decide +kernel)
def zt_6 : zk_T := [(0, .aload_n 0, 1), (1, .invokespecial 3, 3), (4, .aload_n 0, 1), (5, .bipush 50, 2), (7, .newarray .long, 2), (9, .putfield 11, 3), (12, .aload_n 0, 1), (13, .bipush 50, 2), (15, .newarray .int, 2), (17, .putfield 15, 3), (20, .aload_n 0, 1), (21, .iconst 5, 1), (22, .newarray .int, 2), (24, .putfield 21, 3), (27, .aload_n 0, 1), (28, .aload_n 1, 1), (29, .putfield 24, 3), (32, .return_, 1)]
set_option maxRecDepth 100000 in
theorem zd_6 : ∀ q ∈ zt_6, pz_dq prog_4_method_1_code q.1 q.2.1 q.2.2 = true := List.all_eq_true.mp (show (zt_6.all fun q => pz_dq prog_4_method_1_code q.1 q.2.1 q.2.2) = true by decide +kernel)
set_option maxRecDepth 100000 in
theorem zc_6 : zk_V 6 zt_6 := zk_chk_ok (cb := prog_4_method_1_code) (by rfl) zd_6 (by decide +kernel) (by decide +kernel)
def zt_7 : zk_T := [(0, .aload_n 0, 1), (1, .invokespecial 5, 3), (4, .aload_n 0, 1), (5, .aload_n 1, 1), (6, .putfield 11, 3), (9, .return_, 1)]
set_option maxRecDepth 100000 in
theorem zd_7 : ∀ q ∈ zt_7, pz_dq prog_6_method_1_code q.1 q.2.1 q.2.2 = true := List.all_eq_true.mp (show (zt_7.all fun q => pz_dq prog_6_method_1_code q.1 q.2.1 q.2.2) = true by decide +kernel)
set_option maxRecDepth 100000 in
theorem zc_7 : zk_V 7 zt_7 := zk_chk_ok (cb := prog_6_method_1_code) (by rfl) zd_7 (by decide +kernel) (by decide +kernel)
def zt_8 : zk_T := [(0, .aload_n 0, 1), (1, .invokespecial 5, 3), (4, .aload_n 0, 1), (5, .sipush 155, 3), (8, .newarray .int, 2), (10, .putfield 11, 3), (13, .aload_n 0, 1), (14, .sipush 155, 3), (17, .newarray .long, 2), (19, .putfield 15, 3), (22, .aload_n 0, 1), (23, .sipush 155, 3), (26, .newarray .long, 2), (28, .putfield 19, 3), (31, .aload_n 0, 1), (32, .sipush 155, 3), (35, .newarray .int, 2), (37, .putfield 22, 3), (40, .aload_n 0, 1), (41, .sipush 155, 3), (44, .newarray .int, 2), (46, .putfield 25, 3), (49, .aload_n 0, 1), (50, .sipush 155, 3), (53, .newarray .int, 2), (55, .putfield 28, 3), (58, .aload_n 0, 1), (59, .bipush 67, 2), (61, .anewarray 31, 3), (64, .putfield 33, 3), (67, .aload_n 0, 1), (68, .iconst 4, 1), (69, .anewarray 37, 3), (72, .putfield 39, 3), (75, .iconst 0, 1), (76, .istore_n 1, 1), (77, .iload_n 1, 1), (78, .bipush 67, 2), (80, .if_icmp .ge 22, 3), (83, .aload_n 0, 1), (84, .getfield 33, 3), (87, .iload_n 1, 1), (88, .new 31, 3), (91, .dup, 1), (92, .invokespecial 43, 3), (95, .aastore, 1), (96, .iinc 1 1, 3), (99, .goto (-22), 3), (102, .iconst 0, 1), (103, .istore_n 1, 1), (104, .iload_n 1, 1), (105, .iconst 4, 1), (106, .if_icmp .ge 22, 3), (109, .aload_n 0, 1), (110, .getfield 39, 3), (113, .iload_n 1, 1), (114, .new 37, 3), (117, .dup, 1), (118, .invokespecial 44, 3), (121, .aastore, 1), (122, .iinc 1 1, 3), (125, .goto (-21), 3), (128, .aload_n 0, 1), (129, .iconst 1, 1), (130, .putfield 45, 3), (133, .aload_n 0, 1), (134, .getfield 15, 3), (137, .iconst 0, 1), (138, .ldc2_w 49, 3), (141, .lastore, 1), (142, .aload_n 0, 1), (143, .iconst 2, 1), (144, .putfield 51, 3), (147, .return_, 1)]
set_option maxRecDepth 100000 in
theorem zd_8 : ∀ q ∈ zt_8, pz_dq prog_7_method_1_code q.1 q.2.1 q.2.2 = true := List.all_eq_true.mp (show (zt_8.all fun q => pz_dq prog_7_method_1_code q.1 q.2.1 q.2.2) = true by decide +kernel)
set_option maxRecDepth 100000 in
theorem zc_8 : zk_V 8 zt_8 := zk_chk_ok (cb := prog_7_method_1_code) (by rfl) zd_8 (by decide +kernel) (by decide +kernel)
def zt_9 : zk_T := [(0, .aload_n 0, 1), (1, .invokespecial 3, 3), (4, .aload_n 0, 1), (5, .getstatic 9, 3), (8, .putfield 15, 3), (11, .return_, 1)]
set_option maxRecDepth 100000 in
theorem zd_9 : ∀ q ∈ zt_9, pz_dq prog_10_method_1_code q.1 q.2.1 q.2.2 = true := List.all_eq_true.mp (show (zt_9.all fun q => pz_dq prog_10_method_1_code q.1 q.2.1 q.2.2) = true by decide +kernel)
set_option maxRecDepth 100000 in
theorem zc_9 : zk_V 9 zt_9 := zk_chk_ok (cb := prog_10_method_1_code) (by rfl) zd_9 (by decide +kernel) (by decide +kernel)
def zt_10 : zk_T := [(0, .aload_n 0, 1), (1, .invokespecial 3, 3), (4, .aload_n 0, 1), (5, .bipush 66, 2), (7, .newarray .long, 2), (9, .putfield 11, 3), (12, .aload_n 0, 1), (13, .bipush 66, 2), (15, .newarray .int, 2), (17, .putfield 15, 3), (20, .aload_n 0, 1), (21, .bipush 66, 2), (23, .newarray .int, 2), (25, .putfield 19, 3), (28, .aload_n 0, 1), (29, .bipush 66, 2), (31, .newarray .int, 2), (33, .putfield 22, 3), (36, .aload_n 0, 1), (37, .getstatic 25, 3), (40, .putfield 28, 3), (43, .return_, 1)]
set_option maxRecDepth 100000 in
theorem zd_10 : ∀ q ∈ zt_10, pz_dq prog_2_method_1_code q.1 q.2.1 q.2.2 = true := List.all_eq_true.mp (show (zt_10.all fun q => pz_dq prog_2_method_1_code q.1 q.2.1 q.2.2) = true by decide +kernel)
set_option maxRecDepth 100000 in
theorem zc_10 : zk_V 10 zt_10 := zk_chk_ok (cb := prog_2_method_1_code) (by rfl) zd_10 (by decide +kernel) (by decide +kernel)
def zt_11 : zk_T := [(0, .aload_n 0, 1), (1, .invokespecial 3, 3), (4, .aload_n 0, 1), (5, .bipush 60, 2), (7, .newarray .int, 2), (9, .putfield 11, 3), (12, .aload_n 0, 1), (13, .bipush 60, 2), (15, .newarray .int, 2), (17, .putfield 15, 3), (20, .aload_n 0, 1), (21, .iconst 5, 1), (22, .newarray .int, 2), (24, .putfield 18, 3), (27, .aload_n 0, 1), (28, .iconst 5, 1), (29, .newarray .boolean, 2), (31, .putfield 21, 3), (34, .aload_n 0, 1), (35, .bipush 6, 2), (37, .newarray .int, 2), (39, .putfield 25, 3), (42, .aload_n 0, 1), (43, .bipush 69, 2), (45, .newarray .int, 2), (47, .putfield 28, 3), (50, .aload_n 0, 1), (51, .new 31, 3), (54, .dup, 1), (55, .invokespecial 33, 3), (58, .putfield 34, 3), (61, .aload_n 0, 1), (62, .iconst 1, 1), (63, .putfield 38, 3), (66, .aload_n 0, 1), (67, .getfield 25, 3), (70, .iconst 2, 1), (71, .invokestatic 42, 3), (74, .return_, 1)]
set_option maxRecDepth 100000 in
theorem zd_11 : ∀ q ∈ zt_11, pz_dq prog_3_method_1_code q.1 q.2.1 q.2.2 = true := List.all_eq_true.mp (show (zt_11.all fun q => pz_dq prog_3_method_1_code q.1 q.2.1 q.2.2) = true by decide +kernel)
set_option maxRecDepth 100000 in
theorem zc_11 : zk_V 11 zt_11 := zk_chk_ok (cb := prog_3_method_1_code) (by rfl) zd_11 (by decide +kernel) (by decide +kernel)
def zt_12 : zk_T := [(0, .aload_n 0, 1), (1, .bipush 16, 2), (3, .invokespecial 1, 3), (6, .return_, 1)]
set_option maxRecDepth 100000 in
theorem zd_12 : ∀ q ∈ zt_12, pz_dq prog_26_method_1_code q.1 q.2.1 q.2.2 = true := List.all_eq_true.mp (show (zt_12.all fun q => pz_dq prog_26_method_1_code q.1 q.2.1 q.2.2) = true by decide +kernel)
set_option maxRecDepth 100000 in
theorem zc_12 : zk_V 12 zt_12 := zk_chk_ok (cb := prog_26_method_1_code) (by rfl) zd_12 (by decide +kernel) (by decide +kernel)
def zt_13 : zk_T := [(0, .aload_n 0, 1), (1, .invokespecial 3, 3), (4, .getstatic 18, 3), (7, .ifCond .eq 18, 3), (10, .aload_n 0, 1), (11, .iload_n 1, 1), (12, .newarray .byte, 2), (14, .putfield 15, 3), (17, .aload_n 0, 1), (18, .iconst 0, 1), (19, .putfield 22, 3), (22, .goto 16, 3), (25, .aload_n 0, 1), (26, .iload_n 1, 1), (27, .invokestatic 26, 3), (30, .putfield 15, 3), (33, .aload_n 0, 1), (34, .iconst 1, 1), (35, .putfield 22, 3), (38, .return_, 1)]
set_option maxRecDepth 100000 in
theorem zd_13 : ∀ q ∈ zt_13, pz_dq prog_15_method_2_code q.1 q.2.1 q.2.2 = true := List.all_eq_true.mp (show (zt_13.all fun q => pz_dq prog_15_method_2_code q.1 q.2.1 q.2.2) = true by decide +kernel)
set_option maxRecDepth 100000 in
theorem zc_13 : zk_V 13 zt_13 := zk_chk_ok (cb := prog_15_method_2_code) (by rfl) zd_13 (by decide +kernel) (by decide +kernel)
def zt_16 : zk_T := [(0, .iconst 0, 1), (1, .istore_n 2, 1), (2, .aload_n 0, 1), (3, .arraylength, 1), (4, .istore_n 3, 1), (5, .iload_n 2, 1), (6, .iload_n 3, 1), (7, .if_icmp .ge 13, 3), (10, .aload_n 0, 1), (11, .iload_n 2, 1), (12, .iload_n 1, 1), (13, .iastore, 1), (14, .iinc 2 1, 3), (17, .goto (-12), 3), (20, .return_, 1)]
set_option maxRecDepth 100000 in
theorem zd_16 : ∀ q ∈ zt_16, pz_dq prog_33_method_103_code q.1 q.2.1 q.2.2 = true := List.all_eq_true.mp (show (zt_16.all fun q => pz_dq prog_33_method_103_code q.1 q.2.1 q.2.2) = true by decide +kernel)
set_option maxRecDepth 100000 in
theorem zc_16 : zk_V 16 zt_16 := zk_chk_ok (cb := prog_33_method_103_code) (by rfl) zd_16 (by decide +kernel) (by decide +kernel)
def zt_17 : zk_T := [(0, .aload_n 0, 1), (1, .invokespecial 3, 3), (4, .aload_n 0, 1), (5, .bipush 13, 2), (7, .newarray .int, 2), (9, .putfield 11, 3), (12, .aload_n 0, 1), (13, .bipush 13, 2), (15, .newarray .int, 2), (17, .putfield 15, 3), (20, .aload_n 0, 1), (21, .bipush 13, 2), (23, .newarray .int, 2), (25, .putfield 18, 3), (28, .aload_n 0, 1), (29, .bipush 12, 2), (31, .newarray .int, 2), (33, .putfield 21, 3), (36, .aload_n 0, 1), (37, .bipush 12, 2), (39, .newarray .int, 2), (41, .putfield 24, 3), (44, .aload_n 0, 1), (45, .bipush 12, 2), (47, .newarray .int, 2), (49, .putfield 27, 3), (52, .aload_n 0, 1), (53, .sipush 256, 3), (56, .newarray .int, 2), (58, .putfield 32, 3), (61, .aload_n 0, 1), (62, .getstatic 35, 3), (65, .putfield 39, 3), (68, .return_, 1)]
set_option maxRecDepth 100000 in
theorem zd_17 : ∀ q ∈ zt_17, pz_dq prog_5_method_1_code q.1 q.2.1 q.2.2 = true := List.all_eq_true.mp (show (zt_17.all fun q => pz_dq prog_5_method_1_code q.1 q.2.1 q.2.2) = true by decide +kernel)
set_option maxRecDepth 100000 in
theorem zc_17 : zk_V 17 zt_17 := zk_chk_ok (cb := prog_5_method_1_code) (by rfl) zd_17 (by decide +kernel) (by decide +kernel)
def zt_18 : zk_T := [(0, .aload_n 0, 1), (1, .invokevirtual 122, 3), (4, .return_, 1)]
set_option maxRecDepth 100000 in
theorem zd_18 : ∀ q ∈ zt_18, pz_dq prog_1_method_6_code q.1 q.2.1 q.2.2 = true := List.all_eq_true.mp (show (zt_18.all fun q => pz_dq prog_1_method_6_code q.1 q.2.1 q.2.2) = true by decide +kernel)
set_option maxRecDepth 100000 in
theorem zc_18 : zk_V 18 zt_18 := zk_chk_ok (cb := prog_1_method_6_code) (by rfl) zd_18 (by decide +kernel) (by decide +kernel)
def zt_19 : zk_T := [(0, .aload_n 0, 1), (1, .iconst 0, 1), (2, .putfield 132, 3), (5, .iconst 0, 1), (6, .istore_n 1, 1), (7, .iload_n 1, 1), (8, .iconst 2, 1), (9, .if_icmp .ge 16, 3), (12, .aload_n 0, 1), (13, .getfield 83, 3), (16, .iload_n 1, 1), (17, .iconst 0, 1), (18, .iastore, 1), (19, .iinc 1 1, 3), (22, .goto (-15), 3), (25, .return_, 1)]
set_option maxRecDepth 100000 in
theorem zd_19 : ∀ q ∈ zt_19, pz_dq prog_1_method_38_code q.1 q.2.1 q.2.2 = true := List.all_eq_true.mp (show (zt_19.all fun q => pz_dq prog_1_method_38_code q.1 q.2.1 q.2.2) = true by decide +kernel)
set_option maxRecDepth 100000 in
theorem zc_19 : zk_V 19 zt_19 := zk_chk_ok (cb := prog_1_method_38_code) (by rfl) zd_19 (by decide +kernel) (by decide +kernel)
def zt_20 : zk_T := [(0, .aload_n 0, 1), (1, .getfield 35, 3), (4, .aload_n 0, 1), (5, .getfield 92, 3), (8, .invokevirtual 202, 3), (11, .istore_n 1, 1), (12, .aload_n 0, 1), (13, .iload_n 1, 1), (14, .invokevirtual 205, 3), (17, .iload_n 1, 1), (18, .ireturn, 1)]
set_option maxRecDepth 100000 in
theorem zd_20 : ∀ q ∈ zt_20, pz_dq prog_1_method_16_code q.1 q.2.1 q.2.2 = true := List.all_eq_true.mp (show (zt_20.all fun q => pz_dq prog_1_method_16_code q.1 q.2.1 q.2.2) = true by decide +kernel)
set_option maxRecDepth 100000 in
theorem zc_20 : zk_V 20 zt_20 := zk_chk_ok (cb := prog_1_method_16_code) (by rfl) zd_20 (by decide +kernel) (by decide +kernel)
