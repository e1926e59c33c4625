/-! ===== decoded instructions (written by wip/whole/gen/part46.py) ===== -/
def zt_21 : zk_T := [(0, .aload_n 0, 1), (1, .invokevirtual 28, 3), (4, .aload_n 0, 1), (5, .iconst 0, 1), (6, .putfield 31, 3), (9, .aload_n 0, 1), (10, .invokevirtual 35, 3), (13, .istore_n 2, 1), (14, .aload_n 0, 1), (15, .invokevirtual 39, 3), (18, .istore_n 3, 1), (19, .aload_n 1, 1), (20, .iload_n 2, 1), (21, .iload_n 3, 1), (22, .invokevirtual 42, 3), (25, .iconst 0, 1), (26, .istore 4, 2), (28, .iload 4, 2), (30, .iload_n 2, 1), (31, .iload_n 3, 1), (32, .iadd, 1), (33, .if_icmp .ge 22, 3), (36, .aload_n 0, 1), (37, .getfield 15, 3), (40, .iload 4, 2), (42, .iconst 2, 1), (43, .iconst 1, 1), (44, .iload 4, 2), (46, .iadd, 1), (47, .imul, 1), (48, .iastore, 1), (49, .iinc 4 1, 3), (52, .goto (-24), 3), (55, .iconst 0, 1), (56, .istore 4, 2), (58, .iload 4, 2), (60, .iload_n 3, 1), (61, .if_icmp .ge 31, 3), (64, .aload_n 1, 1), (65, .iload 4, 2), (67, .aload_n 0, 1), (68, .getfield 21, 3), (71, .iload 4, 2), (73, .iaload, 1), (74, .iconst 1, 1), (75, .if_icmp .ne 7, 3), (78, .iconst 1, 1), (79, .goto 4, 3), (82, .iconst 0, 1), (83, .invokevirtual 46, 3), (86, .iinc 4 1, 3), (89, .goto (-31), 3), (92, .iconst 0, 1), (93, .istore 4, 2), (95, .iload 4, 2), (97, .sipush 400, 3), (100, .if_icmp .ge 59, 3), (103, .aload_n 0, 1), (104, .getfield 24, 3), (107, .invokevirtual 50, 3), (110, .ifCond .eq 49, 3), (113, .aload_n 0, 1), (114, .getfield 24, 3), (117, .invokevirtual 55, 3), (120, .ifCond .ne 39, 3), (123, .aload_n 0, 1), (124, .getfield 24, 3), (127, .invokevirtual 50, 3), (130, .invokestatic 59, 3), (133, .ifCond .eq 13, 3), (136, .aload_n 0, 1), (137, .aload_n 1, 1), (138, .iload_n 2, 1), (139, .iload_n 3, 1), (140, .invokevirtual 63, 3), (143, .goto 10, 3), (146, .aload_n 0, 1), (147, .getfield 24, 3), (150, .invokevirtual 67, 3), (153, .iinc 4 1, 3), (156, .goto (-61), 3), (159, .aload_n 0, 1), (160, .getfield 24, 3), (163, .invokevirtual 70, 3), (166, .ireturn, 1)]
set_option maxRecDepth 100000 in
theorem zd_21 : ∀ q ∈ zt_21, pz_dq prog_4_method_2_code q.1 q.2.1 q.2.2 = true := List.all_eq_true.mp (show (zt_21.all fun q => pz_dq prog_4_method_2_code q.1 q.2.1 q.2.2) = true by decide +kernel)
set_option maxRecDepth 100000 in
theorem zc_21 : zk_V 21 zt_21 := zk_chk_ok (cb := prog_4_method_2_code) (by rfl) zd_21 (by decide +kernel) (by decide +kernel)
def zt_22 : zk_T := [(0, .aload_n 0, 1), (1, .getfield 24, 3), (4, .invokevirtual 73, 3), (7, .iconst 0, 1), (8, .istore_n 1, 1), (9, .iconst 0, 1), (10, .istore_n 2, 1), (11, .iload_n 2, 1), (12, .sipush 400, 3), (15, .if_icmp .ge 26, 3), (18, .iload_n 1, 1), (19, .aload_n 0, 1), (20, .getfield 24, 3), (23, .invokevirtual 76, 3), (26, .if_icmp .ge 15, 3), (29, .aload_n 0, 1), (30, .iload_n 1, 1), (31, .invokevirtual 79, 3), (34, .istore_n 1, 1), (35, .iinc 2 1, 3), (38, .goto (-27), 3), (41, .aload_n 0, 1), (42, .getfield 24, 3), (45, .invokevirtual 83, 3), (48, .return_, 1)]
set_option maxRecDepth 100000 in
theorem zd_22 : ∀ q ∈ zt_22, pz_dq prog_4_method_3_code q.1 q.2.1 q.2.2 = true := List.all_eq_true.mp (show (zt_22.all fun q => pz_dq prog_4_method_3_code q.1 q.2.1 q.2.2) = true by decide +kernel)
set_option maxRecDepth 100000 in
theorem zc_22 : zk_V 22 zt_22 := zk_chk_ok (cb := prog_4_method_3_code) (by rfl) zd_22 (by decide +kernel) (by decide +kernel)
def zt_23 : zk_T := [(0, .aload_n 0, 1), (1, .iconst 0, 1), (2, .putfield 60, 3), (5, .aload_n 0, 1), (6, .iconst 0, 1), (7, .putfield 63, 3), (10, .aload_n 0, 1), (11, .iconst (-1), 1), (12, .putfield 31, 3), (15, .return_, 1)]
set_option maxRecDepth 100000 in
theorem zd_23 : ∀ q ∈ zt_23, pz_dq prog_11_method_11_code q.1 q.2.1 q.2.2 = true := List.all_eq_true.mp (show (zt_23.all fun q => pz_dq prog_11_method_11_code q.1 q.2.1 q.2.2) = true by decide +kernel)
set_option maxRecDepth 100000 in
theorem zc_23 : zk_V 23 zt_23 := zk_chk_ok (cb := prog_11_method_11_code) (by rfl) zd_23 (by decide +kernel) (by decide +kernel)
def zt_24 : zk_T := [(0, .aload_n 0, 1), (1, .getfield 35, 3), (4, .ireturn, 1)]
set_option maxRecDepth 100000 in
theorem zd_24 : ∀ q ∈ zt_24, pz_dq prog_11_method_2_code q.1 q.2.1 q.2.2 = true := List.all_eq_true.mp (show (zt_24.all fun q => pz_dq prog_11_method_2_code q.1 q.2.1 q.2.2) = true by decide +kernel)
set_option maxRecDepth 100000 in
theorem zc_24 : zk_V 24 zt_24 := zk_chk_ok (cb := prog_11_method_2_code) (by rfl) zd_24 (by decide +kernel) (by decide +kernel)
def zt_27 : zk_T := [(0, .aload_n 0, 1), (1, .iload_n 1, 1), (2, .iload_n 2, 1), (3, .iload_n 3, 1), (4, .iconst 0, 1), (5, .iconst 0, 1), (6, .invokevirtual 66, 3), (9, .ireturn, 1)]
set_option maxRecDepth 100000 in
theorem zd_27 : ∀ q ∈ zt_27, pz_dq prog_11_method_12_code q.1 q.2.1 q.2.2 = true := List.all_eq_true.mp (show (zt_27.all fun q => pz_dq prog_11_method_12_code q.1 q.2.1 q.2.2) = true by decide +kernel)
set_option maxRecDepth 100000 in
theorem zc_27 : zk_V 27 zt_27 := zk_chk_ok (cb := prog_11_method_12_code) (by rfl) zd_27 (by decide +kernel) (by decide +kernel)
def zt_28 : zk_T := [(0, .aload_n 0, 1), (1, .getfield 60, 3), (4, .sipush 401, 3), (7, .if_icmp .ge 65, 3), (10, .aload_n 0, 1), (11, .getfield 15, 3), (14, .aload_n 0, 1), (15, .getfield 60, 3), (18, .iload_n 1, 1), (19, .iastore, 1), (20, .aload_n 0, 1), (21, .getfield 18, 3), (24, .aload_n 0, 1), (25, .getfield 60, 3), (28, .iload_n 2, 1), (29, .iastore, 1), (30, .aload_n 0, 1), (31, .getfield 21, 3), (34, .aload_n 0, 1), (35, .getfield 60, 3), (38, .iload 4, 2), (40, .iastore, 1), (41, .aload_n 0, 1), (42, .getfield 24, 3), (45, .aload_n 0, 1), (46, .getfield 60, 3), (49, .iload 5, 2), (51, .iastore, 1), (52, .aload_n 0, 1), (53, .getfield 27, 3), (56, .aload_n 0, 1), (57, .getfield 60, 3), (60, .lconst 0, 1), (61, .lastore, 1), (62, .aload_n 0, 1), (63, .dup, 1), (64, .getfield 60, 3), (67, .iconst 1, 1), (68, .iadd, 1), (69, .putfield 60, 3), (72, .iload_n 2, 1), (73, .iload_n 3, 1), (74, .iadd, 1), (75, .ireturn, 1)]
set_option maxRecDepth 100000 in
theorem zd_28 : ∀ q ∈ zt_28, pz_dq prog_11_method_13_code q.1 q.2.1 q.2.2 = true := List.all_eq_true.mp (show (zt_28.all fun q => pz_dq prog_11_method_13_code q.1 q.2.1 q.2.2) = true by decide +kernel)
set_option maxRecDepth 100000 in
theorem zc_28 : zk_V 28 zt_28 := zk_chk_ok (cb := prog_11_method_13_code) (by rfl) zd_28 (by decide +kernel) (by decide +kernel)
def zt_34 : zk_T := [(0, .aload_n 0, 1), (1, .getfield 9, 3), (4, .arraylength, 1), (5, .aload_n 0, 1), (6, .invokevirtual 335, 3), (9, .ishr, 1), (10, .ireturn, 1)]
set_option maxRecDepth 100000 in
theorem zd_34 : ∀ q ∈ zt_34, pz_dq prog_25_method_54_code q.1 q.2.1 q.2.2 = true := List.all_eq_true.mp (show (zt_34.all fun q => pz_dq prog_25_method_54_code q.1 q.2.1 q.2.2) = true by decide +kernel)
set_option maxRecDepth 100000 in
theorem zc_34 : zk_V 34 zt_34 := zk_chk_ok (cb := prog_25_method_54_code) (by rfl) zd_34 (by decide +kernel) (by decide +kernel)
def zt_35 : zk_T := [(0, .getstatic 38, 3), (3, .ifCond .eq 10, 3), (6, .aload_n 0, 1), (7, .getfield 15, 3), (10, .goto 4, 3), (13, .iconst 1, 1), (14, .ireturn, 1)]
set_option maxRecDepth 100000 in
theorem zd_35 : ∀ q ∈ zt_35, pz_dq prog_25_method_152_code q.1 q.2.1 q.2.2 = true := List.all_eq_true.mp (show (zt_35.all fun q => pz_dq prog_25_method_152_code q.1 q.2.1 q.2.2) = true by decide +kernel)
set_option maxRecDepth 100000 in
theorem zc_35 : zk_V 35 zt_35 := zk_chk_ok (cb := prog_25_method_152_code) (by rfl) zd_35 (by decide +kernel) (by decide +kernel)
def zt_40 : zk_T := [(0, .iload_n 0, 1), (1, .iload_n 1, 1), (2, .getstatic 1053, 3), (5, .invokestatic 1059, 3), (8, .pop, 1), (9, .return_, 1)]
set_option maxRecDepth 100000 in
theorem zd_40 : ∀ q ∈ zt_40, pz_dq prog_25_method_155_code q.1 q.2.1 q.2.2 = true := List.all_eq_true.mp (show (zt_40.all fun q => pz_dq prog_25_method_155_code q.1 q.2.1 q.2.2) = true by decide +kernel)
set_option maxRecDepth 100000 in
theorem zc_40 : zk_V 40 zt_40 := zk_chk_ok (cb := prog_25_method_155_code) (by rfl) zd_40 (by decide +kernel) (by decide +kernel)
def zt_41 : zk_T := [(0, .iload_n 0, 1), (1, .ifCond .lt 8, 3), (4, .iload_n 0, 1), (5, .iload_n 1, 1), (6, .if_icmp .lt 10, 3), (9, .aload_n 2, 1), (10, .iload_n 0, 1), (11, .iload_n 1, 1), (12, .invokestatic 95, 3), (15, .athrow, 1), (16, .iload_n 0, 1), (17, .ireturn, 1)]
set_option maxRecDepth 100000 in
theorem zd_41 : ∀ q ∈ zt_41, pz_dq prog_36_method_11_code q.1 q.2.1 q.2.2 = true := List.all_eq_true.mp (show (zt_41.all fun q => pz_dq prog_36_method_11_code q.1 q.2.1 q.2.2) = true by decide +kernel)
set_option maxRecDepth 100000 in
theorem zc_41 : zk_V 41 zt_41 := zk_chk_ok (cb := prog_36_method_11_code) (by rfl) zd_41 (by decide +kernel) (by decide +kernel)
def zt_47 : zk_T := [(0, .aload_n 0, 1), (1, .iconst 0, 1), (2, .aload_n 0, 1), (3, .getfield 35, 3), (6, .iconst 0, 1), (7, .invokevirtual 70, 3), (10, .pop, 1), (11, .return_, 1)]
set_option maxRecDepth 100000 in
theorem zd_47 : ∀ q ∈ zt_47, pz_dq prog_11_method_16_code q.1 q.2.1 q.2.2 = true := List.all_eq_true.mp (show (zt_47.all fun q => pz_dq prog_11_method_16_code q.1 q.2.1 q.2.2) = true by decide +kernel)
set_option maxRecDepth 100000 in
theorem zc_47 : zk_V 47 zt_47 := zk_chk_ok (cb := prog_11_method_16_code) (by rfl) zd_47 (by decide +kernel) (by decide +kernel)
def zt_48 : zk_T := [(0, .iconst 0, 1), (1, .istore_n 1, 1), (2, .aload_n 0, 1), (3, .getfield 24, 3), (6, .bipush 33, 2), (8, .invokevirtual 123, 3), (11, .aload_n 0, 1), (12, .aload_n 0, 1), (13, .invokevirtual 127, 3), (16, .iconst 0, 1), (17, .invokevirtual 131, 3), (20, .aload_n 0, 1), (21, .getfield 24, 3), (24, .bipush 9, 2), (26, .invokevirtual 123, 3), (29, .iinc 1 1, 3), (32, .iload_n 1, 1), (33, .iconst 3, 1), (34, .if_icmp .ge 15, 3), (37, .aload_n 0, 1), (38, .getfield 24, 3), (41, .invokevirtual 50, 3), (44, .bipush 33, 2), (46, .if_icmp .eq (-44), 3), (49, .iload_n 1, 1), (50, .ireturn, 1)]
set_option maxRecDepth 100000 in
theorem zd_48 : ∀ q ∈ zt_48, pz_dq prog_4_method_6_code q.1 q.2.1 q.2.2 = true := List.all_eq_true.mp (show (zt_48.all fun q => pz_dq prog_4_method_6_code q.1 q.2.1 q.2.2) = true by decide +kernel)
set_option maxRecDepth 100000 in
theorem zc_48 : zk_V 48 zt_48 := zk_chk_ok (cb := prog_4_method_6_code) (by rfl) zd_48 (by decide +kernel) (by decide +kernel)
def zt_49 : zk_T := [(0, .aload_n 0, 1), (1, .invokevirtual 74, 3), (4, .iload_n 1, 1), (5, .if_icmp .ne 10, 3), (8, .aload_n 0, 1), (9, .invokevirtual 77, 3), (12, .goto 7, 3), (15, .aload_n 0, 1), (16, .invokevirtual 80, 3), (19, .return_, 1)]
set_option maxRecDepth 100000 in
theorem zd_49 : ∀ q ∈ zt_49, pz_dq prog_11_method_23_code q.1 q.2.1 q.2.2 = true := List.all_eq_true.mp (show (zt_49.all fun q => pz_dq prog_11_method_23_code q.1 q.2.1 q.2.2) = true by decide +kernel)
set_option maxRecDepth 100000 in
theorem zc_49 : zk_V 49 zt_49 := zk_chk_ok (cb := prog_11_method_23_code) (by rfl) zd_49 (by decide +kernel) (by decide +kernel)
def zt_50 : zk_T := [(0, .aload_n 0, 1), (1, .getfield 31, 3), (4, .iconst (-1), 1), (5, .if_icmp .ne 14, 3), (8, .aload_n 0, 1), (9, .getfield 63, 3), (12, .aload_n 0, 1), (13, .getfield 60, 3), (16, .if_icmp .lt 7, 3), (19, .iconst 2, 1), (20, .goto 12, 3), (23, .aload_n 0, 1), (24, .getfield 15, 3), (27, .aload_n 0, 1), (28, .getfield 63, 3), (31, .iaload, 1), (32, .ireturn, 1)]
set_option maxRecDepth 100000 in
theorem zd_50 : ∀ q ∈ zt_50, pz_dq prog_11_method_17_code q.1 q.2.1 q.2.2 = true := List.all_eq_true.mp (show (zt_50.all fun q => pz_dq prog_11_method_17_code q.1 q.2.1 q.2.2) = true by decide +kernel)
set_option maxRecDepth 100000 in
theorem zc_50 : zk_V 50 zt_50 := zk_chk_ok (cb := prog_11_method_17_code) (by rfl) zd_50 (by decide +kernel) (by decide +kernel)
def zt_52 : zk_T := [(0, .aload_n 0, 1), (1, .getfield 31, 3), (4, .iconst (-1), 1), (5, .if_icmp .ne 34, 3), (8, .aload_n 0, 1), (9, .aload_n 0, 1), (10, .getfield 63, 3), (13, .aload_n 0, 1), (14, .getfield 60, 3), (17, .if_icmp .ge 15, 3), (20, .aload_n 0, 1), (21, .getfield 18, 3), (24, .aload_n 0, 1), (25, .getfield 63, 3), (28, .iaload, 1), (29, .goto 7, 3), (32, .aload_n 0, 1), (33, .getfield 35, 3), (36, .putfield 31, 3), (39, .return_, 1)]
set_option maxRecDepth 100000 in
theorem zd_52 : ∀ q ∈ zt_52, pz_dq prog_11_method_24_code q.1 q.2.1 q.2.2 = true := List.all_eq_true.mp (show (zt_52.all fun q => pz_dq prog_11_method_24_code q.1 q.2.1 q.2.2) = true by decide +kernel)
set_option maxRecDepth 100000 in
theorem zc_52 : zk_V 52 zt_52 := zk_chk_ok (cb := prog_11_method_24_code) (by rfl) zd_52 (by decide +kernel) (by decide +kernel)
def zt_53 : zk_T := [(0, .aload_n 0, 1), (1, .getfield 24, 3), (4, .invokevirtual 137, 3), (7, .lstore_n 1, 1), (8, .aload_n 0, 1), (9, .lload_n 1, 1), (10, .invokevirtual 140, 3), (13, .iconst (-1), 1), (14, .if_icmp .eq 10, 3), (17, .aload_n 0, 1), (18, .getfield 24, 3), (21, .invokevirtual 67, 3), (24, .aload_n 0, 1), (25, .getfield 24, 3), (28, .bipush 32, 2), (30, .invokevirtual 123, 3), (33, .lload_n 1, 1), (34, .lreturn, 1)]
set_option maxRecDepth 100000 in
theorem zd_53 : ∀ q ∈ zt_53, pz_dq prog_4_method_9_code q.1 q.2.1 q.2.2 = true := List.all_eq_true.mp (show (zt_53.all fun q => pz_dq prog_4_method_9_code q.1 q.2.1 q.2.2) = true by decide +kernel)
set_option maxRecDepth 100000 in
theorem zc_53 : zk_V 53 zt_53 := zk_chk_ok (cb := prog_4_method_9_code) (by rfl) zd_53 (by decide +kernel) (by decide +kernel)
def zt_54 : zk_T := [(0, .aload_n 0, 1), (1, .getfield 63, 3), (4, .aload_n 0, 1), (5, .getfield 60, 3), (8, .if_icmp .ge 15, 3), (11, .aload_n 0, 1), (12, .getfield 27, 3), (15, .aload_n 0, 1), (16, .getfield 63, 3), (19, .laload, 1), (20, .goto 4, 3), (23, .lconst 0, 1), (24, .lreturn, 1)]
set_option maxRecDepth 100000 in
theorem zd_54 : ∀ q ∈ zt_54, pz_dq prog_11_method_21_code q.1 q.2.1 q.2.2 = true := List.all_eq_true.mp (show (zt_54.all fun q => pz_dq prog_11_method_21_code q.1 q.2.1 q.2.2) = true by decide +kernel)
set_option maxRecDepth 100000 in
theorem zc_54 : zk_V 54 zt_54 := zk_chk_ok (cb := prog_11_method_21_code) (by rfl) zd_54 (by decide +kernel) (by decide +kernel)
def zt_55 : zk_T := [(0, .iconst 0, 1), (1, .istore_n 3, 1), (2, .iload_n 3, 1), (3, .aload_n 0, 1), (4, .getfield 31, 3), (7, .if_icmp .ge 22, 3), (10, .aload_n 0, 1), (11, .getfield 11, 3), (14, .iload_n 3, 1), (15, .laload, 1), (16, .lload_n 1, 1), (17, .lcmp, 1), (18, .ifCond .ne 5, 3), (21, .iload_n 3, 1), (22, .ireturn, 1), (23, .iinc 3 1, 3), (26, .goto (-24), 3), (29, .iconst (-1), 1), (30, .ireturn, 1)]
set_option maxRecDepth 100000 in
theorem zd_55 : ∀ q ∈ zt_55, pz_dq prog_4_method_8_code q.1 q.2.1 q.2.2 = true := List.all_eq_true.mp (show (zt_55.all fun q => pz_dq prog_4_method_8_code q.1 q.2.1 q.2.2) = true by decide +kernel)
set_option maxRecDepth 100000 in
theorem zc_55 : zk_V 55 zt_55 := zk_chk_ok (cb := prog_4_method_8_code) (by rfl) zd_55 (by decide +kernel) (by decide +kernel)
def zt_56 : zk_T := [(0, .aload_n 0, 1), (1, .getfield 31, 3), (4, .bipush 50, 2), (6, .if_icmp .ge 33, 3), (9, .aload_n 0, 1), (10, .getfield 11, 3), (13, .aload_n 0, 1), (14, .getfield 31, 3), (17, .lload_n 1, 1), (18, .lastore, 1), (19, .aload_n 0, 1), (20, .getfield 15, 3), (23, .aload_n 0, 1), (24, .getfield 31, 3), (27, .iload_n 3, 1), (28, .iastore, 1), (29, .aload_n 0, 1), (30, .dup, 1), (31, .getfield 31, 3), (34, .iconst 1, 1), (35, .iadd, 1), (36, .putfield 31, 3), (39, .return_, 1)]
set_option maxRecDepth 100000 in
theorem zd_56 : ∀ q ∈ zt_56, pz_dq prog_4_method_10_code q.1 q.2.1 q.2.2 = true := List.all_eq_true.mp (show (zt_56.all fun q => pz_dq prog_4_method_10_code q.1 q.2.1 q.2.2) = true by decide +kernel)
set_option maxRecDepth 100000 in
theorem zc_56 : zk_V 56 zt_56 := zk_chk_ok (cb := prog_4_method_10_code) (by rfl) zd_56 (by decide +kernel) (by decide +kernel)
def zt_57 : zk_T := [(0, .iconst 0, 1), (1, .istore_n 1, 1), (2, .iload_n 1, 1), (3, .iconst 5, 1), (4, .if_icmp .ge 90, 3), (7, .aload_n 0, 1), (8, .getfield 24, 3), (11, .invokevirtual 50, 3), (14, .bipush 34, 2), (16, .if_icmp .ne 78, 3), (19, .aload_n 0, 1), (20, .getfield 24, 3), (23, .invokevirtual 134, 3), (26, .aload_n 0, 1), (27, .aload_n 0, 1), (28, .invokevirtual 127, 3), (31, .iconst 0, 1), (32, .invokevirtual 131, 3), (35, .aload_n 0, 1), (36, .getfield 21, 3), (39, .iload_n 1, 1), (40, .aload_n 0, 1), (41, .getfield 24, 3), (44, .invokevirtual 50, 3), (47, .iconst 5, 1), (48, .if_icmp .ne 7, 3), (51, .iconst 1, 1), (52, .goto 4, 3), (55, .iconst 0, 1), (56, .iastore, 1), (57, .aload_n 0, 1), (58, .getfield 24, 3), (61, .aload_n 0, 1), (62, .getfield 21, 3), (65, .iload_n 1, 1), (66, .iaload, 1), (67, .iconst 1, 1), (68, .if_icmp .ne 7, 3), (71, .iconst 5, 1), (72, .goto 4, 3), (75, .iconst 4, 1), (76, .invokevirtual 123, 3), (79, .aload_n 0, 1), (80, .getfield 24, 3), (83, .bipush 9, 2), (85, .invokevirtual 123, 3), (88, .iinc 1 1, 3), (91, .goto (-89), 3), (94, .iload_n 1, 1), (95, .ireturn, 1)]
set_option maxRecDepth 100000 in
theorem zd_57 : ∀ q ∈ zt_57, pz_dq prog_4_method_7_code q.1 q.2.1 q.2.2 = true := List.all_eq_true.mp (show (zt_57.all fun q => pz_dq prog_4_method_7_code q.1 q.2.1 q.2.2) = true by decide +kernel)
set_option maxRecDepth 100000 in
theorem zc_57 : zk_V 57 zt_57 := zk_chk_ok (cb := prog_4_method_7_code) (by rfl) zd_57 (by decide +kernel) (by decide +kernel)
def zt_58 : zk_T := [(0, .aload_n 0, 1), (1, .iload_n 1, 1), (2, .putfield 38, 3), (5, .aload_n 0, 1), (6, .iload_n 2, 1), (7, .putfield 48, 3), (10, .aload_n 0, 1), (11, .iconst 0, 1), (12, .putfield 51, 3), (15, .iconst 0, 1), (16, .istore_n 3, 1), (17, .iload_n 3, 1), (18, .iload_n 2, 1), (19, .if_icmp .ge 27, 3), (22, .aload_n 0, 1), (23, .getfield 18, 3), (26, .iload_n 3, 1), (27, .aload_n 0, 1), (28, .iload_n 3, 1), (29, .invokevirtual 54, 3), (32, .iastore, 1), (33, .aload_n 0, 1), (34, .getfield 21, 3), (37, .iload_n 3, 1), (38, .iconst 0, 1), (39, .bastore, 1), (40, .iinc 3 1, 3), (43, .goto (-26), 3), (46, .aload_n 0, 1), (47, .getfield 25, 3), (50, .iconst 2, 1), (51, .invokestatic 42, 3), (54, .aload_n 0, 1), (55, .iconst 0, 1), (56, .putfield 58, 3), (59, .return_, 1)]
set_option maxRecDepth 100000 in
theorem zd_58 : ∀ q ∈ zt_58, pz_dq prog_3_method_2_code q.1 q.2.1 q.2.2 = true := List.all_eq_true.mp (show (zt_58.all fun q => pz_dq prog_3_method_2_code q.1 q.2.1 q.2.2) = true by decide +kernel)
set_option maxRecDepth 100000 in
theorem zc_58 : zk_V 58 zt_58 := zk_chk_ok (cb := prog_3_method_2_code) (by rfl) zd_58 (by decide +kernel) (by decide +kernel)
def zt_59 : zk_T := [(0, .iconst 2, 1), (1, .iconst 1, 1), (2, .aload_n 0, 1), (3, .getfield 38, 3), (6, .iadd, 1), (7, .iload_n 1, 1), (8, .iadd, 1), (9, .imul, 1), (10, .ireturn, 1)]
set_option maxRecDepth 100000 in
theorem zd_59 : ∀ q ∈ zt_59, pz_dq prog_3_method_6_code q.1 q.2.1 q.2.2 = true := List.all_eq_true.mp (show (zt_59.all fun q => pz_dq prog_3_method_6_code q.1 q.2.1 q.2.2) = true by decide +kernel)
set_option maxRecDepth 100000 in
theorem zc_59 : zk_V 59 zt_59 := zk_chk_ok (cb := prog_3_method_6_code) (by rfl) zd_59 (by decide +kernel) (by decide +kernel)
def zt_61 : zk_T := [(0, .aload_n 0, 1), (1, .getfield 31, 3), (4, .iconst (-1), 1), (5, .if_icmp .eq 7, 3), (8, .iconst 1, 1), (9, .goto 4, 3), (12, .iconst 0, 1), (13, .ireturn, 1)]
set_option maxRecDepth 100000 in
theorem zd_61 : ∀ q ∈ zt_61, pz_dq prog_11_method_26_code q.1 q.2.1 q.2.2 = true := List.all_eq_true.mp (show (zt_61.all fun q => pz_dq prog_11_method_26_code q.1 q.2.1 q.2.2) = true by decide +kernel)
set_option maxRecDepth 100000 in
theorem zc_61 : zk_V 61 zt_61 := zk_chk_ok (cb := prog_11_method_26_code) (by rfl) zd_61 (by decide +kernel) (by decide +kernel)
def zt_69 : zk_T := [(0, .aload_n 0, 1), (1, .getfield 51, 3), (4, .ireturn, 1)]
set_option maxRecDepth 100000 in
theorem zd_69 : ∀ q ∈ zt_69, pz_dq prog_3_method_5_code q.1 q.2.1 q.2.2 = true := List.all_eq_true.mp (show (zt_69.all fun q => pz_dq prog_3_method_5_code q.1 q.2.1 q.2.2) = true by decide +kernel)
set_option maxRecDepth 100000 in
theorem zc_69 : zk_V 69 zt_69 := zk_chk_ok (cb := prog_3_method_5_code) (by rfl) zd_69 (by decide +kernel) (by decide +kernel)
def zt_71 : zk_T := [(0, .aload_n 0, 1), (1, .getfield 51, 3), (4, .bipush 59, 2), (6, .invokestatic 65, 3), (9, .istore_n 3, 1), (10, .aload_n 0, 1), (11, .getfield 11, 3), (14, .iload_n 3, 1), (15, .iload_n 1, 1), (16, .iastore, 1), (17, .aload_n 0, 1), (18, .getfield 15, 3), (21, .iload_n 3, 1), (22, .iload_n 2, 1), (23, .iastore, 1), (24, .aload_n 0, 1), (25, .iload_n 3, 1), (26, .iconst 1, 1), (27, .iadd, 1), (28, .putfield 51, 3), (31, .aload_n 0, 1), (32, .iconst 0, 1), (33, .putfield 58, 3), (36, .aload_n 0, 1), (37, .iload_n 3, 1), (38, .invokevirtual 62, 3), (41, .iconst 2, 1), (42, .idiv, 1), (43, .ireturn, 1)]
set_option maxRecDepth 100000 in
theorem zd_71 : ∀ q ∈ zt_71, pz_dq prog_3_method_10_code q.1 q.2.1 q.2.2 = true := List.all_eq_true.mp (show (zt_71.all fun q => pz_dq prog_3_method_10_code q.1 q.2.1 q.2.2) = true by decide +kernel)
set_option maxRecDepth 100000 in
theorem zc_71 : zk_V 71 zt_71 := zk_chk_ok (cb := prog_3_method_10_code) (by rfl) zd_71 (by decide +kernel) (by decide +kernel)
