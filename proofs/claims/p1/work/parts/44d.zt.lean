/-! ===== decoded instructions (written by wip/whole/gen/part46.py) ===== -/
def zt_72 : zk_T := [(0, .iconst 2, 1), (1, .iconst 1, 1), (2, .aload_n 0, 1), (3, .getfield 38, 3), (6, .iadd, 1), (7, .aload_n 0, 1), (8, .getfield 48, 3), (11, .iadd, 1), (12, .iload_n 1, 1), (13, .iadd, 1), (14, .imul, 1), (15, .ireturn, 1)]
set_option maxRecDepth 100000 in
theorem zd_72 : ∀ q ∈ zt_72, pz_dq prog_3_method_7_code q.1 q.2.1 q.2.2 = true := List.all_eq_true.mp (show (zt_72.all fun q => pz_dq prog_3_method_7_code q.1 q.2.1 q.2.2) = true by decide +kernel)
set_option maxRecDepth 100000 in
theorem zc_72 : zk_V 72 zt_72 := zk_chk_ok (cb := prog_3_method_7_code) (by rfl) zd_72 (by decide +kernel) (by decide +kernel)
def zt_76 : zk_T := [(0, .aload_n 0, 1), (1, .getfield 25, 3), (4, .iload_n 1, 1), (5, .iload_n 2, 1), (6, .iastore, 1), (7, .aload_n 0, 1), (8, .iconst 0, 1), (9, .putfield 58, 3), (12, .return_, 1)]
set_option maxRecDepth 100000 in
theorem zd_76 : ∀ q ∈ zt_76, pz_dq prog_3_method_13_code q.1 q.2.1 q.2.2 = true := List.all_eq_true.mp (show (zt_76.all fun q => pz_dq prog_3_method_13_code q.1 q.2.1 q.2.2) = true by decide +kernel)
set_option maxRecDepth 100000 in
theorem zc_76 : zk_V 76 zt_76 := zk_chk_ok (cb := prog_3_method_13_code) (by rfl) zd_76 (by decide +kernel) (by decide +kernel)
def zt_77 : zk_T := [(0, .aload_n 0, 1), (1, .getfield 31, 3), (4, .ireturn, 1)]
set_option maxRecDepth 100000 in
theorem zd_77 : ∀ q ∈ zt_77, pz_dq prog_11_method_27_code q.1 q.2.1 q.2.2 = true := List.all_eq_true.mp (show (zt_77.all fun q => pz_dq prog_11_method_27_code q.1 q.2.1 q.2.2) = true by decide +kernel)
set_option maxRecDepth 100000 in
theorem zc_77 : zk_V 77 zt_77 := zk_chk_ok (cb := prog_11_method_27_code) (by rfl) zd_77 (by decide +kernel) (by decide +kernel)
def zt_78 : zk_T := [(0, .aload_n 0, 1), (1, .getfield 10, 3), (4, .iconst 0, 1), (5, .invokevirtual 109, 3), (8, .iload_n 1, 1), (9, .iconst (-1), 1), (10, .if_icmp .ne 28, 3), (13, .aload_n 0, 1), (14, .getfield 89, 3), (17, .astore_n 2, 1), (18, .aload_n 0, 1), (19, .aload_n 0, 1), (20, .getfield 92, 3), (23, .putfield 89, 3), (26, .aload_n 0, 1), (27, .aload_n 2, 1), (28, .putfield 92, 3), (31, .aload_n 0, 1), (32, .getfield 67, 3), (35, .invokevirtual 125, 3), (38, .return_, 1)]
set_option maxRecDepth 100000 in
theorem zd_78 : ∀ q ∈ zt_78, pz_dq prog_1_method_37_code q.1 q.2.1 q.2.2 = true := List.all_eq_true.mp (show (zt_78.all fun q => pz_dq prog_1_method_37_code q.1 q.2.1 q.2.2) = true by decide +kernel)
set_option maxRecDepth 100000 in
theorem zc_78 : zk_V 78 zt_78 := zk_chk_ok (cb := prog_1_method_37_code) (by rfl) zd_78 (by decide +kernel) (by decide +kernel)
def zt_79 : zk_T := [(0, .aload_n 0, 1), (1, .iload_n 1, 1), (2, .putfield 35, 3), (5, .return_, 1)]
set_option maxRecDepth 100000 in
theorem zd_79 : ∀ q ∈ zt_79, pz_dq prog_11_method_4_code q.1 q.2.1 q.2.2 = true := List.all_eq_true.mp (show (zt_79.all fun q => pz_dq prog_11_method_4_code q.1 q.2.1 q.2.2) = true by decide +kernel)
set_option maxRecDepth 100000 in
theorem zc_79 : zk_V 79 zt_79 := zk_chk_ok (cb := prog_11_method_4_code) (by rfl) zd_79 (by decide +kernel) (by decide +kernel)
def zt_80 : zk_T := [(0, .aload_n 0, 1), (1, .iconst 0, 1), (2, .putfield 42, 3), (5, .return_, 1)]
set_option maxRecDepth 100000 in
theorem zd_80 : ∀ q ∈ zt_80, pz_dq prog_5_method_2_code q.1 q.2.1 q.2.2 = true := List.all_eq_true.mp (show (zt_80.all fun q => pz_dq prog_5_method_2_code q.1 q.2.1 q.2.2) = true by decide +kernel)
set_option maxRecDepth 100000 in
theorem zc_80 : zk_V 80 zt_80 := zk_chk_ok (cb := prog_5_method_2_code) (by rfl) zd_80 (by decide +kernel) (by decide +kernel)
def zt_81 : zk_T := [(0, .aload_n 0, 1), (1, .getfield 42, 3), (4, .aload_n 0, 1), (5, .getfield 92, 3), (8, .invokevirtual 208, 3), (11, .istore_n 1, 1), (12, .aload_n 0, 1), (13, .iload_n 1, 1), (14, .invokevirtual 205, 3), (17, .iload_n 1, 1), (18, .ireturn, 1)]
set_option maxRecDepth 100000 in
theorem zd_81 : ∀ q ∈ zt_81, pz_dq prog_1_method_17_code q.1 q.2.1 q.2.2 = true := List.all_eq_true.mp (show (zt_81.all fun q => pz_dq prog_1_method_17_code q.1 q.2.1 q.2.2) = true by decide +kernel)
set_option maxRecDepth 100000 in
theorem zc_81 : zk_V 81 zt_81 := zk_chk_ok (cb := prog_1_method_17_code) (by rfl) zd_81 (by decide +kernel) (by decide +kernel)
def zt_82 : zk_T := [(0, .aload_n 0, 1), (1, .invokevirtual 17, 3), (4, .aload_n 0, 1), (5, .getfield 11, 3), (8, .bipush 39, 2), (10, .invokevirtual 22, 3), (13, .aload_n 0, 1), (14, .iconst 1, 1), (15, .bipush 68, 2), (17, .invokevirtual 26, 3), (20, .istore_n 2, 1), (21, .aload_n 0, 1), (22, .iconst 1, 1), (23, .iconst 3, 1), (24, .invokevirtual 26, 3), (27, .istore_n 3, 1), (28, .aload_n 0, 1), (29, .iconst 0, 1), (30, .iconst 5, 1), (31, .invokevirtual 26, 3), (34, .istore 4, 2), (36, .aload_n 0, 1), (37, .bipush 6, 2), (39, .bipush 6, 2), (41, .invokevirtual 26, 3), (44, .pop, 1), (45, .iload_n 2, 1), (46, .iload_n 3, 1), (47, .isub, 1), (48, .iload 4, 2), (50, .isub, 1), (51, .istore 5, 2), (53, .iload 5, 2), (55, .ifCond .lt 10, 3), (58, .iload 5, 2), (60, .bipush 60, 2), (62, .if_icmp .le 10, 3), (65, .aload_n 0, 1), (66, .getfield 11, 3), (69, .invokevirtual 30, 3), (72, .aload_n 0, 1), (73, .iload 5, 2), (75, .iload 5, 2), (77, .invokevirtual 26, 3), (80, .pop, 1), (81, .aload_n 0, 1), (82, .getfield 11, 3), (85, .invokevirtual 33, 3), (88, .ifCond .ne 20, 3), (91, .aload_n 1, 1), (92, .iload_n 3, 1), (93, .iload 4, 2), (95, .invokevirtual 37, 3), (98, .aload_n 0, 1), (99, .aload_n 1, 1), (100, .iload_n 3, 1), (101, .iload 4, 2), (103, .iload 5, 2), (105, .invokevirtual 41, 3), (108, .aload_n 0, 1), (109, .getfield 11, 3), (112, .invokevirtual 45, 3), (115, .ireturn, 1)]
set_option maxRecDepth 100000 in
theorem zd_82 : ∀ q ∈ zt_82, pz_dq prog_6_method_2_code q.1 q.2.1 q.2.2 = true := List.all_eq_true.mp (show (zt_82.all fun q => pz_dq prog_6_method_2_code q.1 q.2.1 q.2.2) = true by decide +kernel)
set_option maxRecDepth 100000 in
theorem zc_82 : zk_V 82 zt_82 := zk_chk_ok (cb := prog_6_method_2_code) (by rfl) zd_82 (by decide +kernel) (by decide +kernel)
def zt_83 : zk_T := [(0, .aload_n 0, 1), (1, .getfield 11, 3), (4, .invokevirtual 69, 3), (7, .iconst 0, 1), (8, .istore_n 1, 1), (9, .iconst 0, 1), (10, .istore_n 2, 1), (11, .iload_n 2, 1), (12, .sipush 400, 3), (15, .if_icmp .ge 73, 3), (18, .iload_n 1, 1), (19, .aload_n 0, 1), (20, .getfield 11, 3), (23, .invokevirtual 72, 3), (26, .if_icmp .ge 62, 3), (29, .aload_n 0, 1), (30, .getfield 11, 3), (33, .iload_n 1, 1), (34, .invokevirtual 75, 3), (37, .bipush 32, 2), (39, .if_icmp .ne 9, 3), (42, .iinc 1 1, 3), (45, .goto 37, 3), (48, .aload_n 0, 1), (49, .getfield 11, 3), (52, .iload_n 1, 1), (53, .ldc 78, 2), (55, .invokevirtual 80, 3), (58, .ifCond .eq 18, 3), (61, .aload_n 0, 1), (62, .getfield 11, 3), (65, .bipush 39, 2), (67, .iload_n 1, 1), (68, .iconst 3, 1), (69, .invokevirtual 84, 3), (72, .istore_n 1, 1), (73, .goto 9, 3), (76, .aload_n 0, 1), (77, .iload_n 1, 1), (78, .invokevirtual 88, 3), (81, .istore_n 1, 1), (82, .iinc 2 1, 3), (85, .goto (-74), 3), (88, .aload_n 0, 1), (89, .getfield 11, 3), (92, .invokevirtual 91, 3), (95, .return_, 1)]
set_option maxRecDepth 100000 in
theorem zd_83 : ∀ q ∈ zt_83, pz_dq prog_6_method_4_code q.1 q.2.1 q.2.2 = true := List.all_eq_true.mp (show (zt_83.all fun q => pz_dq prog_6_method_4_code q.1 q.2.1 q.2.2) = true by decide +kernel)
set_option maxRecDepth 100000 in
theorem zc_83 : zk_V 83 zt_83 := zk_chk_ok (cb := prog_6_method_4_code) (by rfl) zd_83 (by decide +kernel) (by decide +kernel)
def zt_86 : zk_T := [(0, .aload_n 0, 1), (1, .getfield 11, 3), (4, .invokevirtual 105, 3), (7, .istore_n 3, 1), (8, .iload_n 3, 1), (9, .iload_n 1, 1), (10, .if_icmp .lt 8, 3), (13, .iload_n 3, 1), (14, .iload_n 2, 1), (15, .if_icmp .le 10, 3), (18, .aload_n 0, 1), (19, .getfield 11, 3), (22, .invokevirtual 30, 3), (25, .aload_n 0, 1), (26, .getfield 11, 3), (29, .bipush 40, 2), (31, .invokevirtual 22, 3), (34, .aload_n 0, 1), (35, .getfield 11, 3), (38, .invokevirtual 33, 3), (41, .ifCond .eq 7, 3), (44, .iload_n 1, 1), (45, .goto 4, 3), (48, .iload_n 3, 1), (49, .ireturn, 1)]
set_option maxRecDepth 100000 in
theorem zd_86 : ∀ q ∈ zt_86, pz_dq prog_6_method_6_code q.1 q.2.1 q.2.2 = true := List.all_eq_true.mp (show (zt_86.all fun q => pz_dq prog_6_method_6_code q.1 q.2.1 q.2.2) = true by decide +kernel)
set_option maxRecDepth 100000 in
theorem zc_86 : zk_V 86 zt_86 := zk_chk_ok (cb := prog_6_method_6_code) (by rfl) zd_86 (by decide +kernel) (by decide +kernel)
def zt_87 : zk_T := [(0, .aload_n 0, 1), (1, .getfield 63, 3), (4, .aload_n 0, 1), (5, .getfield 60, 3), (8, .if_icmp .ge 15, 3), (11, .aload_n 0, 1), (12, .getfield 21, 3), (15, .aload_n 0, 1), (16, .getfield 63, 3), (19, .iaload, 1), (20, .goto 4, 3), (23, .iconst 0, 1), (24, .ireturn, 1)]
set_option maxRecDepth 100000 in
theorem zd_87 : ∀ q ∈ zt_87, pz_dq prog_11_method_19_code q.1 q.2.1 q.2.2 = true := List.all_eq_true.mp (show (zt_87.all fun q => pz_dq prog_11_method_19_code q.1 q.2.1 q.2.2) = true by decide +kernel)
set_option maxRecDepth 100000 in
theorem zc_87 : zk_V 87 zt_87 := zk_chk_ok (cb := prog_11_method_19_code) (by rfl) zd_87 (by decide +kernel) (by decide +kernel)
def zt_89 : zk_T := [(0, .aload_n 2, 1), (1, .iconst 0, 1), (2, .aload_n 0, 1), (3, .iload_n 1, 1), (4, .invokevirtual 7, 3), (7, .i2l, 1), (8, .lastore, 1), (9, .goto 9, 3), (12, .astore_n 3, 1), (13, .iconst 1, 1), (14, .ireturn, 1), (15, .astore_n 3, 1), (16, .iconst 2, 1), (17, .ireturn, 1), (18, .iconst 0, 1), (19, .ireturn, 1)]
set_option maxRecDepth 100000 in
theorem zd_89 : ∀ q ∈ zt_89, pz_dq method_3_code q.1 q.2.1 q.2.2 = true := List.all_eq_true.mp (show (zt_89.all fun q => pz_dq method_3_code q.1 q.2.1 q.2.2) = true by decide +kernel)
set_option maxRecDepth 100000 in
theorem zc_89 : zk_V 89 zt_89 := zk_chk_ok (cb := method_3_code) (by rfl) zd_89 (by decide +kernel) (by decide +kernel)
def zt_90 : zk_T := [(0, .iconst 0, 1), (1, .istore_n 2, 1), (2, .iconst 0, 1), (3, .istore_n 3, 1), (4, .iload_n 3, 1), (5, .iconst 4, 1), (6, .if_icmp .ge 61, 3), (9, .iload_n 1, 1), (10, .bipush 8, 2), (12, .iload_n 3, 1), (13, .imul, 1), (14, .iushr, 1), (15, .sipush 255, 3), (18, .iand, 1), (19, .istore 4, 2), (21, .iload 4, 2), (23, .ifCond .eq 25, 3), (26, .iload 4, 2), (28, .bipush 32, 2), (30, .if_icmp .lt 10, 3), (33, .iload 4, 2), (35, .bipush 126, 2), (37, .if_icmp .le 11, 3), (40, .new 95, 3), (43, .dup, 1), (44, .invokespecial 97, 3), (47, .athrow, 1), (48, .iload_n 2, 1), (49, .iload 4, 2), (51, .ifCond .ne 7, 3), (54, .iconst 0, 1), (55, .goto 4, 3), (58, .iconst 1, 1), (59, .iadd, 1), (60, .istore_n 2, 1), (61, .iinc 3 1, 3), (64, .goto (-60), 3), (67, .aload_n 0, 1), (68, .getfield 10, 3), (71, .invokevirtual 98, 3), (74, .iload_n 2, 1), (75, .iadd, 1), (76, .sipush 400, 3), (79, .if_icmp .le 11, 3), (82, .new 102, 3), (85, .dup, 1), (86, .invokespecial 104, 3), (89, .athrow, 1), (90, .iconst 0, 1), (91, .istore_n 3, 1), (92, .iload_n 3, 1), (93, .iconst 4, 1), (94, .if_icmp .ge 26, 3), (97, .aload_n 0, 1), (98, .getfield 10, 3), (101, .iload_n 1, 1), (102, .bipush 8, 2), (104, .iload_n 3, 1), (105, .imul, 1), (106, .iushr, 1), (107, .sipush 255, 3), (110, .iand, 1), (111, .invokevirtual 105, 3), (114, .iinc 3 1, 3), (117, .goto (-25), 3), (120, .aload_n 0, 1), (121, .getfield 10, 3), (124, .invokevirtual 98, 3), (127, .ireturn, 1)]
set_option maxRecDepth 100000 in
theorem zd_90 : ∀ q ∈ zt_90, pz_dq prog_1_method_2_code q.1 q.2.1 q.2.2 = true := List.all_eq_true.mp (show (zt_90.all fun q => pz_dq prog_1_method_2_code q.1 q.2.1 q.2.2) = true by decide +kernel)
set_option maxRecDepth 100000 in
theorem zc_90 : zk_V 90 zt_90 := zk_chk_ok (cb := prog_1_method_2_code) (by rfl) zd_90 (by decide +kernel) (by decide +kernel)
def zt_96 : zk_T := [(0, .iload_n 1, 1), (1, .ifCond .eq 33, 3), (4, .aload_n 0, 1), (5, .getfield 35, 3), (8, .sipush 400, 3), (11, .if_icmp .ge 23, 3), (14, .aload_n 0, 1), (15, .getfield 9, 3), (18, .aload_n 0, 1), (19, .getfield 35, 3), (22, .iload_n 1, 1), (23, .iastore, 1), (24, .aload_n 0, 1), (25, .dup, 1), (26, .getfield 35, 3), (29, .iconst 1, 1), (30, .iadd, 1), (31, .putfield 35, 3), (34, .return_, 1)]
set_option maxRecDepth 100000 in
theorem zd_96 : ∀ q ∈ zt_96, pz_dq prog_11_method_3_code q.1 q.2.1 q.2.2 = true := List.all_eq_true.mp (show (zt_96.all fun q => pz_dq prog_11_method_3_code q.1 q.2.1 q.2.2) = true by decide +kernel)
set_option maxRecDepth 100000 in
theorem zc_96 : zk_V 96 zt_96 := zk_chk_ok (cb := prog_11_method_3_code) (by rfl) zd_96 (by decide +kernel) (by decide +kernel)
def zt_97 : zk_T := [(0, .aload_n 0, 1), (1, .iload_n 1, 1), (2, .invokevirtual 17, 3), (5, .goto 6, 3), (8, .astore_n 2, 1), (9, .iconst 1, 1), (10, .ireturn, 1), (11, .iconst 0, 1), (12, .ireturn, 1)]
set_option maxRecDepth 100000 in
theorem zd_97 : ∀ q ∈ zt_97, pz_dq method_4_code q.1 q.2.1 q.2.2 = true := List.all_eq_true.mp (show (zt_97.all fun q => pz_dq method_4_code q.1 q.2.1 q.2.2) = true by decide +kernel)
set_option maxRecDepth 100000 in
theorem zc_97 : zk_V 97 zt_97 := zk_chk_ok (cb := method_4_code) (by rfl) zd_97 (by decide +kernel) (by decide +kernel)
def zt_98 : zk_T := [(0, .iload_n 1, 1), (1, .ifCond .lt 14, 3), (4, .iload_n 1, 1), (5, .aload_n 0, 1), (6, .getfield 10, 3), (9, .invokevirtual 98, 3), (12, .if_icmp .le 11, 3), (15, .new 95, 3), (18, .dup, 1), (19, .invokespecial 97, 3), (22, .athrow, 1), (23, .aload_n 0, 1), (24, .getfield 10, 3), (27, .iload_n 1, 1), (28, .invokevirtual 109, 3), (31, .return_, 1)]
set_option maxRecDepth 100000 in
theorem zd_98 : ∀ q ∈ zt_98, pz_dq prog_1_method_3_code q.1 q.2.1 q.2.2 = true := List.all_eq_true.mp (show (zt_98.all fun q => pz_dq prog_1_method_3_code q.1 q.2.1 q.2.2) = true by decide +kernel)
set_option maxRecDepth 100000 in
theorem zc_98 : zk_V 98 zt_98 := zk_chk_ok (cb := prog_1_method_3_code) (by rfl) zd_98 (by decide +kernel) (by decide +kernel)
def zt_99 : zk_T := [(0, .aload_n 2, 1), (1, .iconst 0, 1), (2, .aload_n 0, 1), (3, .iload_n 1, 1), (4, .invokevirtual 21, 3), (7, .i2l, 1), (8, .lastore, 1), (9, .goto 6, 3), (12, .astore_n 3, 1), (13, .iconst 1, 1), (14, .ireturn, 1), (15, .iconst 0, 1), (16, .ireturn, 1)]
set_option maxRecDepth 100000 in
theorem zd_99 : ∀ q ∈ zt_99, pz_dq method_5_code q.1 q.2.1 q.2.2 = true := List.all_eq_true.mp (show (zt_99.all fun q => pz_dq method_5_code q.1 q.2.1 q.2.2) = true by decide +kernel)
set_option maxRecDepth 100000 in
theorem zc_99 : zk_V 99 zt_99 := zk_chk_ok (cb := method_5_code) (by rfl) zd_99 (by decide +kernel) (by decide +kernel)
def zt_100 : zk_T := [(0, .iload_n 1, 1), (1, .invokestatic 112, 3), (4, .aload_n 0, 1), (5, .getfield 21, 3), (8, .invokevirtual 115, 3), (11, .aload_n 0, 1), (12, .getfield 28, 3), (15, .aload_n 0, 1), (16, .getfield 86, 3), (19, .invokevirtual 118, 3), (22, .istore_n 2, 1), (23, .aload_n 0, 1), (24, .getfield 10, 3), (27, .iconst 0, 1), (28, .invokevirtual 109, 3), (31, .iload_n 2, 1), (32, .iconst (-1), 1), (33, .if_icmp .ne 43, 3), (36, .aload_n 0, 1), (37, .getfield 49, 3), (40, .iload_n 1, 1), (41, .aaload, 1), (42, .astore_n 3, 1), (43, .aload_n 0, 1), (44, .getfield 49, 3), (47, .iload_n 1, 1), (48, .aload_n 0, 1), (49, .getfield 86, 3), (52, .aastore, 1), (53, .aload_n 0, 1), (54, .aload_n 3, 1), (55, .putfield 86, 3), (58, .aload_n 0, 1), (59, .invokevirtual 122, 3), (62, .aload_n 0, 1), (63, .getfield 67, 3), (66, .invokevirtual 125, 3), (69, .aload_n 0, 1), (70, .getfield 71, 3), (73, .invokevirtual 125, 3), (76, .iload_n 2, 1), (77, .ireturn, 1)]
set_option maxRecDepth 100000 in
theorem zd_100 : ∀ q ∈ zt_100, pz_dq prog_1_method_4_code q.1 q.2.1 q.2.2 = true := List.all_eq_true.mp (show (zt_100.all fun q => pz_dq prog_1_method_4_code q.1 q.2.1 q.2.2) = true by decide +kernel)
set_option maxRecDepth 100000 in
theorem zc_100 : zk_V 100 zt_100 := zk_chk_ok (cb := prog_1_method_4_code) (by rfl) zd_100 (by decide +kernel) (by decide +kernel)
def zt_101 : zk_T := [(0, .iload_n 0, 1), (1, .ifCond .lt 8, 3), (4, .iload_n 0, 1), (5, .iconst 2, 1), (6, .if_icmp .lt 11, 3), (9, .new 209, 3), (12, .dup, 1), (13, .invokespecial 211, 3), (16, .athrow, 1), (17, .return_, 1)]
set_option maxRecDepth 100000 in
theorem zd_101 : ∀ q ∈ zt_101, pz_dq prog_1_method_29_code q.1 q.2.1 q.2.2 = true := List.all_eq_true.mp (show (zt_101.all fun q => pz_dq prog_1_method_29_code q.1 q.2.1 q.2.2) = true by decide +kernel)
set_option maxRecDepth 100000 in
theorem zc_101 : zk_V 101 zt_101 := zk_chk_ok (cb := prog_1_method_29_code) (by rfl) zd_101 (by decide +kernel) (by decide +kernel)
def zt_103 : zk_T := [(0, .aload_n 0, 1), (1, .getfield 9, 3), (4, .invokevirtual 15, 3), (7, .iconst 0, 1), (8, .istore_n 1, 1), (9, .iconst 0, 1), (10, .istore_n 2, 1), (11, .iload_n 2, 1), (12, .sipush 400, 3), (15, .if_icmp .ge 26, 3), (18, .iload_n 1, 1), (19, .aload_n 0, 1), (20, .getfield 9, 3), (23, .invokevirtual 20, 3), (26, .if_icmp .ge 15, 3), (29, .aload_n 0, 1), (30, .iload_n 1, 1), (31, .invokevirtual 24, 3), (34, .istore_n 1, 1), (35, .iinc 2 1, 3), (38, .goto (-27), 3), (41, .aload_n 0, 1), (42, .getfield 9, 3), (45, .invokevirtual 28, 3), (48, .return_, 1)]
set_option maxRecDepth 100000 in
theorem zd_103 : ∀ q ∈ zt_103, pz_dq prog_8_method_2_code q.1 q.2.1 q.2.2 = true := List.all_eq_true.mp (show (zt_103.all fun q => pz_dq prog_8_method_2_code q.1 q.2.1 q.2.2) = true by decide +kernel)
set_option maxRecDepth 100000 in
theorem zc_103 : zk_V 103 zt_103 := zk_chk_ok (cb := prog_8_method_2_code) (by rfl) zd_103 (by decide +kernel) (by decide +kernel)
def zt_111 : zk_T := [(0, .aload_n 1, 1), (1, .invokevirtual 33, 3), (4, .aload_n 0, 1), (5, .iconst 0, 1), (6, .putfield 38, 3), (9, .aload_n 0, 1), (10, .iconst 0, 1), (11, .putfield 42, 3), (14, .aload_n 0, 1), (15, .iconst 0, 1), (16, .putfield 45, 3), (19, .aload_n 0, 1), (20, .iconst 0, 1), (21, .putfield 48, 3), (24, .iconst 0, 1), (25, .istore_n 2, 1), (26, .iload_n 2, 1), (27, .sipush 1600, 3), (30, .if_icmp .ge 78, 3), (33, .aload_n 0, 1), (34, .getfield 48, 3), (37, .iconst 4, 1), (38, .if_icmp .eq 70, 3), (41, .aload_n 0, 1), (42, .getfield 29, 3), (45, .invokevirtual 51, 3), (48, .ifCond .ne 60, 3), (51, .aload_n 0, 1), (52, .getfield 48, 3), (55, .ifCond .ne 11, 3), (58, .aload_n 0, 1), (59, .aload_n 1, 1), (60, .invokevirtual 57, 3), (63, .goto 39, 3), (66, .aload_n 0, 1), (67, .getfield 48, 3), (70, .iconst 1, 1), (71, .if_icmp .ne 11, 3), (74, .aload_n 0, 1), (75, .aload_n 1, 1), (76, .invokevirtual 61, 3), (79, .goto 23, 3), (82, .aload_n 0, 1), (83, .getfield 48, 3), (86, .iconst 2, 1), (87, .if_icmp .ne 10, 3), (90, .aload_n 0, 1), (91, .invokevirtual 64, 3), (94, .goto 8, 3), (97, .aload_n 0, 1), (98, .aload_n 1, 1), (99, .invokevirtual 67, 3), (102, .iinc 2 1, 3), (105, .goto (-79), 3), (108, .aload_n 1, 1), (109, .invokevirtual 70, 3), (112, .aload_n 0, 1), (113, .getfield 29, 3), (116, .invokevirtual 73, 3), (119, .ireturn, 1)]
set_option maxRecDepth 100000 in
theorem zd_111 : ∀ q ∈ zt_111, pz_dq prog_9_method_2_code q.1 q.2.1 q.2.2 = true := List.all_eq_true.mp (show (zt_111.all fun q => pz_dq prog_9_method_2_code q.1 q.2.1 q.2.2) = true by decide +kernel)
set_option maxRecDepth 100000 in
theorem zc_111 : zk_V 111 zt_111 := zk_chk_ok (cb := prog_9_method_2_code) (by rfl) zd_111 (by decide +kernel) (by decide +kernel)
