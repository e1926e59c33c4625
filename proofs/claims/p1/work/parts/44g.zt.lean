/-! ===== decoded instructions (written by wip/whole/gen/part46.py) ===== -/
def zt_221 : zk_T := [(0, .aload_n 3, 1), (1, .iconst 0, 1), (2, .aload_n 0, 1), (3, .iload_n 1, 1), (4, .iload_n 2, 1), (5, .invokevirtual 51, 3), (8, .i2l, 1), (9, .lastore, 1), (10, .goto 19, 3), (13, .astore 4, 2), (15, .iconst 1, 1), (16, .ireturn, 1), (17, .astore 4, 2), (19, .iconst 2, 1), (20, .ireturn, 1), (21, .astore 4, 2), (23, .iconst 3, 1), (24, .ireturn, 1), (25, .astore 4, 2), (27, .iconst 4, 1), (28, .ireturn, 1), (29, .iconst 0, 1), (30, .ireturn, 1)]
set_option maxRecDepth 100000 in
theorem zd_221 : ∀ q ∈ zt_221, pz_dq method_13_code q.1 q.2.1 q.2.2 = true := List.all_eq_true.mp (show (zt_221.all fun q => pz_dq method_13_code q.1 q.2.1 q.2.2) = true by decide +kernel)
set_option maxRecDepth 100000 in
theorem zc_221 : zk_V 221 zt_221 := zk_chk_ok (cb := method_13_code) (by rfl) zd_221 (by decide +kernel) (by decide +kernel)
def zt_222 : zk_T := [(0, .aload_n 0, 1), (1, .iload_n 1, 1), (2, .invokevirtual 165, 3), (5, .aload_n 0, 1), (6, .getfield 49, 3), (9, .iload_n 1, 1), (10, .aaload, 1), (11, .iconst 0, 1), (12, .invokevirtual 168, 3), (15, .astore_n 3, 1), (16, .iload_n 2, 1), (17, .ifCond .lt 11, 3), (20, .iload_n 2, 1), (21, .aload_n 3, 1), (22, .invokevirtual 172, 3), (25, .if_icmp .lt 11, 3), (28, .new 95, 3), (31, .dup, 1), (32, .invokespecial 97, 3), (35, .athrow, 1), (36, .aload_n 3, 1), (37, .iload_n 2, 1), (38, .invokevirtual 185, 3), (41, .ireturn, 1)]
set_option maxRecDepth 100000 in
theorem zd_222 : ∀ q ∈ zt_222, pz_dq prog_1_method_13_code q.1 q.2.1 q.2.2 = true := List.all_eq_true.mp (show (zt_222.all fun q => pz_dq prog_1_method_13_code q.1 q.2.1 q.2.2) = true by decide +kernel)
set_option maxRecDepth 100000 in
theorem zc_222 : zk_V 222 zt_222 := zk_chk_ok (cb := prog_1_method_13_code) (by rfl) zd_222 (by decide +kernel) (by decide +kernel)
def zt_224 : zk_T := [(0, .aload_n 2, 1), (1, .iconst 0, 1), (2, .aload_n 0, 1), (3, .iload_n 1, 1), (4, .invokevirtual 55, 3), (7, .i2l, 1), (8, .lastore, 1), (9, .goto 9, 3), (12, .astore_n 3, 1), (13, .iconst 1, 1), (14, .ireturn, 1), (15, .astore_n 3, 1), (16, .iconst 2, 1), (17, .ireturn, 1), (18, .iconst 0, 1), (19, .ireturn, 1)]
set_option maxRecDepth 100000 in
theorem zd_224 : ∀ q ∈ zt_224, pz_dq method_14_code q.1 q.2.1 q.2.2 = true := List.all_eq_true.mp (show (zt_224.all fun q => pz_dq method_14_code q.1 q.2.1 q.2.2) = true by decide +kernel)
set_option maxRecDepth 100000 in
theorem zc_224 : zk_V 224 zt_224 := zk_chk_ok (cb := method_14_code) (by rfl) zd_224 (by decide +kernel) (by decide +kernel)
def zt_225 : zk_T := [(0, .aload_n 0, 1), (1, .iload_n 1, 1), (2, .invokevirtual 189, 3), (5, .aload_n 0, 1), (6, .getfield 49, 3), (9, .iload_n 1, 1), (10, .aaload, 1), (11, .invokevirtual 192, 3), (14, .ireturn, 1)]
set_option maxRecDepth 100000 in
theorem zd_225 : ∀ q ∈ zt_225, pz_dq prog_1_method_14_code q.1 q.2.1 q.2.2 = true := List.all_eq_true.mp (show (zt_225.all fun q => pz_dq prog_1_method_14_code q.1 q.2.1 q.2.2) = true by decide +kernel)
set_option maxRecDepth 100000 in
theorem zc_225 : zk_V 225 zt_225 := zk_chk_ok (cb := prog_1_method_14_code) (by rfl) zd_225 (by decide +kernel) (by decide +kernel)
def zt_226 : zk_T := [(0, .iload_n 1, 1), (1, .invokestatic 112, 3), (4, .aload_n 0, 1), (5, .getfield 49, 3), (8, .iload_n 1, 1), (9, .aaload, 1), (10, .invokevirtual 247, 3), (13, .ifCond .ne 11, 3), (16, .new 102, 3), (19, .dup, 1), (20, .invokespecial 104, 3), (23, .athrow, 1), (24, .return_, 1)]
set_option maxRecDepth 100000 in
theorem zd_226 : ∀ q ∈ zt_226, pz_dq prog_1_method_33_code q.1 q.2.1 q.2.2 = true := List.all_eq_true.mp (show (zt_226.all fun q => pz_dq prog_1_method_33_code q.1 q.2.1 q.2.2) = true by decide +kernel)
set_option maxRecDepth 100000 in
theorem zc_226 : zk_V 226 zt_226 := zk_chk_ok (cb := prog_1_method_33_code) (by rfl) zd_226 (by decide +kernel) (by decide +kernel)
def zt_227 : zk_T := [(0, .aload_n 0, 1), (1, .getfield 54, 3), (4, .iconst 4, 1), (5, .if_icmp .gt 7, 3), (8, .iconst 1, 1), (9, .goto 4, 3), (12, .iconst 0, 1), (13, .istore_n 1, 1), (14, .iconst 0, 1), (15, .istore_n 2, 1), (16, .iload_n 2, 1), (17, .aload_n 0, 1), (18, .getfield 54, 3), (21, .if_icmp .ge 33, 3), (24, .iload_n 1, 1), (25, .ifCond .eq 29, 3), (28, .aload_n 0, 1), (29, .getfield 33, 3), (32, .iload_n 2, 1), (33, .aaload, 1), (34, .invokevirtual 66, 3), (37, .bipush 6, 2), (39, .if_icmp .gt 7, 3), (42, .iconst 1, 1), (43, .goto 4, 3), (46, .iconst 0, 1), (47, .istore_n 1, 1), (48, .iinc 2 1, 3), (51, .goto (-35), 3), (54, .iload_n 1, 1), (55, .ireturn, 1)]
set_option maxRecDepth 100000 in
theorem zd_227 : ∀ q ∈ zt_227, pz_dq prog_7_method_16_code q.1 q.2.1 q.2.2 = true := List.all_eq_true.mp (show (zt_227.all fun q => pz_dq prog_7_method_16_code q.1 q.2.1 q.2.2) = true by decide +kernel)
set_option maxRecDepth 100000 in
theorem zc_227 : zk_V 227 zt_227 := zk_chk_ok (cb := prog_7_method_16_code) (by rfl) zd_227 (by decide +kernel) (by decide +kernel)
def zt_228 : zk_T := [(0, .iconst 2, 1), (1, .istore_n 1, 1), (2, .iconst 0, 1), (3, .istore_n 2, 1), (4, .iload_n 2, 1), (5, .aload_n 0, 1), (6, .getfield 45, 3), (9, .if_icmp .ge 17, 3), (12, .iload_n 1, 1), (13, .aload_n 0, 1), (14, .iload_n 2, 1), (15, .invokevirtual 113, 3), (18, .iadd, 1), (19, .istore_n 1, 1), (20, .iinc 2 1, 3), (23, .goto (-19), 3), (26, .iload_n 1, 1), (27, .ireturn, 1)]
set_option maxRecDepth 100000 in
theorem zd_228 : ∀ q ∈ zt_228, pz_dq prog_7_method_27_code q.1 q.2.1 q.2.2 = true := List.all_eq_true.mp (show (zt_228.all fun q => pz_dq prog_7_method_27_code q.1 q.2.1 q.2.2) = true by decide +kernel)
set_option maxRecDepth 100000 in
theorem zc_228 : zk_V 228 zt_228 := zk_chk_ok (cb := prog_7_method_27_code) (by rfl) zd_228 (by decide +kernel) (by decide +kernel)
def zt_229 : zk_T := [(0, .aload_n 0, 1), (1, .getfield 11, 3), (4, .iload_n 1, 1), (5, .iaload, 1), (6, .tableswitch 91 1 9 #[50, 66, 66, 91, 89, 66, 82, 89, 89], 50), (56, .aload_n 0, 1), (57, .aload_n 0, 1), (58, .getfield 25, 3), (61, .iload_n 1, 1), (62, .iaload, 1), (63, .invokevirtual 117, 3), (66, .iconst 2, 1), (67, .iconst 2, 1), (68, .invokevirtual 121, 3), (71, .ireturn, 1), (72, .aload_n 0, 1), (73, .aload_n 0, 1), (74, .getfield 25, 3), (77, .iload_n 1, 1), (78, .iaload, 1), (79, .invokevirtual 117, 3), (82, .iconst 2, 1), (83, .iconst 3, 1), (84, .invokevirtual 121, 3), (87, .ireturn, 1), (88, .aload_n 0, 1), (89, .getfield 22, 3), (92, .iload_n 1, 1), (93, .iaload, 1), (94, .ireturn, 1), (95, .iconst 1, 1), (96, .ireturn, 1), (97, .iconst 0, 1), (98, .ireturn, 1)]
set_option maxRecDepth 100000 in
theorem zd_229 : ∀ q ∈ zt_229, pz_dq prog_7_method_28_code q.1 q.2.1 q.2.2 = true := List.all_eq_true.mp (show (zt_229.all fun q => pz_dq prog_7_method_28_code q.1 q.2.1 q.2.2) = true by decide +kernel)
set_option maxRecDepth 100000 in
theorem zc_229 : zk_V 229 zt_229 := zk_chk_ok (cb := prog_7_method_28_code) (by rfl) zd_229 (by decide +kernel) (by decide +kernel)
def zt_231 : zk_T := [(0, .aload_n 3, 1), (1, .iconst 0, 1), (2, .aload_n 0, 1), (3, .iload_n 1, 1), (4, .iload_n 2, 1), (5, .invokevirtual 58, 3), (8, .ifCond .eq 7, 3), (11, .lconst 1, 1), (12, .goto 4, 3), (15, .lconst 0, 1), (16, .lastore, 1), (17, .goto 15, 3), (20, .astore 4, 2), (22, .iconst 1, 1), (23, .ireturn, 1), (24, .astore 4, 2), (26, .iconst 2, 1), (27, .ireturn, 1), (28, .astore 4, 2), (30, .iconst 3, 1), (31, .ireturn, 1), (32, .iconst 0, 1), (33, .ireturn, 1)]
set_option maxRecDepth 100000 in
theorem zd_231 : ∀ q ∈ zt_231, pz_dq method_15_code q.1 q.2.1 q.2.2 = true := List.all_eq_true.mp (show (zt_231.all fun q => pz_dq method_15_code q.1 q.2.1 q.2.2) = true by decide +kernel)
set_option maxRecDepth 100000 in
theorem zc_231 : zk_V 231 zt_231 := zk_chk_ok (cb := method_15_code) (by rfl) zd_231 (by decide +kernel) (by decide +kernel)
def zt_232 : zk_T := [(0, .aload_n 0, 1), (1, .iload_n 1, 1), (2, .invokevirtual 189, 3), (5, .aload_n 0, 1), (6, .getfield 49, 3), (9, .iload_n 1, 1), (10, .aaload, 1), (11, .invokevirtual 192, 3), (14, .istore_n 3, 1), (15, .iload_n 2, 1), (16, .ifCond .lt 8, 3), (19, .iload_n 2, 1), (20, .iload_n 3, 1), (21, .if_icmp .lt 11, 3), (24, .new 195, 3), (27, .dup, 1), (28, .invokespecial 197, 3), (31, .athrow, 1), (32, .iload_n 2, 1), (33, .ifCond .eq 10, 3), (36, .aload_n 0, 1), (37, .getfield 132, 3), (40, .ifCond .ne 20, 3), (43, .iload_n 2, 1), (44, .ifCond .ne 14, 3), (47, .aload_n 0, 1), (48, .getfield 132, 3), (51, .ifCond .ne 7, 3), (54, .iconst 1, 1), (55, .goto 4, 3), (58, .iconst 0, 1), (59, .ireturn, 1), (60, .iload_n 2, 1), (61, .iload_n 3, 1), (62, .iconst 1, 1), (63, .isub, 1), (64, .if_icmp .ne 18, 3), (67, .aload_n 0, 1), (68, .getfield 83, 3), (71, .iload_n 1, 1), (72, .iaload, 1), (73, .ifCond .eq 7, 3), (76, .iconst 1, 1), (77, .goto 4, 3), (80, .iconst 0, 1), (81, .ireturn, 1), (82, .aload_n 0, 1), (83, .getfield 49, 3), (86, .iload_n 1, 1), (87, .aaload, 1), (88, .iload_n 2, 1), (89, .iconst 1, 1), (90, .isub, 1), (91, .aload_n 0, 1), (92, .getfield 80, 3), (95, .iload_n 1, 1), (96, .aaload, 1), (97, .aload_n 0, 1), (98, .getfield 74, 3), (101, .aload_n 0, 1), (102, .getfield 132, 3), (105, .invokevirtual 198, 3), (108, .ireturn, 1)]
set_option maxRecDepth 100000 in
theorem zd_232 : ∀ q ∈ zt_232, pz_dq prog_1_method_15_code q.1 q.2.1 q.2.2 = true := List.all_eq_true.mp (show (zt_232.all fun q => pz_dq prog_1_method_15_code q.1 q.2.1 q.2.2) = true by decide +kernel)
set_option maxRecDepth 100000 in
theorem zc_232 : zk_V 232 zt_232 := zk_chk_ok (cb := prog_1_method_15_code) (by rfl) zd_232 (by decide +kernel) (by decide +kernel)
def zt_240 : zk_T := [(0, .aload_n 2, 1), (1, .iconst 0, 1), (2, .aload_n 0, 1), (3, .iload_n 1, 1), (4, .invokevirtual 64, 3), (7, .i2l, 1), (8, .lastore, 1), (9, .goto 6, 3), (12, .astore_n 3, 1), (13, .iconst 1, 1), (14, .ireturn, 1), (15, .iconst 0, 1), (16, .ireturn, 1)]
set_option maxRecDepth 100000 in
theorem zd_240 : ∀ q ∈ zt_240, pz_dq method_16_code q.1 q.2.1 q.2.2 = true := List.all_eq_true.mp (show (zt_240.all fun q => pz_dq method_16_code q.1 q.2.1 q.2.2) = true by decide +kernel)
set_option maxRecDepth 100000 in
theorem zc_240 : zk_V 240 zt_240 := zk_chk_ok (cb := method_16_code) (by rfl) zd_240 (by decide +kernel) (by decide +kernel)
def zt_241 : zk_T := [(0, .iload_n 1, 1), (1, .ifCond .ge 11, 3), (4, .new 209, 3), (7, .dup, 1), (8, .invokespecial 211, 3), (11, .athrow, 1), (12, .aload_n 0, 1), (13, .getfield 89, 3), (16, .iload_n 1, 1), (17, .invokevirtual 212, 3), (20, .ireturn, 1)]
set_option maxRecDepth 100000 in
theorem zd_241 : ∀ q ∈ zt_241, pz_dq prog_1_method_18_code q.1 q.2.1 q.2.2 = true := List.all_eq_true.mp (show (zt_241.all fun q => pz_dq prog_1_method_18_code q.1 q.2.1 q.2.2) = true by decide +kernel)
set_option maxRecDepth 100000 in
theorem zc_241 : zk_V 241 zt_241 := zk_chk_ok (cb := prog_1_method_18_code) (by rfl) zd_241 (by decide +kernel) (by decide +kernel)
def zt_242 : zk_T := [(0, .aload_n 0, 1), (1, .getfield 58, 3), (4, .ifCond .ne 12, 3), (7, .aload_n 0, 1), (8, .invokevirtual 74, 3), (11, .aload_n 0, 1), (12, .iconst 1, 1), (13, .putfield 58, 3), (16, .iload_n 1, 1), (17, .aload_n 0, 1), (18, .getfield 34, 3), (21, .invokevirtual 77, 3), (24, .if_icmp .ge 14, 3), (27, .aload_n 0, 1), (28, .getfield 34, 3), (31, .iload_n 1, 1), (32, .invokevirtual 81, 3), (35, .goto 4, 3), (38, .iconst (-1), 1), (39, .ireturn, 1)]
set_option maxRecDepth 100000 in
theorem zd_242 : ∀ q ∈ zt_242, pz_dq prog_3_method_17_code q.1 q.2.1 q.2.2 = true := List.all_eq_true.mp (show (zt_242.all fun q => pz_dq prog_3_method_17_code q.1 q.2.1 q.2.2) = true by decide +kernel)
set_option maxRecDepth 100000 in
theorem zc_242 : zk_V 242 zt_242 := zk_chk_ok (cb := prog_3_method_17_code) (by rfl) zd_242 (by decide +kernel) (by decide +kernel)
def zt_243 : zk_T := [(0, .aload_n 0, 1), (1, .getfield 34, 3), (4, .iconst 0, 1), (5, .invokevirtual 85, 3), (8, .aload_n 0, 1), (9, .getfield 34, 3), (12, .ldc 89, 2), (14, .invokevirtual 91, 3), (17, .pop, 1), (18, .aload_n 0, 1), (19, .aload_n 0, 1), (20, .getfield 38, 3), (23, .aload_n 0, 1), (24, .getfield 48, 3), (27, .iadd, 1), (28, .aload_n 0, 1), (29, .getfield 51, 3), (32, .iadd, 1), (33, .invokevirtual 95, 3), (36, .aload_n 0, 1), (37, .aload_n 0, 1), (38, .getfield 38, 3), (41, .invokevirtual 95, 3), (44, .aload_n 0, 1), (45, .aload_n 0, 1), (46, .getfield 48, 3), (49, .invokevirtual 95, 3), (52, .aload_n 0, 1), (53, .bipush 6, 2), (55, .invokevirtual 95, 3), (58, .aload_n 0, 1), (59, .aload_n 0, 1), (60, .getfield 51, 3), (63, .invokevirtual 95, 3), (66, .iconst 0, 1), (67, .istore_n 1, 1), (68, .iload_n 1, 1), (69, .aload_n 0, 1), (70, .getfield 38, 3), (73, .if_icmp .ge 18, 3), (76, .aload_n 0, 1), (77, .iconst 2, 1), (78, .iconst 1, 1), (79, .iload_n 1, 1), (80, .iadd, 1), (81, .imul, 1), (82, .invokevirtual 95, 3), (85, .iinc 1 1, 3), (88, .goto (-20), 3), (91, .iconst 0, 1), (92, .istore_n 1, 1), (93, .iload_n 1, 1), (94, .aload_n 0, 1), (95, .getfield 48, 3), (98, .if_icmp .ge 46, 3), (101, .aload_n 0, 1), (102, .aload_n 0, 1), (103, .iload_n 1, 1), (104, .invokevirtual 54, 3), (107, .invokevirtual 95, 3), (110, .aload_n 0, 1), (111, .aload_n 0, 1), (112, .getfield 18, 3), (115, .iload_n 1, 1), (116, .iaload, 1), (117, .invokevirtual 95, 3), (120, .aload_n 0, 1), (121, .aload_n 0, 1), (122, .getfield 21, 3), (125, .iload_n 1, 1), (126, .baload, 1), (127, .ifCond .eq 7, 3), (130, .iconst 1, 1), (131, .goto 4, 3), (134, .iconst 0, 1), (135, .invokevirtual 95, 3), (138, .iinc 1 1, 3), (141, .goto (-48), 3), (144, .iconst 0, 1), (145, .istore_n 1, 1), (146, .iload_n 1, 1), (147, .bipush 6, 2), (149, .if_icmp .ge 19, 3), (152, .aload_n 0, 1), (153, .aload_n 0, 1), (154, .getfield 25, 3), (157, .iload_n 1, 1), (158, .iaload, 1), (159, .invokevirtual 95, 3), (162, .iinc 1 1, 3), (165, .goto (-19), 3), (168, .iconst 0, 1), (169, .istore_n 1, 1), (170, .iload_n 1, 1), (171, .aload_n 0, 1), (172, .getfield 51, 3), (175, .if_icmp .ge 38, 3), (178, .aload_n 0, 1), (179, .aload_n 0, 1), (180, .iload_n 1, 1), (181, .invokevirtual 62, 3), (184, .invokevirtual 95, 3), (187, .aload_n 0, 1), (188, .aload_n 0, 1), (189, .getfield 11, 3), (192, .iload_n 1, 1), (193, .iaload, 1), (194, .invokevirtual 95, 3), (197, .aload_n 0, 1), (198, .aload_n 0, 1), (199, .getfield 15, 3), (202, .iload_n 1, 1), (203, .iaload, 1), (204, .invokevirtual 95, 3), (207, .iinc 1 1, 3), (210, .goto (-40), 3), (213, .return_, 1)]
set_option maxRecDepth 100000 in
theorem zd_243_0 : (((zt_243.drop 0).take 50).all fun q => pz_dq prog_3_method_18_code q.1 q.2.1 q.2.2) = true := by decide +kernel
set_option maxRecDepth 100000 in
theorem zd_243_50 : (((zt_243.drop 50).take 50).all fun q => pz_dq prog_3_method_18_code q.1 q.2.1 q.2.2) = true := by decide +kernel
set_option maxRecDepth 100000 in
theorem zd_243_100 : (((zt_243.drop 100).take 50).all fun q => pz_dq prog_3_method_18_code q.1 q.2.1 q.2.2) = true := by decide +kernel
theorem zd_243 : ∀ q ∈ zt_243, pz_dq prog_3_method_18_code q.1 q.2.1 q.2.2 = true := by
  have h : ∀ q ∈ zt_243.drop 0, pz_dq prog_3_method_18_code q.1 q.2.1 q.2.2 = true := (pt_piece 0 50 (List.all_eq_true.mp zd_243_0) (pt_piece 50 50 (List.all_eq_true.mp zd_243_50) (pt_piece 100 50 (List.all_eq_true.mp zd_243_100) (fun r hr => by rw [List.drop_eq_nil_of_le (by decide +kernel)] at hr; cases hr))))
  exact h
set_option maxRecDepth 100000 in
theorem zc_243 : zk_V 243 zt_243 := zk_chk_ok (cb := prog_3_method_18_code) (by rfl) zd_243 (by decide +kernel) (by decide +kernel)
def zt_244 : zk_T := [(0, .aload_n 0, 1), (1, .iload_n 1, 1), (2, .invokespecial 333, 3), (5, .return_, 1)]
set_option maxRecDepth 100000 in
theorem zd_244 : ∀ q ∈ zt_244, pz_dq prog_26_method_89_code q.1 q.2.1 q.2.2 = true := List.all_eq_true.mp (show (zt_244.all fun q => pz_dq prog_26_method_89_code q.1 q.2.1 q.2.2) = true by decide +kernel)
set_option maxRecDepth 100000 in
theorem zc_244 : zk_V 244 zt_244 := zk_chk_ok (cb := prog_26_method_89_code) (by rfl) zd_244 (by decide +kernel) (by decide +kernel)
def zt_245 : zk_T := [(0, .iload_n 1, 1), (1, .ifCond .ge 12, 3), (4, .new 129, 3), (7, .dup, 1), (8, .iload_n 1, 1), (9, .invokespecial 131, 3), (12, .athrow, 1), (13, .aload_n 0, 1), (14, .iload_n 1, 1), (15, .invokevirtual 100, 3), (18, .aload_n 0, 1), (19, .getfield 79, 3), (22, .iload_n 1, 1), (23, .if_icmp .ge 40, 3), (26, .aload_n 0, 1), (27, .invokevirtual 83, 3), (30, .ifCond .eq 18, 3), (33, .aload_n 0, 1), (34, .getfield 15, 3), (37, .aload_n 0, 1), (38, .getfield 79, 3), (41, .iload_n 1, 1), (42, .invokestatic 133, 3), (45, .goto 31, 3), (48, .aload_n 0, 1), (49, .getfield 15, 3), (52, .aload_n 0, 1), (53, .getfield 79, 3), (56, .iload_n 1, 1), (57, .invokestatic 137, 3), (60, .goto 16, 3), (63, .aload_n 0, 1), (64, .getfield 79, 3), (67, .iload_n 1, 1), (68, .if_icmp .le 8, 3), (71, .aload_n 0, 1), (72, .iconst 1, 1), (73, .putfield 73, 3), (76, .aload_n 0, 1), (77, .iload_n 1, 1), (78, .putfield 79, 3), (81, .return_, 1)]
set_option maxRecDepth 100000 in
theorem zd_245 : ∀ q ∈ zt_245, pz_dq prog_15_method_13_code q.1 q.2.1 q.2.2 = true := List.all_eq_true.mp (show (zt_245.all fun q => pz_dq prog_15_method_13_code q.1 q.2.1 q.2.2) = true by decide +kernel)
set_option maxRecDepth 100000 in
theorem zc_245 : zk_V 245 zt_245 := zk_chk_ok (cb := prog_15_method_13_code) (by rfl) zd_245 (by decide +kernel) (by decide +kernel)
def zt_247 : zk_T := [(0, .aload_n 0, 1), (1, .aload_n 1, 1), (2, .invokespecial 29, 3), (5, .pop, 1), (6, .aload_n 0, 1), (7, .areturn, 1)]
set_option maxRecDepth 100000 in
theorem zd_247 : ∀ q ∈ zt_247, pz_dq prog_26_method_7_code q.1 q.2.1 q.2.2 = true := List.all_eq_true.mp (show (zt_247.all fun q => pz_dq prog_26_method_7_code q.1 q.2.1 q.2.2) = true by decide +kernel)
set_option maxRecDepth 100000 in
theorem zc_247 : zk_V 247 zt_247 := zk_chk_ok (cb := prog_26_method_7_code) (by rfl) zd_247 (by decide +kernel) (by decide +kernel)
def zt_248 : zk_T := [(0, .aload_n 1, 1), (1, .ifnonnull 8, 3), (4, .aload_n 0, 1), (5, .invokevirtual 204, 3), (8, .areturn, 1), (9, .aload_n 1, 1), (10, .invokevirtual 32, 3), (13, .istore_n 2, 1), (14, .aload_n 0, 1), (15, .aload_n 0, 1), (16, .getfield 79, 3), (19, .iload_n 2, 1), (20, .iadd, 1), (21, .invokevirtual 100, 3), (24, .aload_n 0, 1), (25, .aload_n 0, 1), (26, .getfield 79, 3), (29, .aload_n 1, 1), (30, .invokevirtual 208, 3), (33, .aload_n 0, 1), (34, .dup, 1), (35, .getfield 79, 3), (38, .iload_n 2, 1), (39, .iadd, 1), (40, .putfield 79, 3), (43, .aload_n 0, 1), (44, .areturn, 1)]
set_option maxRecDepth 100000 in
theorem zd_248 : ∀ q ∈ zt_248, pz_dq prog_15_method_22_code q.1 q.2.1 q.2.2 = true := List.all_eq_true.mp (show (zt_248.all fun q => pz_dq prog_15_method_22_code q.1 q.2.1 q.2.2) = true by decide +kernel)
set_option maxRecDepth 100000 in
theorem zc_248 : zk_V 248 zt_248 := zk_chk_ok (cb := prog_15_method_22_code) (by rfl) zd_248 (by decide +kernel) (by decide +kernel)
