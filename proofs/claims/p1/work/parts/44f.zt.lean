/-! ===== decoded instructions (written by wip/whole/gen/part46.py) ===== -/
def zt_177 : zk_T := [(0, .aload_n 1, 1), (1, .iload_n 2, 1), (2, .iload_n 3, 1), (3, .iadd, 1), (4, .laload, 1), (5, .iload 4, 2), (7, .lushr, 1), (8, .lconst 1, 1), (9, .land, 1), (10, .lconst 0, 1), (11, .lcmp, 1), (12, .ifCond .eq 7, 3), (15, .iconst 1, 1), (16, .goto 4, 3), (19, .iconst 0, 1), (20, .istore 6, 2), (22, .iload_n 2, 1), (23, .iload_n 3, 1), (24, .iadd, 1), (25, .iconst 1, 1), (26, .iadd, 1), (27, .istore 7, 2), (29, .aload_n 0, 1), (30, .getfield 11, 3), (33, .iload_n 3, 1), (34, .iaload, 1), (35, .tableswitch 222 0 9 #[53, 78, 90, 90, 127, 163, 103, 193, 115, 115], 53), (88, .iload 6, 2), (90, .ifCond .eq 21, 3), (93, .aload_n 0, 1), (94, .getfield 15, 3), (97, .iload_n 3, 1), (98, .laload, 1), (99, .iload 5, 2), (101, .invokestatic 82, 3), (104, .ifCond .ne 7, 3), (107, .iconst 1, 1), (108, .goto 4, 3), (111, .iconst 0, 1), (112, .ireturn, 1), (113, .aload_n 0, 1), (114, .aload_n 1, 1), (115, .iload_n 2, 1), (116, .iload_n 3, 1), (117, .iload 6, 2), (119, .iload 5, 2), (121, .invokevirtual 86, 3), (124, .ireturn, 1), (125, .aload_n 0, 1), (126, .aload_n 1, 1), (127, .iload_n 2, 1), (128, .iload_n 3, 1), (129, .iload 4, 2), (131, .iload 5, 2), (133, .invokevirtual 90, 3), (136, .iconst 0, 1), (137, .ireturn, 1), (138, .aload_n 0, 1), (139, .aload_n 1, 1), (140, .iload_n 2, 1), (141, .iload_n 3, 1), (142, .iload 4, 2), (144, .iload 5, 2), (146, .invokevirtual 94, 3), (149, .ireturn, 1), (150, .aload_n 0, 1), (151, .aload_n 1, 1), (152, .iload_n 2, 1), (153, .iload_n 3, 1), (154, .iload 4, 2), (156, .iload 5, 2), (158, .invokevirtual 97, 3), (161, .ireturn, 1), (162, .aload_n 1, 1), (163, .iload 7, 2), (165, .dup2, 1), (166, .laload, 1), (167, .iload 6, 2), (169, .ifCond .eq 24, 3), (172, .aload_n 0, 1), (173, .getfield 15, 3), (176, .iload_n 3, 1), (177, .laload, 1), (178, .iload 5, 2), (180, .invokestatic 82, 3), (183, .ifCond .eq 10, 3), (186, .lconst 1, 1), (187, .iload 4, 2), (189, .lshl, 1), (190, .goto 4, 3), (193, .lconst 0, 1), (194, .lor, 1), (195, .lastore, 1), (196, .iconst 0, 1), (197, .ireturn, 1), (198, .aload_n 1, 1), (199, .iload 7, 2), (201, .dup2, 1), (202, .laload, 1), (203, .aload_n 1, 1), (204, .iload_n 2, 1), (205, .iload_n 3, 1), (206, .iadd, 1), (207, .laload, 1), (208, .iload 4, 2), (210, .invokestatic 100, 3), (213, .ifCond .eq 10, 3), (216, .lconst 1, 1), (217, .iload 4, 2), (219, .lshl, 1), (220, .goto 4, 3), (223, .lconst 0, 1), (224, .lor, 1), (225, .lastore, 1), (226, .iconst 0, 1), (227, .ireturn, 1), (228, .aload_n 1, 1), (229, .iload 7, 2), (231, .dup2, 1), (232, .laload, 1), (233, .iload 6, 2), (235, .ifCond .eq 17, 3), (238, .lconst 1, 1), (239, .iload 4, 2), (241, .aload_n 0, 1), (242, .getfield 22, 3), (245, .iload_n 3, 1), (246, .iaload, 1), (247, .iadd, 1), (248, .lshl, 1), (249, .goto 4, 3), (252, .lconst 0, 1), (253, .lor, 1), (254, .lastore, 1), (255, .iconst 0, 1), (256, .ireturn, 1), (257, .aload_n 1, 1), (258, .iload 7, 2), (260, .dup2, 1), (261, .laload, 1), (262, .iload 6, 2), (264, .ifCond .eq 10, 3), (267, .lconst 1, 1), (268, .iload 4, 2), (270, .lshl, 1), (271, .goto 4, 3), (274, .lconst 0, 1), (275, .lor, 1), (276, .lastore, 1), (277, .aload_n 1, 1), (278, .iload_n 2, 1), (279, .aload_n 0, 1), (280, .getfield 25, 3), (283, .iload_n 3, 1), (284, .iaload, 1), (285, .iadd, 1), (286, .dup2, 1), (287, .laload, 1), (288, .iload 6, 2), (290, .ifCond .eq 10, 3), (293, .lconst 1, 1), (294, .iload 4, 2), (296, .lshl, 1), (297, .goto 4, 3), (300, .lconst 0, 1), (301, .lor, 1), (302, .lastore, 1), (303, .iconst 0, 1), (304, .ireturn, 1)]
set_option maxRecDepth 100000 in
theorem zd_177_0 : (((zt_177.drop 0).take 50).all fun q => pz_dq prog_7_method_20_code q.1 q.2.1 q.2.2) = true := by decide +kernel
set_option maxRecDepth 100000 in
theorem zd_177_50 : (((zt_177.drop 50).take 50).all fun q => pz_dq prog_7_method_20_code q.1 q.2.1 q.2.2) = true := by decide +kernel
set_option maxRecDepth 100000 in
theorem zd_177_100 : (((zt_177.drop 100).take 50).all fun q => pz_dq prog_7_method_20_code q.1 q.2.1 q.2.2) = true := by decide +kernel
set_option maxRecDepth 100000 in
theorem zd_177_150 : (((zt_177.drop 150).take 50).all fun q => pz_dq prog_7_method_20_code q.1 q.2.1 q.2.2) = true := by decide +kernel
theorem zd_177 : ∀ q ∈ zt_177, pz_dq prog_7_method_20_code q.1 q.2.1 q.2.2 = true := by
  have h : ∀ q ∈ zt_177.drop 0, pz_dq prog_7_method_20_code q.1 q.2.1 q.2.2 = true := (pt_piece 0 50 (List.all_eq_true.mp zd_177_0) (pt_piece 50 50 (List.all_eq_true.mp zd_177_50) (pt_piece 100 50 (List.all_eq_true.mp zd_177_100) (pt_piece 150 50 (List.all_eq_true.mp zd_177_150) (fun r hr => by rw [List.drop_eq_nil_of_le (by decide +kernel)] at hr; cases hr)))))
  exact h
set_option maxRecDepth 100000 in
theorem zc_177 : zk_V 177 zt_177 := zk_chk_ok (cb := prog_7_method_20_code) (by rfl) zd_177 (by decide +kernel) (by decide +kernel)
def zt_178 : zk_T := [(0, .lload_n 0, 1), (1, .iload_n 2, 1), (2, .lushr, 1), (3, .lconst 1, 1), (4, .land, 1), (5, .lconst 0, 1), (6, .lcmp, 1), (7, .ifCond .eq 7, 3), (10, .iconst 1, 1), (11, .goto 4, 3), (14, .iconst 0, 1), (15, .ireturn, 1)]
set_option maxRecDepth 100000 in
theorem zd_178 : ∀ q ∈ zt_178, pz_dq prog_7_method_21_code q.1 q.2.1 q.2.2 = true := List.all_eq_true.mp (show (zt_178.all fun q => pz_dq prog_7_method_21_code q.1 q.2.1 q.2.2) = true by decide +kernel)
set_option maxRecDepth 100000 in
theorem zc_178 : zk_V 178 zt_178 := zk_chk_ok (cb := prog_7_method_21_code) (by rfl) zd_178 (by decide +kernel) (by decide +kernel)
def zt_186 : zk_T := [(0, .aload_n 2, 1), (1, .iconst 0, 1), (2, .aload_n 0, 1), (3, .iload_n 1, 1), (4, .invokevirtual 29, 3), (7, .i2l, 1), (8, .lastore, 1), (9, .goto 6, 3), (12, .astore_n 3, 1), (13, .iconst 1, 1), (14, .ireturn, 1), (15, .iconst 0, 1), (16, .ireturn, 1)]
set_option maxRecDepth 100000 in
theorem zd_186 : ∀ q ∈ zt_186, pz_dq method_7_code q.1 q.2.1 q.2.2 = true := List.all_eq_true.mp (show (zt_186.all fun q => pz_dq method_7_code q.1 q.2.1 q.2.2) = true by decide +kernel)
set_option maxRecDepth 100000 in
theorem zc_186 : zk_V 186 zt_186 := zk_chk_ok (cb := method_7_code) (by rfl) zd_186 (by decide +kernel) (by decide +kernel)
def zt_187 : zk_T := [(0, .iload_n 1, 1), (1, .ifCond .lt 8, 3), (4, .iload_n 1, 1), (5, .iconst 2, 1), (6, .if_icmp .le 11, 3), (9, .new 95, 3), (12, .dup, 1), (13, .invokespecial 97, 3), (16, .athrow, 1), (17, .iload_n 1, 1), (18, .ifCond .ne 10, 3), (21, .aload_n 0, 1), (22, .getfield 132, 3), (25, .goto 11, 3), (28, .aload_n 0, 1), (29, .getfield 83, 3), (32, .iload_n 1, 1), (33, .iconst 1, 1), (34, .isub, 1), (35, .iaload, 1), (36, .ireturn, 1)]
set_option maxRecDepth 100000 in
theorem zd_187 : ∀ q ∈ zt_187, pz_dq prog_1_method_7_code q.1 q.2.1 q.2.2 = true := List.all_eq_true.mp (show (zt_187.all fun q => pz_dq prog_1_method_7_code q.1 q.2.1 q.2.2) = true by decide +kernel)
set_option maxRecDepth 100000 in
theorem zc_187 : zk_V 187 zt_187 := zk_chk_ok (cb := prog_1_method_7_code) (by rfl) zd_187 (by decide +kernel) (by decide +kernel)
def zt_188 : zk_T := [(0, .aload 4, 2), (2, .iconst 0, 1), (3, .aload_n 0, 1), (4, .iload_n 1, 1), (5, .iload_n 2, 1), (6, .iload_n 3, 1), (7, .invokevirtual 32, 3), (10, .ifCond .eq 7, 3), (13, .lconst 1, 1), (14, .goto 4, 3), (17, .lconst 0, 1), (18, .lastore, 1), (19, .goto 15, 3), (22, .astore 5, 2), (24, .iconst 1, 1), (25, .ireturn, 1), (26, .astore 5, 2), (28, .iconst 2, 1), (29, .ireturn, 1), (30, .astore 5, 2), (32, .iconst 3, 1), (33, .ireturn, 1), (34, .iconst 0, 1), (35, .ireturn, 1)]
set_option maxRecDepth 100000 in
theorem zd_188 : ∀ q ∈ zt_188, pz_dq method_8_code q.1 q.2.1 q.2.2 = true := List.all_eq_true.mp (show (zt_188.all fun q => pz_dq method_8_code q.1 q.2.1 q.2.2) = true by decide +kernel)
set_option maxRecDepth 100000 in
theorem zc_188 : zk_V 188 zt_188 := zk_chk_ok (cb := method_8_code) (by rfl) zd_188 (by decide +kernel) (by decide +kernel)
def zt_189 : zk_T := [(0, .aload_n 0, 1), (1, .iload_n 1, 1), (2, .iload_n 2, 1), (3, .iload_n 3, 1), (4, .invokevirtual 144, 3), (7, .aload_n 0, 1), (8, .getfield 49, 3), (11, .iload_n 1, 1), (12, .aaload, 1), (13, .iconst 0, 1), (14, .invokevirtual 148, 3), (17, .astore 4, 2), (19, .aload 4, 2), (21, .aload_n 0, 1), (22, .aload 4, 2), (24, .iload_n 2, 1), (25, .iload_n 3, 1), (26, .invokevirtual 152, 3), (29, .invokevirtual 156, 3), (32, .ireturn, 1)]
set_option maxRecDepth 100000 in
theorem zd_189 : ∀ q ∈ zt_189, pz_dq prog_1_method_8_code q.1 q.2.1 q.2.2 = true := List.all_eq_true.mp (show (zt_189.all fun q => pz_dq prog_1_method_8_code q.1 q.2.1 q.2.2) = true by decide +kernel)
set_option maxRecDepth 100000 in
theorem zc_189 : zk_V 189 zt_189 := zk_chk_ok (cb := prog_1_method_8_code) (by rfl) zd_189 (by decide +kernel) (by decide +kernel)
def zt_190 : zk_T := [(0, .iload_n 1, 1), (1, .invokestatic 112, 3), (4, .iload_n 2, 1), (5, .ifCond .lt 16, 3), (8, .iload_n 2, 1), (9, .iload_n 3, 1), (10, .if_icmp .gt 11, 3), (13, .iload_n 3, 1), (14, .aload_n 0, 1), (15, .getfield 132, 3), (18, .if_icmp .le 11, 3), (21, .new 95, 3), (24, .dup, 1), (25, .invokespecial 97, 3), (28, .athrow, 1), (29, .aload_n 0, 1), (30, .iload_n 1, 1), (31, .invokevirtual 275, 3), (34, .return_, 1)]
set_option maxRecDepth 100000 in
theorem zd_190 : ∀ q ∈ zt_190, pz_dq prog_1_method_30_code q.1 q.2.1 q.2.2 = true := List.all_eq_true.mp (show (zt_190.all fun q => pz_dq prog_1_method_30_code q.1 q.2.1 q.2.2) = true by decide +kernel)
set_option maxRecDepth 100000 in
theorem zc_190 : zk_V 190 zt_190 := zk_chk_ok (cb := prog_1_method_30_code) (by rfl) zd_190 (by decide +kernel) (by decide +kernel)
def zt_191 : zk_T := [(0, .aload_n 0, 1), (1, .getfield 49, 3), (4, .iload_n 1, 1), (5, .aaload, 1), (6, .invokevirtual 278, 3), (9, .ifCond .ne 11, 3), (12, .new 281, 3), (15, .dup, 1), (16, .invokespecial 283, 3), (19, .athrow, 1), (20, .return_, 1)]
set_option maxRecDepth 100000 in
theorem zd_191 : ∀ q ∈ zt_191, pz_dq prog_1_method_31_code q.1 q.2.1 q.2.2 = true := List.all_eq_true.mp (show (zt_191.all fun q => pz_dq prog_1_method_31_code q.1 q.2.1 q.2.2) = true by decide +kernel)
set_option maxRecDepth 100000 in
theorem zc_191 : zk_V 191 zt_191 := zk_chk_ok (cb := prog_1_method_31_code) (by rfl) zd_191 (by decide +kernel) (by decide +kernel)
def zt_192 : zk_T := [(0, .aload_n 0, 1), (1, .getfield 54, 3), (4, .ireturn, 1)]
set_option maxRecDepth 100000 in
theorem zd_192 : ∀ q ∈ zt_192, pz_dq prog_7_method_14_code q.1 q.2.1 q.2.2 = true := List.all_eq_true.mp (show (zt_192.all fun q => pz_dq prog_7_method_14_code q.1 q.2.1 q.2.2) = true by decide +kernel)
set_option maxRecDepth 100000 in
theorem zc_192 : zk_V 192 zt_192 := zk_chk_ok (cb := prog_7_method_14_code) (by rfl) zd_192 (by decide +kernel) (by decide +kernel)
def zt_196 : zk_T := [(0, .aload 4, 2), (2, .iconst 0, 1), (3, .aload_n 0, 1), (4, .iload_n 1, 1), (5, .iload_n 2, 1), (6, .iload_n 3, 1), (7, .invokevirtual 38, 3), (10, .ifCond .eq 7, 3), (13, .lconst 1, 1), (14, .goto 4, 3), (17, .lconst 0, 1), (18, .lastore, 1), (19, .goto 15, 3), (22, .astore 5, 2), (24, .iconst 1, 1), (25, .ireturn, 1), (26, .astore 5, 2), (28, .iconst 2, 1), (29, .ireturn, 1), (30, .astore 5, 2), (32, .iconst 3, 1), (33, .ireturn, 1), (34, .iconst 0, 1), (35, .ireturn, 1)]
set_option maxRecDepth 100000 in
theorem zd_196 : ∀ q ∈ zt_196, pz_dq method_9_code q.1 q.2.1 q.2.2 = true := List.all_eq_true.mp (show (zt_196.all fun q => pz_dq method_9_code q.1 q.2.1 q.2.2) = true by decide +kernel)
set_option maxRecDepth 100000 in
theorem zc_196 : zk_V 196 zt_196 := zk_chk_ok (cb := method_9_code) (by rfl) zd_196 (by decide +kernel) (by decide +kernel)
def zt_197 : zk_T := [(0, .aload_n 0, 1), (1, .iload_n 1, 1), (2, .iload_n 2, 1), (3, .iload_n 3, 1), (4, .invokevirtual 144, 3), (7, .aload_n 0, 1), (8, .getfield 49, 3), (11, .iload_n 1, 1), (12, .aaload, 1), (13, .iconst 0, 1), (14, .invokevirtual 148, 3), (17, .astore 4, 2), (19, .aload 4, 2), (21, .aload_n 0, 1), (22, .aload 4, 2), (24, .iload_n 2, 1), (25, .iload_n 3, 1), (26, .invokevirtual 152, 3), (29, .invokevirtual 162, 3), (32, .ireturn, 1)]
set_option maxRecDepth 100000 in
theorem zd_197 : ∀ q ∈ zt_197, pz_dq prog_1_method_9_code q.1 q.2.1 q.2.2 = true := List.all_eq_true.mp (show (zt_197.all fun q => pz_dq prog_1_method_9_code q.1 q.2.1 q.2.2) = true by decide +kernel)
set_option maxRecDepth 100000 in
theorem zc_197 : zk_V 197 zt_197 := zk_chk_ok (cb := prog_1_method_9_code) (by rfl) zd_197 (by decide +kernel) (by decide +kernel)
def zt_199 : zk_T := [(0, .aload_n 2, 1), (1, .iconst 0, 1), (2, .aload_n 0, 1), (3, .iload_n 1, 1), (4, .invokevirtual 41, 3), (7, .i2l, 1), (8, .lastore, 1), (9, .goto 12, 3), (12, .astore_n 3, 1), (13, .iconst 1, 1), (14, .ireturn, 1), (15, .astore_n 3, 1), (16, .iconst 2, 1), (17, .ireturn, 1), (18, .astore_n 3, 1), (19, .iconst 3, 1), (20, .ireturn, 1), (21, .iconst 0, 1), (22, .ireturn, 1)]
set_option maxRecDepth 100000 in
theorem zd_199 : ∀ q ∈ zt_199, pz_dq method_10_code q.1 q.2.1 q.2.2 = true := List.all_eq_true.mp (show (zt_199.all fun q => pz_dq method_10_code q.1 q.2.1 q.2.2) = true by decide +kernel)
set_option maxRecDepth 100000 in
theorem zc_199 : zk_V 199 zt_199 := zk_chk_ok (cb := method_10_code) (by rfl) zd_199 (by decide +kernel) (by decide +kernel)
def zt_200 : zk_T := [(0, .aload_n 0, 1), (1, .iload_n 1, 1), (2, .invokevirtual 165, 3), (5, .aload_n 0, 1), (6, .getfield 49, 3), (9, .iload_n 1, 1), (10, .aaload, 1), (11, .iconst 0, 1), (12, .invokevirtual 168, 3), (15, .invokevirtual 172, 3), (18, .ireturn, 1)]
set_option maxRecDepth 100000 in
theorem zd_200 : ∀ q ∈ zt_200, pz_dq prog_1_method_10_code q.1 q.2.1 q.2.2 = true := List.all_eq_true.mp (show (zt_200.all fun q => pz_dq prog_1_method_10_code q.1 q.2.1 q.2.2) = true by decide +kernel)
set_option maxRecDepth 100000 in
theorem zc_200 : zk_V 200 zt_200 := zk_chk_ok (cb := prog_1_method_10_code) (by rfl) zd_200 (by decide +kernel) (by decide +kernel)
def zt_201 : zk_T := [(0, .iload_n 1, 1), (1, .invokestatic 112, 3), (4, .aload_n 0, 1), (5, .iload_n 1, 1), (6, .invokevirtual 275, 3), (9, .aload_n 0, 1), (10, .getfield 49, 3), (13, .iload_n 1, 1), (14, .aaload, 1), (15, .iconst 0, 1), (16, .invokevirtual 148, 3), (19, .invokevirtual 284, 3), (22, .bipush 6, 2), (24, .if_icmp .le 11, 3), (27, .new 102, 3), (30, .dup, 1), (31, .invokespecial 104, 3), (34, .athrow, 1), (35, .return_, 1)]
set_option maxRecDepth 100000 in
theorem zd_201 : ∀ q ∈ zt_201, pz_dq prog_1_method_32_code q.1 q.2.1 q.2.2 = true := List.all_eq_true.mp (show (zt_201.all fun q => pz_dq prog_1_method_32_code q.1 q.2.1 q.2.2) = true by decide +kernel)
set_option maxRecDepth 100000 in
theorem zc_201 : zk_V 201 zt_201 := zk_chk_ok (cb := prog_1_method_32_code) (by rfl) zd_201 (by decide +kernel) (by decide +kernel)
def zt_215 : zk_T := [(0, .aload 4, 2), (2, .iconst 0, 1), (3, .aload_n 0, 1), (4, .iload_n 1, 1), (5, .iload_n 2, 1), (6, .iload_n 3, 1), (7, .invokevirtual 44, 3), (10, .i2l, 1), (11, .lastore, 1), (12, .goto 19, 3), (15, .astore 5, 2), (17, .iconst 1, 1), (18, .ireturn, 1), (19, .astore 5, 2), (21, .iconst 2, 1), (22, .ireturn, 1), (23, .astore 5, 2), (25, .iconst 3, 1), (26, .ireturn, 1), (27, .astore 5, 2), (29, .iconst 4, 1), (30, .ireturn, 1), (31, .iconst 0, 1), (32, .ireturn, 1)]
set_option maxRecDepth 100000 in
theorem zd_215 : ∀ q ∈ zt_215, pz_dq method_11_code q.1 q.2.1 q.2.2 = true := List.all_eq_true.mp (show (zt_215.all fun q => pz_dq method_11_code q.1 q.2.1 q.2.2) = true by decide +kernel)
set_option maxRecDepth 100000 in
theorem zc_215 : zk_V 215 zt_215 := zk_chk_ok (cb := method_11_code) (by rfl) zd_215 (by decide +kernel) (by decide +kernel)
def zt_216 : zk_T := [(0, .aload_n 0, 1), (1, .iload_n 1, 1), (2, .iload_n 2, 1), (3, .iload_n 3, 1), (4, .invokevirtual 144, 3), (7, .aload_n 0, 1), (8, .iload_n 1, 1), (9, .invokevirtual 165, 3), (12, .aload_n 0, 1), (13, .getfield 49, 3), (16, .iload_n 1, 1), (17, .aaload, 1), (18, .iconst 0, 1), (19, .invokevirtual 168, 3), (22, .aload_n 0, 1), (23, .getfield 74, 3), (26, .iload_n 2, 1), (27, .iload_n 3, 1), (28, .invokevirtual 177, 3), (31, .ireturn, 1)]
set_option maxRecDepth 100000 in
theorem zd_216 : ∀ q ∈ zt_216, pz_dq prog_1_method_11_code q.1 q.2.1 q.2.2 = true := List.all_eq_true.mp (show (zt_216.all fun q => pz_dq prog_1_method_11_code q.1 q.2.1 q.2.2) = true by decide +kernel)
set_option maxRecDepth 100000 in
theorem zc_216 : zk_V 216 zt_216 := zk_chk_ok (cb := prog_1_method_11_code) (by rfl) zd_216 (by decide +kernel) (by decide +kernel)
def zt_219 : zk_T := [(0, .aload 4, 2), (2, .iconst 0, 1), (3, .aload_n 0, 1), (4, .iload_n 1, 1), (5, .iload_n 2, 1), (6, .iload_n 3, 1), (7, .invokevirtual 48, 3), (10, .i2l, 1), (11, .lastore, 1), (12, .goto 19, 3), (15, .astore 5, 2), (17, .iconst 1, 1), (18, .ireturn, 1), (19, .astore 5, 2), (21, .iconst 2, 1), (22, .ireturn, 1), (23, .astore 5, 2), (25, .iconst 3, 1), (26, .ireturn, 1), (27, .astore 5, 2), (29, .iconst 4, 1), (30, .ireturn, 1), (31, .iconst 0, 1), (32, .ireturn, 1)]
set_option maxRecDepth 100000 in
theorem zd_219 : ∀ q ∈ zt_219, pz_dq method_12_code q.1 q.2.1 q.2.2 = true := List.all_eq_true.mp (show (zt_219.all fun q => pz_dq method_12_code q.1 q.2.1 q.2.2) = true by decide +kernel)
set_option maxRecDepth 100000 in
theorem zc_219 : zk_V 219 zt_219 := zk_chk_ok (cb := method_12_code) (by rfl) zd_219 (by decide +kernel) (by decide +kernel)
def zt_220 : zk_T := [(0, .aload_n 0, 1), (1, .iload_n 1, 1), (2, .invokevirtual 165, 3), (5, .aload_n 0, 1), (6, .getfield 49, 3), (9, .iload_n 1, 1), (10, .aaload, 1), (11, .iconst 0, 1), (12, .invokevirtual 168, 3), (15, .astore 4, 2), (17, .iload_n 2, 1), (18, .ifCond .lt 19, 3), (21, .iload_n 2, 1), (22, .aload 4, 2), (24, .invokevirtual 172, 3), (27, .if_icmp .ge 10, 3), (30, .iload_n 3, 1), (31, .invokestatic 128, 3), (34, .ifCond .ne 11, 3), (37, .new 95, 3), (40, .dup, 1), (41, .invokespecial 97, 3), (44, .athrow, 1), (45, .aload 4, 2), (47, .iload_n 2, 1), (48, .iload_n 3, 1), (49, .invokevirtual 181, 3), (52, .ireturn, 1)]
set_option maxRecDepth 100000 in
theorem zd_220 : ∀ q ∈ zt_220, pz_dq prog_1_method_12_code q.1 q.2.1 q.2.2 = true := List.all_eq_true.mp (show (zt_220.all fun q => pz_dq prog_1_method_12_code q.1 q.2.1 q.2.2) = true by decide +kernel)
set_option maxRecDepth 100000 in
theorem zc_220 : zk_V 220 zt_220 := zk_chk_ok (cb := prog_1_method_12_code) (by rfl) zd_220 (by decide +kernel) (by decide +kernel)
