/-! ===== decoded instructions, the rest (written by wip/whole/gen/part54.py) ===== -/
def zt_290 : zk_T := [(0, .iload_n 1, 1), (1, .iload 4, 2), (3, .aload_n 0, 1), (4, .invokestatic 173, 3), (7, .iconst 0, 1), (8, .istore 5, 2), (10, .iload 5, 2), (12, .iload 4, 2), (14, .if_icmp .ge 39, 3), (17, .aload_n 0, 1), (18, .iload_n 1, 1), (19, .invokestatic 71, 3), (22, .istore 6, 2), (24, .iload 6, 2), (26, .sipush 255, 3), (29, .if_icmp .le 6, 3), (32, .iload 5, 2), (34, .ireturn, 1), (35, .aload_n 2, 1), (36, .iload_n 3, 1), (37, .iload 6, 2), (39, .i2b, 1), (40, .bastore, 1), (41, .iinc 1 1, 3), (44, .iinc 3 1, 3), (47, .iinc 5 1, 3), (50, .goto (-40), 3), (53, .iload 4, 2), (55, .ireturn, 1)]
set_option maxRecDepth 100000 in
theorem zd_290 : ∀ q ∈ zt_290, pz_dq prog_29_method_22_code q.1 q.2.1 q.2.2 = true := List.all_eq_true.mp (show (zt_290.all fun q => pz_dq prog_29_method_22_code q.1 q.2.1 q.2.2) = true by decide +kernel)
set_option maxRecDepth 100000 in
theorem zc_290 : zk_V 290 zt_290 := zk_chk_ok (cb := prog_29_method_22_code) (by rfl) zd_290 (by decide +kernel) (by decide +kernel)
def zt_291 : zk_T := [(0, .iload_n 1, 1), (1, .aload_n 0, 1), (2, .arraylength, 1), (3, .isub, 1), (4, .bipush 31, 2), (6, .iushr, 1), (7, .i2b, 1), (8, .ireturn, 1)]
set_option maxRecDepth 100000 in
theorem zd_291 : ∀ q ∈ zt_291, pz_dq prog_29_method_15_code q.1 q.2.1 q.2.2 = true := List.all_eq_true.mp (show (zt_291.all fun q => pz_dq prog_29_method_15_code q.1 q.2.1 q.2.2) = true by decide +kernel)
set_option maxRecDepth 100000 in
theorem zc_291 : zk_V 291 zt_291 := zk_chk_ok (cb := prog_29_method_15_code) (by rfl) zd_291 (by decide +kernel) (by decide +kernel)
def zt_292 : zk_T := [(0, .aload_n 0, 1), (1, .aload_n 1, 1), (2, .invokespecial 7, 3), (5, .return_, 1)]
set_option maxRecDepth 100000 in
theorem zd_292 : ∀ q ∈ zt_292, pz_dq prog_21_method_2_code q.1 q.2.1 q.2.2 = true := List.all_eq_true.mp (show (zt_292.all fun q => pz_dq prog_21_method_2_code q.1 q.2.1 q.2.2) = true by decide +kernel)
set_option maxRecDepth 100000 in
theorem zc_292 : zk_V 292 zt_292 := zk_chk_ok (cb := prog_21_method_2_code) (by rfl) zd_292 (by decide +kernel) (by decide +kernel)
def zt_293 : zk_T := [(0, .aload_n 0, 1), (1, .iload_n 1, 1), (2, .iload_n 2, 1), (3, .iconst 0, 1), (4, .invokestatic 236, 3), (7, .return_, 1)]
set_option maxRecDepth 100000 in
theorem zd_293 : ∀ q ∈ zt_293, pz_dq prog_28_method_48_code q.1 q.2.1 q.2.2 = true := List.all_eq_true.mp (show (zt_293.all fun q => pz_dq prog_28_method_48_code q.1 q.2.1 q.2.2) = true by decide +kernel)
set_option maxRecDepth 100000 in
theorem zc_293 : zk_V 293 zt_293 := zk_chk_ok (cb := prog_28_method_48_code) (by rfl) zd_293 (by decide +kernel) (by decide +kernel)
def zt_294 : zk_T := [(0, .aload_n 0, 1), (1, .arraylength, 1), (2, .iload_n 1, 1), (3, .iload_n 2, 1), (4, .invokestatic 13, 3), (7, .iload_n 1, 1), (8, .istore 4, 2), (10, .iload 4, 2), (12, .iload_n 2, 1), (13, .if_icmp .ge 14, 3), (16, .aload_n 0, 1), (17, .iload 4, 2), (19, .iload_n 3, 1), (20, .bastore, 1), (21, .iinc 4 1, 3), (24, .goto (-14), 3), (27, .return_, 1)]
set_option maxRecDepth 100000 in
theorem zd_294 : ∀ q ∈ zt_294, pz_dq prog_33_method_110_code q.1 q.2.1 q.2.2 = true := List.all_eq_true.mp (show (zt_294.all fun q => pz_dq prog_33_method_110_code q.1 q.2.1 q.2.2) = true by decide +kernel)
set_option maxRecDepth 100000 in
theorem zc_294 : zk_V 294 zt_294 := zk_chk_ok (cb := prog_33_method_110_code) (by rfl) zd_294 (by decide +kernel) (by decide +kernel)
def zt_295 : zk_T := [(0, .iload_n 1, 1), (1, .iload_n 2, 1), (2, .if_icmp .le 44, 3), (5, .new 43, 3), (8, .dup, 1), (9, .new 45, 3), (12, .dup, 1), (13, .invokespecial 47, 3), (16, .ldc 48, 2), (18, .invokevirtual 50, 3), (21, .iload_n 1, 1), (22, .invokevirtual 54, 3), (25, .ldc 57, 2), (27, .invokevirtual 50, 3), (30, .iload_n 2, 1), (31, .invokevirtual 54, 3), (34, .ldc 59, 2), (36, .invokevirtual 50, 3), (39, .invokevirtual 61, 3), (42, .invokespecial 65, 3), (45, .athrow, 1), (46, .iload_n 1, 1), (47, .ifCond .ge 12, 3), (50, .new 68, 3), (53, .dup, 1), (54, .iload_n 1, 1), (55, .invokespecial 70, 3), (58, .athrow, 1), (59, .iload_n 2, 1), (60, .iload_n 0, 1), (61, .if_icmp .le 12, 3), (64, .new 68, 3), (67, .dup, 1), (68, .iload_n 2, 1), (69, .invokespecial 70, 3), (72, .athrow, 1), (73, .return_, 1)]
set_option maxRecDepth 100000 in
theorem zd_295 : ∀ q ∈ zt_295, pz_dq prog_33_method_30_code q.1 q.2.1 q.2.2 = true := List.all_eq_true.mp (show (zt_295.all fun q => pz_dq prog_33_method_30_code q.1 q.2.1 q.2.2) = true by decide +kernel)
set_option maxRecDepth 100000 in
theorem zc_295 : zk_V 295 zt_295 := zk_chk_ok (cb := prog_33_method_30_code) (by rfl) zd_295 (by decide +kernel) (by decide +kernel)
def zt_296 : zk_T := [(0, .aload_n 0, 1), (1, .new 10, 3), (4, .dup, 1), (5, .invokespecial 12, 3), (8, .ldc 13, 2), (10, .invokevirtual 15, 3), (13, .iload_n 1, 1), (14, .invokevirtual 19, 3), (17, .invokevirtual 22, 3), (20, .invokespecial 7, 3), (23, .return_, 1)]
set_option maxRecDepth 100000 in
theorem zd_296 : ∀ q ∈ zt_296, pz_dq prog_16_method_3_code q.1 q.2.1 q.2.2 = true := List.all_eq_true.mp (show (zt_296.all fun q => pz_dq prog_16_method_3_code q.1 q.2.1 q.2.2) = true by decide +kernel)
set_option maxRecDepth 100000 in
theorem zc_296 : zk_V 296 zt_296 := zk_chk_ok (cb := prog_16_method_3_code) (by rfl) zd_296 (by decide +kernel) (by decide +kernel)
def zt_297 : zk_T := [(0, .aload_n 0, 1), (1, .iload_n 1, 1), (2, .iconst 1, 1), (3, .ishl, 1), (4, .iload_n 2, 1), (5, .iconst 1, 1), (6, .ishl, 1), (7, .iconst 0, 1), (8, .invokestatic 380, 3), (11, .return_, 1)]
set_option maxRecDepth 100000 in
theorem zd_297 : ∀ q ∈ zt_297, pz_dq prog_29_method_70_code q.1 q.2.1 q.2.2 = true := List.all_eq_true.mp (show (zt_297.all fun q => pz_dq prog_29_method_70_code q.1 q.2.1 q.2.2) = true by decide +kernel)
set_option maxRecDepth 100000 in
theorem zc_297 : zk_V 297 zt_297 := zk_chk_ok (cb := prog_29_method_70_code) (by rfl) zd_297 (by decide +kernel) (by decide +kernel)
def zt_302 : zk_T := [(0, .iload_n 1, 1), (1, .aload_n 0, 1), (2, .invokestatic 67, 3), (5, .aload_n 0, 1), (6, .iload_n 1, 1), (7, .iload_n 2, 1), (8, .invokestatic 111, 3), (11, .return_, 1)]
set_option maxRecDepth 100000 in
theorem zd_302 : ∀ q ∈ zt_302, pz_dq prog_29_method_71_code q.1 q.2.1 q.2.2 = true := List.all_eq_true.mp (show (zt_302.all fun q => pz_dq prog_29_method_71_code q.1 q.2.1 q.2.2) = true by decide +kernel)
set_option maxRecDepth 100000 in
theorem zc_302 : zk_V 302 zt_302 := zk_chk_ok (cb := prog_29_method_71_code) (by rfl) zd_302 (by decide +kernel) (by decide +kernel)
def zt_330 : zk_T := [(0, .aload_n 0, 1), (1, .iload_n 1, 1), (2, .putfield 42, 3), (5, .iconst 0, 1), (6, .istore_n 2, 1), (7, .iload_n 2, 1), (8, .iload_n 1, 1), (9, .if_icmp .ge 45, 3), (12, .aload_n 0, 1), (13, .getfield 21, 3), (16, .iload_n 2, 1), (17, .aload_n 0, 1), (18, .getfield 11, 3), (21, .iload_n 2, 1), (22, .iaload, 1), (23, .iastore, 1), (24, .aload_n 0, 1), (25, .getfield 24, 3), (28, .iload_n 2, 1), (29, .aload_n 0, 1), (30, .getfield 18, 3), (33, .iload_n 2, 1), (34, .iaload, 1), (35, .iastore, 1), (36, .aload_n 0, 1), (37, .getfield 27, 3), (40, .iload_n 2, 1), (41, .aload_n 0, 1), (42, .getfield 15, 3), (45, .iload_n 2, 1), (46, .iaload, 1), (47, .iastore, 1), (48, .iinc 2 1, 3), (51, .goto (-44), 3), (54, .return_, 1)]
set_option maxRecDepth 100000 in
theorem zd_330 : ∀ q ∈ zt_330, pz_dq prog_5_method_11_code q.1 q.2.1 q.2.2 = true := List.all_eq_true.mp (show (zt_330.all fun q => pz_dq prog_5_method_11_code q.1 q.2.1 q.2.2) = true by decide +kernel)
set_option maxRecDepth 100000 in
theorem zc_330 : zk_V 330 zt_330 := zk_chk_ok (cb := prog_5_method_11_code) (by rfl) zd_330 (by decide +kernel) (by decide +kernel)
def zt_335 : zk_T := [(0, .aload_n 0, 1), (1, .getfield 21, 3), (4, .iload_n 1, 1), (5, .iaload, 1), (6, .ireturn, 1)]
set_option maxRecDepth 100000 in
theorem zd_335 : ∀ q ∈ zt_335, pz_dq prog_5_method_4_code q.1 q.2.1 q.2.2 = true := List.all_eq_true.mp (show (zt_335.all fun q => pz_dq prog_5_method_4_code q.1 q.2.1 q.2.2) = true by decide +kernel)
set_option maxRecDepth 100000 in
theorem zc_335 : zk_V 335 zt_335 := zk_chk_ok (cb := prog_5_method_4_code) (by rfl) zd_335 (by decide +kernel) (by decide +kernel)
def zt_336 : zk_T := [(0, .aload_n 0, 1), (1, .getfield 24, 3), (4, .iload_n 1, 1), (5, .iaload, 1), (6, .ireturn, 1)]
set_option maxRecDepth 100000 in
theorem zd_336 : ∀ q ∈ zt_336, pz_dq prog_5_method_5_code q.1 q.2.1 q.2.2 = true := List.all_eq_true.mp (show (zt_336.all fun q => pz_dq prog_5_method_5_code q.1 q.2.1 q.2.2) = true by decide +kernel)
set_option maxRecDepth 100000 in
theorem zc_336 : zk_V 336 zt_336 := zk_chk_ok (cb := prog_5_method_5_code) (by rfl) zd_336 (by decide +kernel) (by decide +kernel)
def zt_337 : zk_T := [(0, .aload_n 0, 1), (1, .getfield 27, 3), (4, .iload_n 1, 1), (5, .iaload, 1), (6, .ireturn, 1)]
set_option maxRecDepth 100000 in
theorem zd_337 : ∀ q ∈ zt_337, pz_dq prog_5_method_6_code q.1 q.2.1 q.2.2 = true := List.all_eq_true.mp (show (zt_337.all fun q => pz_dq prog_5_method_6_code q.1 q.2.1 q.2.2) = true by decide +kernel)
set_option maxRecDepth 100000 in
theorem zc_337 : zk_V 337 zt_337 := zk_chk_ok (cb := prog_5_method_6_code) (by rfl) zd_337 (by decide +kernel) (by decide +kernel)
def zt_350 : zk_T := [(0, .aload_n 0, 1), (1, .aload_n 0, 1), (2, .getfield 260, 3), (5, .iconst 2, 1), (6, .iadd, 1), (7, .putfield 257, 3), (10, .iload_n 1, 1), (11, .ireturn, 1)]
set_option maxRecDepth 100000 in
theorem zd_350 : ∀ q ∈ zt_350, pz_dq prog_14_method_12_code q.1 q.2.1 q.2.2 = true := List.all_eq_true.mp (show (zt_350.all fun q => pz_dq prog_14_method_12_code q.1 q.2.1 q.2.2) = true by decide +kernel)
set_option maxRecDepth 100000 in
theorem zc_350 : zk_V 350 zt_350 := zk_chk_ok (cb := prog_14_method_12_code) (by rfl) zd_350 (by decide +kernel) (by decide +kernel)
def zt_351 : zk_T := [(0, .aload_n 0, 1), (1, .getfield 260, 3), (4, .iconst 1, 1), (5, .iadd, 1), (6, .istore_n 1, 1), (7, .bipush 45, 2), (9, .istore_n 2, 1), (10, .aload_n 0, 1), (11, .iload_n 1, 1), (12, .invokevirtual 253, 3), (15, .bipush 42, 2), (17, .if_icmp .ne 12, 3), (20, .bipush 40, 2), (22, .istore_n 2, 1), (23, .iinc 1 1, 3), (26, .goto 69, 3), (29, .aload_n 0, 1), (30, .iload_n 1, 1), (31, .invokevirtual 253, 3), (34, .bipush 43, 2), (36, .if_icmp .ne 12, 3), (39, .bipush 41, 2), (41, .istore_n 2, 1), (42, .iinc 1 1, 3), (45, .goto 50, 3), (48, .aload_n 0, 1), (49, .iload_n 1, 1), (50, .invokevirtual 253, 3), (53, .bipush 61, 2), (55, .if_icmp .ne 12, 3), (58, .bipush 44, 2), (60, .istore_n 2, 1), (61, .iinc 1 1, 3), (64, .goto 31, 3), (67, .aload_n 0, 1), (68, .iload_n 1, 1), (69, .invokevirtual 253, 3), (72, .bipush 45, 2), (74, .if_icmp .ne 21, 3), (77, .aload_n 0, 1), (78, .iload_n 1, 1), (79, .iconst 1, 1), (80, .iadd, 1), (81, .invokevirtual 253, 3), (84, .bipush 62, 2), (86, .if_icmp .ne 9, 3), (89, .bipush 43, 2), (91, .istore_n 2, 1), (92, .iinc 1 2, 3), (95, .aload_n 0, 1), (96, .iconst 0, 1), (97, .putfield 271, 3), (100, .aload_n 0, 1), (101, .iconst 0, 1), (102, .putfield 274, 3), (105, .iload_n 2, 1), (106, .bipush 41, 2), (108, .if_icmp .eq 15, 3), (111, .aload_n 0, 1), (112, .iload_n 1, 1), (113, .invokevirtual 277, 3), (116, .ifCond .eq 7, 3), (119, .iconst 1, 1), (120, .goto 4, 3), (123, .iconst 0, 1), (124, .istore_n 3, 1), (125, .iload_n 3, 1), (126, .ifCond .eq 26, 3), (129, .aload_n 0, 1), (130, .aload_n 0, 1), (131, .iload_n 1, 1), (132, .invokevirtual 253, 3), (135, .bipush 48, 2), (137, .isub, 1), (138, .putfield 271, 3), (141, .aload_n 0, 1), (142, .aload_n 0, 1), (143, .getfield 271, 3), (146, .putfield 274, 3), (149, .iinc 1 1, 3), (152, .iload_n 2, 1), (153, .bipush 40, 2), (155, .if_icmp .ne 59, 3), (158, .iload_n 3, 1), (159, .ifCond .eq 55, 3), (162, .bipush 42, 2), (164, .istore_n 2, 1), (165, .aload_n 0, 1), (166, .iload_n 1, 1), (167, .invokevirtual 253, 3), (170, .bipush 46, 2), (172, .if_icmp .ne 42, 3), (175, .aload_n 0, 1), (176, .iload_n 1, 1), (177, .iconst 1, 1), (178, .iadd, 1), (179, .invokevirtual 253, 3), (182, .bipush 46, 2), (184, .if_icmp .ne 30, 3), (187, .aload_n 0, 1), (188, .iload_n 1, 1), (189, .iconst 2, 1), (190, .iadd, 1), (191, .invokevirtual 277, 3), (194, .ifCond .eq 20, 3), (197, .aload_n 0, 1), (198, .aload_n 0, 1), (199, .iload_n 1, 1), (200, .iconst 2, 1), (201, .iadd, 1), (202, .invokevirtual 253, 3), (205, .bipush 48, 2), (207, .isub, 1), (208, .putfield 274, 3), (211, .iinc 1 3, 3), (214, .aload_n 0, 1), (215, .iload_n 1, 1), (216, .invokevirtual 253, 3), (219, .bipush 93, 2), (221, .if_icmp .ne 23, 3), (224, .iload_n 3, 1), (225, .ifCond .ne 15, 3), (228, .iload_n 2, 1), (229, .bipush 40, 2), (231, .if_icmp .eq 9, 3), (234, .iload_n 2, 1), (235, .bipush 41, 2), (237, .if_icmp .ne 7, 3), (240, .iconst 1, 1), (241, .goto 4, 3), (244, .iconst 0, 1), (245, .istore 4, 2), (247, .aload_n 0, 1), (248, .iload 4, 2), (250, .ifCond .eq 9, 3), (253, .iload_n 1, 1), (254, .iconst 1, 1), (255, .iadd, 1), (256, .goto 9, 3), (259, .aload_n 0, 1), (260, .getfield 260, 3), (263, .iconst 1, 1), (264, .iadd, 1), (265, .putfield 257, 3), (268, .iload 4, 2), (270, .ifCond .eq 7, 3), (273, .iload_n 2, 1), (274, .goto 5, 3), (277, .bipush 51, 2), (279, .ireturn, 1)]
set_option maxRecDepth 100000 in
theorem zd_351_0 : (((zt_351.drop 0).take 50).all fun q => pz_dq prog_14_method_11_code q.1 q.2.1 q.2.2) = true := by decide +kernel
set_option maxRecDepth 100000 in
theorem zd_351_50 : (((zt_351.drop 50).take 50).all fun q => pz_dq prog_14_method_11_code q.1 q.2.1 q.2.2) = true := by decide +kernel
set_option maxRecDepth 100000 in
theorem zd_351_100 : (((zt_351.drop 100).take 50).all fun q => pz_dq prog_14_method_11_code q.1 q.2.1 q.2.2) = true := by decide +kernel
theorem zd_351 : ∀ q ∈ zt_351, pz_dq prog_14_method_11_code q.1 q.2.1 q.2.2 = true := by
  have h : ∀ q ∈ zt_351.drop 0, pz_dq prog_14_method_11_code q.1 q.2.1 q.2.2 = true := (pt_piece 0 50 (List.all_eq_true.mp zd_351_0) (pt_piece 50 50 (List.all_eq_true.mp zd_351_50) (pt_piece 100 50 (List.all_eq_true.mp zd_351_100) (fun r hr => by rw [List.drop_eq_nil_of_le (by decide +kernel)] at hr; cases hr))))
  exact h
set_option maxRecDepth 100000 in
theorem zc_351 : zk_V 351 zt_351 := zk_chk_ok (cb := prog_14_method_11_code) (by rfl) zd_351 (by decide +kernel) (by decide +kernel)
def zt_352 : zk_T := [(0, .aload_n 0, 1), (1, .iload_n 1, 1), (2, .invokevirtual 253, 3), (5, .bipush 48, 2), (7, .if_icmp .lt 17, 3), (10, .aload_n 0, 1), (11, .iload_n 1, 1), (12, .invokevirtual 253, 3), (15, .bipush 57, 2), (17, .if_icmp .gt 7, 3), (20, .iconst 1, 1), (21, .goto 4, 3), (24, .iconst 0, 1), (25, .ireturn, 1)]
set_option maxRecDepth 100000 in
theorem zd_352 : ∀ q ∈ zt_352, pz_dq prog_14_method_7_code q.1 q.2.1 q.2.2 = true := List.all_eq_true.mp (show (zt_352.all fun q => pz_dq prog_14_method_7_code q.1 q.2.1 q.2.2) = true by decide +kernel)
set_option maxRecDepth 100000 in
theorem zc_352 : zk_V 352 zt_352 := zk_chk_ok (cb := prog_14_method_7_code) (by rfl) zd_352 (by decide +kernel) (by decide +kernel)
def zt_353 : zk_T := [(0, .aload_n 0, 1), (1, .iload_n 1, 1), (2, .invokevirtual 253, 3), (5, .bipush 97, 2), (7, .if_icmp .lt 17, 3), (10, .aload_n 0, 1), (11, .iload_n 1, 1), (12, .invokevirtual 253, 3), (15, .bipush 122, 2), (17, .if_icmp .gt 7, 3), (20, .iconst 1, 1), (21, .goto 4, 3), (24, .iconst 0, 1), (25, .ireturn, 1)]
set_option maxRecDepth 100000 in
theorem zd_353 : ∀ q ∈ zt_353, pz_dq prog_14_method_8_code q.1 q.2.1 q.2.2 = true := List.all_eq_true.mp (show (zt_353.all fun q => pz_dq prog_14_method_8_code q.1 q.2.1 q.2.2) = true by decide +kernel)
set_option maxRecDepth 100000 in
theorem zc_353 : zk_V 353 zt_353 := zk_chk_ok (cb := prog_14_method_8_code) (by rfl) zd_353 (by decide +kernel) (by decide +kernel)
def zt_354 : zk_T := [(0, .aload_n 0, 1), (1, .aload_n 0, 1), (2, .getfield 257, 3), (5, .invokevirtual 263, 3), (8, .ifCond .eq 16, 3), (11, .aload_n 0, 1), (12, .dup, 1), (13, .getfield 257, 3), (16, .iconst 1, 1), (17, .iadd, 1), (18, .putfield 257, 3), (21, .goto (-21), 3), (24, .aload_n 0, 1), (25, .getfield 257, 3), (28, .aload_n 0, 1), (29, .getfield 260, 3), (32, .isub, 1), (33, .iconst 1, 1), (34, .if_icmp .ne 33, 3), (37, .aload_n 0, 1), (38, .aload_n 0, 1), (39, .getfield 260, 3), (42, .invokevirtual 253, 3), (45, .bipush 102, 2), (47, .if_icmp .gt 17, 3), (50, .aload_n 0, 1), (51, .aload_n 0, 1), (52, .getfield 260, 3), (55, .invokevirtual 253, 3), (58, .bipush 97, 2), (60, .isub, 1), (61, .goto 5, 3), (64, .bipush 51, 2), (66, .ireturn, 1), (67, .aload_n 0, 1), (68, .bipush 97, 2), (70, .bipush 108, 2), (72, .bipush 119, 2), (74, .bipush 97, 2), (76, .bipush 121, 2), (78, .bipush 115, 2), (80, .invokevirtual 267, 3), (83, .ifCond .eq 6, 3), (86, .bipush 10, 2), (88, .ireturn, 1), (89, .aload_n 0, 1), (90, .bipush 98, 2), (92, .bipush 101, 2), (94, .bipush 102, 2), (96, .bipush 111, 2), (98, .bipush 114, 2), (100, .bipush 101, 2), (102, .invokevirtual 267, 3), (105, .ifCond .eq 6, 3), (108, .bipush 14, 2), (110, .ireturn, 1), (111, .aload_n 0, 1), (112, .bipush 110, 2), (114, .bipush 101, 2), (116, .bipush 118, 2), (118, .bipush 101, 2), (120, .bipush 114, 2), (122, .iconst 0, 1), (123, .invokevirtual 267, 3), (126, .ifCond .eq 6, 3), (129, .bipush 11, 2), (131, .ireturn, 1), (132, .aload_n 0, 1), (133, .bipush 117, 2), (135, .bipush 110, 2), (137, .bipush 116, 2), (139, .bipush 105, 2), (141, .bipush 108, 2), (143, .iconst 0, 1), (144, .invokevirtual 267, 3), (147, .ifCond .eq 6, 3), (150, .bipush 13, 2), (152, .ireturn, 1), (153, .aload_n 0, 1), (154, .bipush 110, 2), (156, .bipush 101, 2), (158, .bipush 120, 2), (160, .bipush 116, 2), (162, .iconst 0, 1), (163, .iconst 0, 1), (164, .invokevirtual 267, 3), (167, .ifCond .eq 8, 3), (170, .bipush 12, 2), (172, .goto 26, 3), (175, .aload_n 0, 1), (176, .bipush 97, 2), (178, .bipush 110, 2), (180, .bipush 100, 2), (182, .iconst 0, 1), (183, .iconst 0, 1), (184, .iconst 0, 1), (185, .invokevirtual 267, 3), (188, .ifCond .eq 8, 3), (191, .bipush 15, 2), (193, .goto 5, 3), (196, .bipush 51, 2), (198, .ireturn, 1)]
set_option maxRecDepth 100000 in
theorem zd_354_0 : (((zt_354.drop 0).take 50).all fun q => pz_dq prog_14_method_10_code q.1 q.2.1 q.2.2) = true := by decide +kernel
set_option maxRecDepth 100000 in
theorem zd_354_50 : (((zt_354.drop 50).take 50).all fun q => pz_dq prog_14_method_10_code q.1 q.2.1 q.2.2) = true := by decide +kernel
set_option maxRecDepth 100000 in
theorem zd_354_100 : (((zt_354.drop 100).take 50).all fun q => pz_dq prog_14_method_10_code q.1 q.2.1 q.2.2) = true := by decide +kernel
theorem zd_354 : ∀ q ∈ zt_354, pz_dq prog_14_method_10_code q.1 q.2.1 q.2.2 = true := by
  have h : ∀ q ∈ zt_354.drop 0, pz_dq prog_14_method_10_code q.1 q.2.1 q.2.2 = true := (pt_piece 0 50 (List.all_eq_true.mp zd_354_0) (pt_piece 50 50 (List.all_eq_true.mp zd_354_50) (pt_piece 100 50 (List.all_eq_true.mp zd_354_100) (fun r hr => by rw [List.drop_eq_nil_of_le (by decide +kernel)] at hr; cases hr))))
  exact h
set_option maxRecDepth 100000 in
theorem zc_354 : zk_V 354 zt_354 := zk_chk_ok (cb := prog_14_method_10_code) (by rfl) zd_354 (by decide +kernel) (by decide +kernel)
