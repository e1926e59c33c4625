/-! ===== decoded instructions (written by wip/whole/gen/part46.py) ===== -/
def zt_250 : zk_T := [(0, .aload_n 0, 1), (1, .getfield 15, 3), (4, .arraylength, 1), (5, .aload_n 0, 1), (6, .getfield 22, 3), (9, .ishr, 1), (10, .istore_n 2, 1), (11, .iload_n 1, 1), (12, .iload_n 2, 1), (13, .isub, 1), (14, .ifCond .le 24, 3), (17, .aload_n 0, 1), (18, .aload_n 0, 1), (19, .getfield 15, 3), (22, .aload_n 0, 1), (23, .iload_n 1, 1), (24, .invokevirtual 104, 3), (27, .aload_n 0, 1), (28, .getfield 22, 3), (31, .ishl, 1), (32, .invokestatic 108, 3), (35, .putfield 15, 3), (38, .return_, 1)]
set_option maxRecDepth 100000 in
theorem zd_250 : ∀ q ∈ zt_250, pz_dq prog_15_method_9_code q.1 q.2.1 q.2.2 = true := List.all_eq_true.mp (show (zt_250.all fun q => pz_dq prog_15_method_9_code q.1 q.2.1 q.2.2) = true by decide +kernel)
set_option maxRecDepth 100000 in
theorem zc_250 : zk_V 250 zt_250 := zk_chk_ok (cb := prog_15_method_9_code) (by rfl) zd_250 (by decide +kernel) (by decide +kernel)
def zt_251 : zk_T := [(0, .aload_n 0, 1), (1, .getfield 15, 3), (4, .arraylength, 1), (5, .istore_n 2, 1), (6, .iload_n 1, 1), (7, .aload_n 0, 1), (8, .getfield 22, 3), (11, .ishl, 1), (12, .istore_n 3, 1), (13, .iload_n 3, 1), (14, .iload_n 2, 1), (15, .isub, 1), (16, .istore 4, 2), (18, .iload_n 2, 1), (19, .iload 4, 2), (21, .iload_n 2, 1), (22, .iconst 2, 1), (23, .aload_n 0, 1), (24, .getfield 22, 3), (27, .ishl, 1), (28, .iadd, 1), (29, .invokestatic 114, 3), (32, .istore 5, 2), (34, .iload 5, 2), (36, .ldc 39, 2), (38, .if_icmp .ne 13, 3), (41, .new 120, 3), (44, .dup, 1), (45, .ldc 122, 2), (47, .invokespecial 124, 3), (50, .athrow, 1), (51, .iload 5, 2), (53, .aload_n 0, 1), (54, .getfield 22, 3), (57, .ishr, 1), (58, .ireturn, 1)]
set_option maxRecDepth 100000 in
theorem zd_251 : ∀ q ∈ zt_251, pz_dq prog_15_method_10_code q.1 q.2.1 q.2.2 = true := List.all_eq_true.mp (show (zt_251.all fun q => pz_dq prog_15_method_10_code q.1 q.2.1 q.2.2) = true by decide +kernel)
set_option maxRecDepth 100000 in
theorem zc_251 : zk_V 251 zt_251 := zk_chk_ok (cb := prog_15_method_10_code) (by rfl) zd_251 (by decide +kernel) (by decide +kernel)
def zt_252 : zk_T := [(0, .iload_n 0, 1), (1, .iload_n 1, 1), (2, .iload_n 2, 1), (3, .invokestatic 194, 3), (6, .iadd, 1), (7, .istore_n 3, 1), (8, .iconst 0, 1), (9, .iload_n 3, 1), (10, .if_icmp .ge 11, 3), (13, .iload_n 3, 1), (14, .ldc 200, 2), (16, .if_icmp .gt 5, 3), (19, .iload_n 3, 1), (20, .ireturn, 1), (21, .iload_n 0, 1), (22, .iload_n 1, 1), (23, .invokestatic 201, 3), (26, .ireturn, 1)]
set_option maxRecDepth 100000 in
theorem zd_252 : ∀ q ∈ zt_252, pz_dq prog_35_method_27_code q.1 q.2.1 q.2.2 = true := List.all_eq_true.mp (show (zt_252.all fun q => pz_dq prog_35_method_27_code q.1 q.2.1 q.2.2) = true by decide +kernel)
set_option maxRecDepth 100000 in
theorem zc_252 : zk_V 252 zt_252 := zk_chk_ok (cb := prog_35_method_27_code) (by rfl) zd_252 (by decide +kernel) (by decide +kernel)
def zt_254 : zk_T := [(0, .iload_n 1, 1), (1, .aload_n 0, 1), (2, .arraylength, 1), (3, .if_icmp .ne 11, 3), (6, .aload_n 0, 1), (7, .invokevirtual 310, 3), (10, .checkcast 311, 3), (13, .areturn, 1), (14, .iload_n 1, 1), (15, .newarray .byte, 2), (17, .astore_n 2, 1), (18, .aload_n 0, 1), (19, .iconst 0, 1), (20, .aload_n 2, 1), (21, .iconst 0, 1), (22, .aload_n 0, 1), (23, .arraylength, 1), (24, .iload_n 1, 1), (25, .invokestatic 304, 3), (28, .invokestatic 150, 3), (31, .aload_n 2, 1), (32, .areturn, 1)]
set_option maxRecDepth 100000 in
theorem zd_254 : ∀ q ∈ zt_254, pz_dq prog_33_method_121_code q.1 q.2.1 q.2.2 = true := List.all_eq_true.mp (show (zt_254.all fun q => pz_dq prog_33_method_121_code q.1 q.2.1 q.2.2) = true by decide +kernel)
set_option maxRecDepth 100000 in
theorem zc_254 : zk_V 254 zt_254 := zk_chk_ok (cb := prog_33_method_121_code) (by rfl) zd_254 (by decide +kernel) (by decide +kernel)
def zt_255 : zk_T := [(0, .getstatic 18, 3), (3, .ifCond .eq 14, 3), (6, .aload_n 0, 1), (7, .getfield 22, 3), (10, .ifCond .ne 7, 3), (13, .iconst 1, 1), (14, .goto 4, 3), (17, .iconst 0, 1), (18, .ireturn, 1)]
set_option maxRecDepth 100000 in
theorem zd_255 : ∀ q ∈ zt_255, pz_dq prog_15_method_68_code q.1 q.2.1 q.2.2 = true := List.all_eq_true.mp (show (zt_255.all fun q => pz_dq prog_15_method_68_code q.1 q.2.1 q.2.2) = true by decide +kernel)
set_option maxRecDepth 100000 in
theorem zc_255 : zk_V 255 zt_255 := zk_chk_ok (cb := prog_15_method_68_code) (by rfl) zd_255 (by decide +kernel) (by decide +kernel)
def zt_261 : zk_T := [(0, .aload_n 0, 1), (1, .aload_n 2, 1), (2, .invokevirtual 397, 3), (5, .aload_n 2, 1), (6, .aload_n 0, 1), (7, .getfield 15, 3), (10, .iload_n 1, 1), (11, .aload_n 0, 1), (12, .getfield 22, 3), (15, .invokevirtual 399, 3), (18, .return_, 1)]
set_option maxRecDepth 100000 in
theorem zd_261 : ∀ q ∈ zt_261, pz_dq prog_15_method_73_code q.1 q.2.1 q.2.2 = true := List.all_eq_true.mp (show (zt_261.all fun q => pz_dq prog_15_method_73_code q.1 q.2.1 q.2.2) = true by decide +kernel)
set_option maxRecDepth 100000 in
theorem zc_261 : zk_V 261 zt_261 := zk_chk_ok (cb := prog_15_method_73_code) (by rfl) zd_261 (by decide +kernel) (by decide +kernel)
def zt_262 : zk_T := [(0, .getstatic 18, 3), (3, .ifCond .eq 18, 3), (6, .aload_n 0, 1), (7, .getfield 22, 3), (10, .aload_n 1, 1), (11, .invokevirtual 40, 3), (14, .if_icmp .eq 7, 3), (17, .aload_n 0, 1), (18, .invokevirtual 195, 3), (21, .return_, 1)]
set_option maxRecDepth 100000 in
theorem zd_262 : ∀ q ∈ zt_262, pz_dq prog_15_method_71_code q.1 q.2.1 q.2.2 = true := List.all_eq_true.mp (show (zt_262.all fun q => pz_dq prog_15_method_71_code q.1 q.2.1 q.2.2) = true by decide +kernel)
set_option maxRecDepth 100000 in
theorem zc_262 : zk_V 262 zt_262 := zk_chk_ok (cb := prog_15_method_71_code) (by rfl) zd_262 (by decide +kernel) (by decide +kernel)
def zt_269 : zk_T := [(0, .aload_n 0, 1), (1, .invokevirtual 335, 3), (4, .iload_n 3, 1), (5, .if_icmp .ne 23, 3), (8, .aload_n 0, 1), (9, .getfield 9, 3), (12, .iconst 0, 1), (13, .aload_n 1, 1), (14, .iload_n 2, 1), (15, .iload_n 3, 1), (16, .ishl, 1), (17, .aload_n 0, 1), (18, .getfield 9, 3), (21, .arraylength, 1), (22, .invokestatic 212, 3), (25, .goto 18, 3), (28, .aload_n 0, 1), (29, .getfield 9, 3), (32, .iconst 0, 1), (33, .aload_n 1, 1), (34, .iload_n 2, 1), (35, .aload_n 0, 1), (36, .getfield 9, 3), (39, .arraylength, 1), (40, .invokestatic 106, 3), (43, .return_, 1)]
set_option maxRecDepth 100000 in
theorem zd_269 : ∀ q ∈ zt_269, pz_dq prog_25_method_147_code q.1 q.2.1 q.2.2 = true := List.all_eq_true.mp (show (zt_269.all fun q => pz_dq prog_25_method_147_code q.1 q.2.1 q.2.2) = true by decide +kernel)
set_option maxRecDepth 100000 in
theorem zc_269 : zk_V 269 zt_269 := zk_chk_ok (cb := prog_25_method_147_code) (by rfl) zd_269 (by decide +kernel) (by decide +kernel)
def zt_270 : zk_T := [(0, .aload_n 0, 1), (1, .iload_n 1, 1), (2, .invokespecial 53, 3), (5, .pop, 1), (6, .aload_n 0, 1), (7, .areturn, 1)]
set_option maxRecDepth 100000 in
theorem zd_270 : ∀ q ∈ zt_270, pz_dq prog_26_method_15_code q.1 q.2.1 q.2.2 = true := List.all_eq_true.mp (show (zt_270.all fun q => pz_dq prog_26_method_15_code q.1 q.2.1 q.2.2) = true by decide +kernel)
set_option maxRecDepth 100000 in
theorem zc_270 : zk_V 270 zt_270 := zk_chk_ok (cb := prog_26_method_15_code) (by rfl) zd_270 (by decide +kernel) (by decide +kernel)
def zt_271 : zk_T := [(0, .aload_n 0, 1), (1, .getfield 79, 3), (4, .istore_n 2, 1), (5, .iload_n 2, 1), (6, .iload_n 1, 1), (7, .invokestatic 245, 3), (10, .iadd, 1), (11, .istore_n 3, 1), (12, .aload_n 0, 1), (13, .iload_n 3, 1), (14, .invokevirtual 100, 3), (17, .aload_n 0, 1), (18, .invokevirtual 83, 3), (21, .ifCond .eq 16, 3), (24, .iload_n 1, 1), (25, .iload_n 3, 1), (26, .aload_n 0, 1), (27, .getfield 15, 3), (30, .invokestatic 248, 3), (33, .pop, 1), (34, .goto 14, 3), (37, .iload_n 1, 1), (38, .iload_n 2, 1), (39, .iload_n 3, 1), (40, .aload_n 0, 1), (41, .getfield 15, 3), (44, .invokestatic 251, 3), (47, .pop, 1), (48, .aload_n 0, 1), (49, .iload_n 3, 1), (50, .putfield 79, 3), (53, .aload_n 0, 1), (54, .areturn, 1)]
set_option maxRecDepth 100000 in
theorem zd_271 : ∀ q ∈ zt_271, pz_dq prog_15_method_32_code q.1 q.2.1 q.2.2 = true := List.all_eq_true.mp (show (zt_271.all fun q => pz_dq prog_15_method_32_code q.1 q.2.1 q.2.2) = true by decide +kernel)
set_option maxRecDepth 100000 in
theorem zc_271 : zk_V 271 zt_271 := zk_chk_ok (cb := prog_15_method_32_code) (by rfl) zd_271 (by decide +kernel) (by decide +kernel)
def zt_272 : zk_T := [(0, .iconst 1, 1), (1, .istore_n 1, 1), (2, .iload_n 0, 1), (3, .ifCond .lt 8, 3), (6, .iconst 0, 1), (7, .istore_n 1, 1), (8, .iload_n 0, 1), (9, .ineg, 1), (10, .istore_n 0, 1), (11, .bipush (-10), 2), (13, .istore_n 2, 1), (14, .iconst 1, 1), (15, .istore_n 3, 1), (16, .iload_n 3, 1), (17, .bipush 10, 2), (19, .if_icmp .ge 23, 3), (22, .iload_n 0, 1), (23, .iload_n 2, 1), (24, .if_icmp .le 7, 3), (27, .iload_n 3, 1), (28, .iload_n 1, 1), (29, .iadd, 1), (30, .ireturn, 1), (31, .bipush 10, 2), (33, .iload_n 2, 1), (34, .imul, 1), (35, .istore_n 2, 1), (36, .iinc 3 1, 3), (39, .goto (-23), 3), (42, .bipush 10, 2), (44, .iload_n 1, 1), (45, .iadd, 1), (46, .ireturn, 1)]
set_option maxRecDepth 100000 in
theorem zd_272 : ∀ q ∈ zt_272, pz_dq prog_22_method_13_code q.1 q.2.1 q.2.2 = true := List.all_eq_true.mp (show (zt_272.all fun q => pz_dq prog_22_method_13_code q.1 q.2.1 q.2.2) = true by decide +kernel)
set_option maxRecDepth 100000 in
theorem zc_272 : zk_V 272 zt_272 := zk_chk_ok (cb := prog_22_method_13_code) (by rfl) zd_272 (by decide +kernel) (by decide +kernel)
def zt_273 : zk_T := [(0, .iload_n 1, 1), (1, .istore 5, 2), (3, .iload_n 0, 1), (4, .ifCond .ge 7, 3), (7, .iconst 1, 1), (8, .goto 4, 3), (11, .iconst 0, 1), (12, .istore 6, 2), (14, .iload 6, 2), (16, .ifCond .ne 6, 3), (19, .iload_n 0, 1), (20, .ineg, 1), (21, .istore_n 0, 1), (22, .iload_n 0, 1), (23, .bipush (-100), 2), (25, .if_icmp .gt 47, 3), (28, .iload_n 0, 1), (29, .bipush 100, 2), (31, .idiv, 1), (32, .istore_n 3, 1), (33, .iload_n 3, 1), (34, .bipush 100, 2), (36, .imul, 1), (37, .iload_n 0, 1), (38, .isub, 1), (39, .istore 4, 2), (41, .iload_n 3, 1), (42, .istore_n 0, 1), (43, .aload_n 2, 1), (44, .iinc 5 (-1), 3), (47, .iload 5, 2), (49, .getstatic 83, 3), (52, .iload 4, 2), (54, .baload, 1), (55, .bastore, 1), (56, .aload_n 2, 1), (57, .iinc 5 (-1), 3), (60, .iload 5, 2), (62, .getstatic 87, 3), (65, .iload 4, 2), (67, .baload, 1), (68, .bastore, 1), (69, .goto (-47), 3), (72, .aload_n 2, 1), (73, .iinc 5 (-1), 3), (76, .iload 5, 2), (78, .getstatic 83, 3), (81, .iload_n 0, 1), (82, .ineg, 1), (83, .baload, 1), (84, .bastore, 1), (85, .iload_n 0, 1), (86, .bipush (-9), 2), (88, .if_icmp .ge 16, 3), (91, .aload_n 2, 1), (92, .iinc 5 (-1), 3), (95, .iload 5, 2), (97, .getstatic 87, 3), (100, .iload_n 0, 1), (101, .ineg, 1), (102, .baload, 1), (103, .bastore, 1), (104, .iload 6, 2), (106, .ifCond .eq 12, 3), (109, .aload_n 2, 1), (110, .iinc 5 (-1), 3), (113, .iload 5, 2), (115, .bipush 45, 2), (117, .bastore, 1), (118, .iload 5, 2), (120, .ireturn, 1)]
set_option maxRecDepth 100000 in
theorem zd_273 : ∀ q ∈ zt_273, pz_dq prog_22_method_12_code q.1 q.2.1 q.2.2 = true := List.all_eq_true.mp (show (zt_273.all fun q => pz_dq prog_22_method_12_code q.1 q.2.1 q.2.2) = true by decide +kernel)
set_option maxRecDepth 100000 in
theorem zc_273 : zk_V 273 zt_273 := zk_chk_ok (cb := prog_22_method_12_code) (by rfl) zd_273 (by decide +kernel) (by decide +kernel)
def zt_280 : zk_T := [(0, .aload_n 0, 1), (1, .invokespecial 343, 3), (4, .ireturn, 1)]
set_option maxRecDepth 100000 in
theorem zd_280 : ∀ q ∈ zt_280, pz_dq prog_26_method_93_code q.1 q.2.1 q.2.2 = true := List.all_eq_true.mp (show (zt_280.all fun q => pz_dq prog_26_method_93_code q.1 q.2.1 q.2.2) = true by decide +kernel)
set_option maxRecDepth 100000 in
theorem zc_280 : zk_V 280 zt_280 := zk_chk_ok (cb := prog_26_method_93_code) (by rfl) zd_280 (by decide +kernel) (by decide +kernel)
def zt_281 : zk_T := [(0, .aload_n 0, 1), (1, .getfield 79, 3), (4, .ireturn, 1)]
set_option maxRecDepth 100000 in
theorem zd_281 : ∀ q ∈ zt_281, pz_dq prog_15_method_6_code q.1 q.2.1 q.2.2 = true := List.all_eq_true.mp (show (zt_281.all fun q => pz_dq prog_15_method_6_code q.1 q.2.1 q.2.2) = true by decide +kernel)
set_option maxRecDepth 100000 in
theorem zc_281 : zk_V 281 zt_281 := zk_chk_ok (cb := prog_15_method_6_code) (by rfl) zd_281 (by decide +kernel) (by decide +kernel)
def zt_298 : zk_T := [(0, .aload_n 0, 1), (1, .getfield 34, 3), (4, .bipush 32, 2), (6, .invokevirtual 98, 3), (9, .pop, 1), (10, .aload_n 0, 1), (11, .getfield 34, 3), (14, .iload_n 1, 1), (15, .invokevirtual 101, 3), (18, .pop, 1), (19, .return_, 1)]
set_option maxRecDepth 100000 in
theorem zd_298 : ∀ q ∈ zt_298, pz_dq prog_3_method_19_code q.1 q.2.1 q.2.2 = true := List.all_eq_true.mp (show (zt_298.all fun q => pz_dq prog_3_method_19_code q.1 q.2.1 q.2.2) = true by decide +kernel)
set_option maxRecDepth 100000 in
theorem zc_298 : zk_V 298 zt_298 := zk_chk_ok (cb := prog_3_method_19_code) (by rfl) zd_298 (by decide +kernel) (by decide +kernel)
def zt_299 : zk_T := [(0, .aload_n 0, 1), (1, .iload_n 1, 1), (2, .invokespecial 50, 3), (5, .pop, 1), (6, .aload_n 0, 1), (7, .areturn, 1)]
set_option maxRecDepth 100000 in
theorem zd_299 : ∀ q ∈ zt_299, pz_dq prog_26_method_14_code q.1 q.2.1 q.2.2 = true := List.all_eq_true.mp (show (zt_299.all fun q => pz_dq prog_26_method_14_code q.1 q.2.1 q.2.2) = true by decide +kernel)
set_option maxRecDepth 100000 in
theorem zc_299 : zk_V 299 zt_299 := zk_chk_ok (cb := prog_26_method_14_code) (by rfl) zd_299 (by decide +kernel) (by decide +kernel)
def zt_300 : zk_T := [(0, .aload_n 0, 1), (1, .aload_n 0, 1), (2, .getfield 79, 3), (5, .iconst 1, 1), (6, .iadd, 1), (7, .invokevirtual 100, 3), (10, .aload_n 0, 1), (11, .invokevirtual 83, 3), (14, .ifCond .eq 31, 3), (17, .iload_n 1, 1), (18, .invokestatic 191, 3), (21, .ifCond .eq 24, 3), (24, .aload_n 0, 1), (25, .getfield 15, 3), (28, .aload_n 0, 1), (29, .dup, 1), (30, .getfield 79, 3), (33, .dup_x1, 1), (34, .iconst 1, 1), (35, .iadd, 1), (36, .putfield 79, 3), (39, .iload_n 1, 1), (40, .i2b, 1), (41, .bastore, 1), (42, .goto 33, 3), (45, .aload_n 0, 1), (46, .invokevirtual 83, 3), (49, .ifCond .eq 7, 3), (52, .aload_n 0, 1), (53, .invokevirtual 195, 3), (56, .aload_n 0, 1), (57, .getfield 15, 3), (60, .aload_n 0, 1), (61, .dup, 1), (62, .getfield 79, 3), (65, .dup_x1, 1), (66, .iconst 1, 1), (67, .iadd, 1), (68, .putfield 79, 3), (71, .iload_n 1, 1), (72, .invokestatic 197, 3), (75, .aload_n 0, 1), (76, .areturn, 1)]
set_option maxRecDepth 100000 in
theorem zd_300 : ∀ q ∈ zt_300, pz_dq prog_15_method_31_code q.1 q.2.1 q.2.2 = true := List.all_eq_true.mp (show (zt_300.all fun q => pz_dq prog_15_method_31_code q.1 q.2.1 q.2.2) = true by decide +kernel)
set_option maxRecDepth 100000 in
theorem zc_300 : zk_V 300 zt_300 := zk_chk_ok (cb := prog_15_method_31_code) (by rfl) zd_300 (by decide +kernel) (by decide +kernel)
def zt_301 : zk_T := [(0, .iload_n 0, 1), (1, .sipush 255, 3), (4, .if_icmp .gt 7, 3), (7, .iconst 1, 1), (8, .goto 4, 3), (11, .iconst 0, 1), (12, .ireturn, 1)]
set_option maxRecDepth 100000 in
theorem zd_301 : ∀ q ∈ zt_301, pz_dq prog_28_method_3_code q.1 q.2.1 q.2.2 = true := List.all_eq_true.mp (show (zt_301.all fun q => pz_dq prog_28_method_3_code q.1 q.2.1 q.2.2) = true by decide +kernel)
set_option maxRecDepth 100000 in
theorem zc_301 : zk_V 301 zt_301 := zk_chk_ok (cb := prog_28_method_3_code) (by rfl) zd_301 (by decide +kernel) (by decide +kernel)
def zt_303 : zk_T := [(0, .aload_n 0, 1), (1, .iload_n 1, 1), (2, .invokespecial 329, 3), (5, .ireturn, 1)]
set_option maxRecDepth 100000 in
theorem zd_303 : ∀ q ∈ zt_303, pz_dq prog_26_method_88_code q.1 q.2.1 q.2.2 = true := List.all_eq_true.mp (show (zt_303.all fun q => pz_dq prog_26_method_88_code q.1 q.2.1 q.2.2) = true by decide +kernel)
set_option maxRecDepth 100000 in
theorem zc_303 : zk_V 303 zt_303 := zk_chk_ok (cb := prog_26_method_88_code) (by rfl) zd_303 (by decide +kernel) (by decide +kernel)
def zt_304 : zk_T := [(0, .aload_n 0, 1), (1, .getfield 22, 3), (4, .istore_n 2, 1), (5, .aload_n 0, 1), (6, .getfield 15, 3), (9, .astore_n 3, 1), (10, .aload_n 0, 1), (11, .getfield 79, 3), (14, .aload_n 3, 1), (15, .arraylength, 1), (16, .iload_n 2, 1), (17, .ishr, 1), (18, .invokestatic 138, 3), (21, .istore 4, 2), (23, .iload_n 1, 1), (24, .iload 4, 2), (26, .invokestatic 144, 3), (29, .iload_n 2, 1), (30, .ifCond .ne 12, 3), (33, .aload_n 3, 1), (34, .iload_n 1, 1), (35, .baload, 1), (36, .sipush 255, 3), (39, .iand, 1), (40, .i2c, 1), (41, .ireturn, 1), (42, .aload_n 3, 1), (43, .iload_n 1, 1), (44, .invokestatic 148, 3), (47, .ireturn, 1)]
set_option maxRecDepth 100000 in
theorem zd_304 : ∀ q ∈ zt_304, pz_dq prog_15_method_14_code q.1 q.2.1 q.2.2 = true := List.all_eq_true.mp (show (zt_304.all fun q => pz_dq prog_15_method_14_code q.1 q.2.1 q.2.2) = true by decide +kernel)
set_option maxRecDepth 100000 in
theorem zc_304 : zk_V 304 zt_304 := zk_chk_ok (cb := prog_15_method_14_code) (by rfl) zd_304 (by decide +kernel) (by decide +kernel)
def zt_305 : zk_T := [(0, .aload_n 2, 1), (1, .iconst 0, 1), (2, .aload_n 0, 1), (3, .iload_n 1, 1), (4, .invokevirtual 67, 3), (7, .i2l, 1), (8, .lastore, 1), (9, .goto 6, 3), (12, .astore_n 3, 1), (13, .iconst 1, 1), (14, .ireturn, 1), (15, .iconst 0, 1), (16, .ireturn, 1)]
set_option maxRecDepth 100000 in
theorem zd_305 : ∀ q ∈ zt_305, pz_dq method_17_code q.1 q.2.1 q.2.2 = true := List.all_eq_true.mp (show (zt_305.all fun q => pz_dq method_17_code q.1 q.2.1 q.2.2) = true by decide +kernel)
set_option maxRecDepth 100000 in
theorem zc_305 : zk_V 305 zt_305 := zk_chk_ok (cb := method_17_code) (by rfl) zd_305 (by decide +kernel) (by decide +kernel)
def zt_306 : zk_T := [(0, .iload_n 1, 1), (1, .ifCond .lt 9, 3), (4, .iload_n 1, 1), (5, .bipush 9, 2), (7, .if_icmp .lt 11, 3), (10, .new 95, 3), (13, .dup, 1), (14, .invokespecial 97, 3), (17, .athrow, 1), (18, .iload_n 1, 1), (19, .iconst 3, 1), (20, .if_icmp .lt 14, 3), (23, .aload_n 0, 1), (24, .getfield 89, 3), (27, .iload_n 1, 1), (28, .iconst 3, 1), (29, .isub, 1), (30, .invokevirtual 215, 3), (33, .ireturn, 1), (34, .iload_n 1, 1), (35, .ifCond .ne 13, 3), (38, .aload_n 0, 1), (39, .getfield 89, 3), (42, .invokevirtual 218, 3), (45, .goto 25, 3), (48, .iload_n 1, 1), (49, .iconst 1, 1), (50, .if_icmp .ne 13, 3), (53, .aload_n 0, 1), (54, .getfield 89, 3), (57, .invokevirtual 221, 3), (60, .goto 10, 3), (63, .aload_n 0, 1), (64, .getfield 89, 3), (67, .invokevirtual 224, 3), (70, .ireturn, 1)]
set_option maxRecDepth 100000 in
theorem zd_306 : ∀ q ∈ zt_306, pz_dq prog_1_method_19_code q.1 q.2.1 q.2.2 = true := List.all_eq_true.mp (show (zt_306.all fun q => pz_dq prog_1_method_19_code q.1 q.2.1 q.2.2) = true by decide +kernel)
set_option maxRecDepth 100000 in
theorem zc_306 : zk_V 306 zt_306 := zk_chk_ok (cb := prog_1_method_19_code) (by rfl) zd_306 (by decide +kernel) (by decide +kernel)
def zt_307 : zk_T := [(0, .aload_n 0, 1), (1, .getfield 25, 3), (4, .iload_n 1, 1), (5, .iaload, 1), (6, .ireturn, 1)]
set_option maxRecDepth 100000 in
theorem zd_307 : ∀ q ∈ zt_307, pz_dq prog_3_method_8_code q.1 q.2.1 q.2.2 = true := List.all_eq_true.mp (show (zt_307.all fun q => pz_dq prog_3_method_8_code q.1 q.2.1 q.2.2) = true by decide +kernel)
set_option maxRecDepth 100000 in
theorem zc_307 : zk_V 307 zt_307 := zk_chk_ok (cb := prog_3_method_8_code) (by rfl) zd_307 (by decide +kernel) (by decide +kernel)
def zt_308 : zk_T := [(0, .aload_n 0, 1), (1, .getfield 38, 3), (4, .ireturn, 1)]
set_option maxRecDepth 100000 in
theorem zd_308 : ∀ q ∈ zt_308, pz_dq prog_3_method_3_code q.1 q.2.1 q.2.2 = true := List.all_eq_true.mp (show (zt_308.all fun q => pz_dq prog_3_method_3_code q.1 q.2.1 q.2.2) = true by decide +kernel)
set_option maxRecDepth 100000 in
theorem zc_308 : zk_V 308 zt_308 := zk_chk_ok (cb := prog_3_method_3_code) (by rfl) zd_308 (by decide +kernel) (by decide +kernel)
def zt_309 : zk_T := [(0, .aload_n 0, 1), (1, .getfield 48, 3), (4, .ireturn, 1)]
set_option maxRecDepth 100000 in
theorem zd_309 : ∀ q ∈ zt_309, pz_dq prog_3_method_4_code q.1 q.2.1 q.2.2 = true := List.all_eq_true.mp (show (zt_309.all fun q => pz_dq prog_3_method_4_code q.1 q.2.1 q.2.2) = true by decide +kernel)
set_option maxRecDepth 100000 in
theorem zc_309 : zk_V 309 zt_309 := zk_chk_ok (cb := prog_3_method_4_code) (by rfl) zd_309 (by decide +kernel) (by decide +kernel)
def zt_310 : zk_T := [(0, .aload_n 0, 1), (1, .iload_n 1, 1), (2, .iload_n 2, 1), (3, .invokevirtual 70, 3), (6, .goto 6, 3), (9, .astore_n 3, 1), (10, .iconst 1, 1), (11, .ireturn, 1), (12, .iconst 0, 1), (13, .ireturn, 1)]
set_option maxRecDepth 100000 in
theorem zd_310 : ∀ q ∈ zt_310, pz_dq method_18_code q.1 q.2.1 q.2.2 = true := List.all_eq_true.mp (show (zt_310.all fun q => pz_dq method_18_code q.1 q.2.1 q.2.2) = true by decide +kernel)
set_option maxRecDepth 100000 in
theorem zc_310 : zk_V 310 zt_310 := zk_chk_ok (cb := method_18_code) (by rfl) zd_310 (by decide +kernel) (by decide +kernel)
def zt_311 : zk_T := [(0, .iload_n 1, 1), (1, .iconst 1, 1), (2, .if_icmp .lt 17, 3), (5, .iload_n 1, 1), (6, .iconst 3, 1), (7, .if_icmp .gt 12, 3), (10, .iload_n 2, 1), (11, .ifCond .lt 8, 3), (14, .iload_n 2, 1), (15, .iconst 5, 1), (16, .if_icmp .le 11, 3), (19, .new 95, 3), (22, .dup, 1), (23, .invokespecial 97, 3), (26, .athrow, 1), (27, .aload_n 0, 1), (28, .getfield 89, 3), (31, .iload_n 1, 1), (32, .iload_n 2, 1), (33, .invokevirtual 227, 3), (36, .aload_n 0, 1), (37, .getfield 67, 3), (40, .invokevirtual 125, 3), (43, .return_, 1)]
set_option maxRecDepth 100000 in
theorem zd_311 : ∀ q ∈ zt_311, pz_dq prog_1_method_20_code q.1 q.2.1 q.2.2 = true := List.all_eq_true.mp (show (zt_311.all fun q => pz_dq prog_1_method_20_code q.1 q.2.1 q.2.2) = true by decide +kernel)
set_option maxRecDepth 100000 in
theorem zc_311 : zk_V 311 zt_311 := zk_chk_ok (cb := prog_1_method_20_code) (by rfl) zd_311 (by decide +kernel) (by decide +kernel)
