/-! ===== decoded instructions, the rest (written by wip/whole/gen/part54.py) ===== -/
def zt_253 : zk_T := [(0, .iload_n 0, 1), (1, .iload_n 1, 1), (2, .iadd, 1), (3, .istore_n 2, 1), (4, .iload_n 2, 1), (5, .ifCond .ge 44, 3), (8, .new 204, 3), (11, .dup, 1), (12, .new 89, 3), (15, .dup, 1), (16, .invokespecial 91, 3), (19, .ldc 206, 2), (21, .invokevirtual 94, 3), (24, .iload_n 0, 1), (25, .invokevirtual 98, 3), (28, .ldc 208, 2), (30, .invokevirtual 94, 3), (33, .iload_n 1, 1), (34, .invokevirtual 98, 3), (37, .ldc 210, 2), (39, .invokevirtual 94, 3), (42, .invokevirtual 101, 3), (45, .invokespecial 212, 3), (48, .athrow, 1), (49, .iload_n 2, 1), (50, .ldc 200, 2), (52, .if_icmp .gt 6, 3), (55, .ldc 200, 2), (57, .ireturn, 1), (58, .iload_n 2, 1), (59, .ireturn, 1)]
set_option maxRecDepth 100000 in
theorem zd_253 : ∀ q ∈ zt_253, pz_dq prog_35_method_28_code q.1 q.2.1 q.2.2 = true := List.all_eq_true.mp (show (zt_253.all fun q => pz_dq prog_35_method_28_code q.1 q.2.1 q.2.2) = true by decide +kernel)
set_option maxRecDepth 100000 in
theorem zc_253 : zk_V 253 zt_253 := zk_chk_ok (cb := prog_35_method_28_code) (by rfl) zd_253 (by decide +kernel) (by decide +kernel)
def zt_256 : zk_T := [(0, .iload_n 1, 1), (1, .iconst 4, 1), (2, .iadd, 1), (3, .istore 6, 2), (5, .iload_n 1, 1), (6, .iload 6, 2), (8, .aload_n 0, 1), (9, .invokestatic 96, 3), (12, .aload_n 0, 1), (13, .iload_n 1, 1), (14, .iinc 1 1, 3), (17, .iload_n 2, 1), (18, .invokestatic 111, 3), (21, .aload_n 0, 1), (22, .iload_n 1, 1), (23, .iinc 1 1, 3), (26, .iload_n 3, 1), (27, .invokestatic 111, 3), (30, .aload_n 0, 1), (31, .iload_n 1, 1), (32, .iinc 1 1, 3), (35, .iload 4, 2), (37, .invokestatic 111, 3), (40, .aload_n 0, 1), (41, .iload_n 1, 1), (42, .iinc 1 1, 3), (45, .iload 5, 2), (47, .invokestatic 111, 3), (50, .getstatic 44, 3), (53, .ifCond .ne 17, 3), (56, .iload_n 1, 1), (57, .iload 6, 2), (59, .if_icmp .eq 11, 3), (62, .new 52, 3), (65, .dup, 1), (66, .invokespecial 66, 3), (69, .athrow, 1), (70, .iload 6, 2), (72, .ireturn, 1)]
set_option maxRecDepth 100000 in
theorem zd_256 : ∀ q ∈ zt_256, pz_dq prog_29_method_81_code q.1 q.2.1 q.2.2 = true := List.all_eq_true.mp (show (zt_256.all fun q => pz_dq prog_29_method_81_code q.1 q.2.1 q.2.2) = true by decide +kernel)
set_option maxRecDepth 100000 in
theorem zc_256 : zk_V 256 zt_256 := zk_chk_ok (cb := prog_29_method_81_code) (by rfl) zd_256 (by decide +kernel) (by decide +kernel)
def zt_257 : zk_T := [(0, .iload_n 0, 1), (1, .iload_n 1, 1), (2, .aload_n 2, 1), (3, .invokestatic 48, 3), (6, .invokestatic 241, 3), (9, .return_, 1)]
set_option maxRecDepth 100000 in
theorem zd_257 : ∀ q ∈ zt_257, pz_dq prog_29_method_93_code q.1 q.2.1 q.2.2 = true := List.all_eq_true.mp (show (zt_257.all fun q => pz_dq prog_29_method_93_code q.1 q.2.1 q.2.2) = true by decide +kernel)
set_option maxRecDepth 100000 in
theorem zc_257 : zk_V 257 zt_257 := zk_chk_ok (cb := prog_29_method_93_code) (by rfl) zd_257 (by decide +kernel) (by decide +kernel)
def zt_258 : zk_T := [(0, .iload_n 0, 1), (1, .iload_n 1, 1), (2, .iload_n 2, 1), (3, .getstatic 1053, 3), (6, .invokestatic 1062, 3), (9, .pop, 1), (10, .return_, 1)]
set_option maxRecDepth 100000 in
theorem zd_258 : ∀ q ∈ zt_258, pz_dq prog_25_method_158_code q.1 q.2.1 q.2.2 = true := List.all_eq_true.mp (show (zt_258.all fun q => pz_dq prog_25_method_158_code q.1 q.2.1 q.2.2) = true by decide +kernel)
set_option maxRecDepth 100000 in
theorem zc_258 : zk_V 258 zt_258 := zk_chk_ok (cb := prog_25_method_158_code) (by rfl) zd_258 (by decide +kernel) (by decide +kernel)
def zt_259 : zk_T := [(0, .iload_n 0, 1), (1, .ifCond .lt 13, 3), (4, .iload_n 0, 1), (5, .iload_n 1, 1), (6, .if_icmp .gt 8, 3), (9, .iload_n 1, 1), (10, .iload_n 2, 1), (11, .if_icmp .le 11, 3), (14, .aload_n 3, 1), (15, .iload_n 0, 1), (16, .iload_n 1, 1), (17, .iload_n 2, 1), (18, .invokestatic 99, 3), (21, .athrow, 1), (22, .iload_n 0, 1), (23, .ireturn, 1)]
set_option maxRecDepth 100000 in
theorem zd_259 : ∀ q ∈ zt_259, pz_dq prog_36_method_12_code q.1 q.2.1 q.2.2 = true := List.all_eq_true.mp (show (zt_259.all fun q => pz_dq prog_36_method_12_code q.1 q.2.1 q.2.2) = true by decide +kernel)
set_option maxRecDepth 100000 in
theorem zc_259 : zk_V 259 zt_259 := zk_chk_ok (cb := prog_36_method_12_code) (by rfl) zd_259 (by decide +kernel) (by decide +kernel)
def zt_260 : zk_T := [(0, .getstatic 44, 3), (3, .ifCond .ne 25, 3), (6, .iload_n 1, 1), (7, .ifCond .lt 11, 3), (10, .iload_n 1, 1), (11, .aload_n 0, 1), (12, .invokestatic 48, 3), (15, .if_icmp .lt 13, 3), (18, .new 52, 3), (21, .dup, 1), (22, .ldc 54, 2), (24, .invokespecial 56, 3), (27, .athrow, 1), (28, .iload_n 1, 1), (29, .iconst 1, 1), (30, .ishl, 1), (31, .istore_n 1, 1), (32, .aload_n 0, 1), (33, .iload_n 1, 1), (34, .iinc 1 1, 3), (37, .iload_n 2, 1), (38, .getstatic 59, 3), (41, .ishr, 1), (42, .i2b, 1), (43, .bastore, 1), (44, .aload_n 0, 1), (45, .iload_n 1, 1), (46, .iload_n 2, 1), (47, .getstatic 63, 3), (50, .ishr, 1), (51, .i2b, 1), (52, .bastore, 1), (53, .return_, 1)]
set_option maxRecDepth 100000 in
theorem zd_260 : ∀ q ∈ zt_260, pz_dq prog_29_method_4_code q.1 q.2.1 q.2.2 = true := List.all_eq_true.mp (show (zt_260.all fun q => pz_dq prog_29_method_4_code q.1 q.2.1 q.2.2) = true by decide +kernel)
set_option maxRecDepth 100000 in
theorem zc_260 : zk_V 260 zt_260 := zk_chk_ok (cb := prog_29_method_4_code) (by rfl) zd_260 (by decide +kernel) (by decide +kernel)
def zt_263 : zk_T := [(0, .aload_n 0, 1), (1, .invokevirtual 83, 3), (4, .ifCond .ne 4, 3), (7, .return_, 1), (8, .aload_n 0, 1), (9, .getfield 15, 3), (12, .arraylength, 1), (13, .invokestatic 26, 3), (16, .astore_n 1, 1), (17, .aload_n 0, 1), (18, .getfield 15, 3), (21, .iconst 0, 1), (22, .aload_n 1, 1), (23, .iconst 0, 1), (24, .aload_n 0, 1), (25, .getfield 79, 3), (28, .invokestatic 125, 3), (31, .aload_n 0, 1), (32, .aload_n 1, 1), (33, .putfield 15, 3), (36, .aload_n 0, 1), (37, .iconst 1, 1), (38, .putfield 22, 3), (41, .return_, 1)]
set_option maxRecDepth 100000 in
theorem zd_263 : ∀ q ∈ zt_263, pz_dq prog_15_method_11_code q.1 q.2.1 q.2.2 = true := List.all_eq_true.mp (show (zt_263.all fun q => pz_dq prog_15_method_11_code q.1 q.2.1 q.2.2) = true by decide +kernel)
set_option maxRecDepth 100000 in
theorem zc_263 : zk_V 263 zt_263 := zk_chk_ok (cb := prog_15_method_11_code) (by rfl) zd_263 (by decide +kernel) (by decide +kernel)
def zt_264 : zk_T := [(0, .aload_n 0, 1), (1, .iload_n 1, 1), (2, .aload_n 2, 1), (3, .iload_n 3, 1), (4, .iload 4, 2), (6, .invokestatic 240, 3), (9, .return_, 1)]
set_option maxRecDepth 100000 in
theorem zd_264 : ∀ q ∈ zt_264, pz_dq prog_28_method_50_code q.1 q.2.1 q.2.2 = true := List.all_eq_true.mp (show (zt_264.all fun q => pz_dq prog_28_method_50_code q.1 q.2.1 q.2.2) = true by decide +kernel)
set_option maxRecDepth 100000 in
theorem zc_264 : zk_V 264 zt_264 := zk_chk_ok (cb := prog_28_method_50_code) (by rfl) zd_264 (by decide +kernel) (by decide +kernel)
def zt_265 : zk_T := [(0, .iload_n 3, 1), (1, .iload 4, 2), (3, .aload_n 2, 1), (4, .invokestatic 173, 3), (7, .iconst 0, 1), (8, .istore 5, 2), (10, .iload 5, 2), (12, .iload 4, 2), (14, .if_icmp .ge 27, 3), (17, .aload_n 2, 1), (18, .iload_n 3, 1), (19, .iinc 3 1, 3), (22, .aload_n 0, 1), (23, .iload_n 1, 1), (24, .iinc 1 1, 3), (27, .baload, 1), (28, .sipush 255, 3), (31, .iand, 1), (32, .invokestatic 111, 3), (35, .iinc 5 1, 3), (38, .goto (-28), 3), (41, .return_, 1)]
set_option maxRecDepth 100000 in
theorem zd_265 : ∀ q ∈ zt_265, pz_dq prog_29_method_86_code q.1 q.2.1 q.2.2 = true := List.all_eq_true.mp (show (zt_265.all fun q => pz_dq prog_29_method_86_code q.1 q.2.1 q.2.2) = true by decide +kernel)
set_option maxRecDepth 100000 in
theorem zc_265 : zk_V 265 zt_265 := zk_chk_ok (cb := prog_29_method_86_code) (by rfl) zd_265 (by decide +kernel) (by decide +kernel)
def zt_266 : zk_T := [(0, .iload_n 0, 1), (1, .iload_n 1, 1), (2, .aload_n 2, 1), (3, .invokestatic 48, 3), (6, .invokestatic 419, 3), (9, .pop, 1), (10, .return_, 1)]
set_option maxRecDepth 100000 in
theorem zd_266 : ∀ q ∈ zt_266, pz_dq prog_29_method_94_code q.1 q.2.1 q.2.2 = true := List.all_eq_true.mp (show (zt_266.all fun q => pz_dq prog_29_method_94_code q.1 q.2.1 q.2.2) = true by decide +kernel)
set_option maxRecDepth 100000 in
theorem zc_266 : zk_V 266 zt_266 := zk_chk_ok (cb := prog_29_method_94_code) (by rfl) zd_266 (by decide +kernel) (by decide +kernel)
def zt_267 : zk_T := [(0, .iload_n 0, 1), (1, .iload_n 1, 1), (2, .iload_n 2, 1), (3, .getstatic 1053, 3), (6, .invokestatic 1065, 3), (9, .ireturn, 1)]
set_option maxRecDepth 100000 in
theorem zd_267 : ∀ q ∈ zt_267, pz_dq prog_25_method_157_code q.1 q.2.1 q.2.2 = true := List.all_eq_true.mp (show (zt_267.all fun q => pz_dq prog_25_method_157_code q.1 q.2.1 q.2.2) = true by decide +kernel)
set_option maxRecDepth 100000 in
theorem zc_267 : zk_V 267 zt_267 := zk_chk_ok (cb := prog_25_method_157_code) (by rfl) zd_267 (by decide +kernel) (by decide +kernel)
def zt_268 : zk_T := [(0, .iload_n 2, 1), (1, .iload_n 0, 1), (2, .ior, 1), (3, .iload_n 1, 1), (4, .ior, 1), (5, .ifCond .lt 10, 3), (8, .iload_n 1, 1), (9, .iload_n 2, 1), (10, .iload_n 0, 1), (11, .isub, 1), (12, .if_icmp .le 11, 3), (15, .aload_n 3, 1), (16, .iload_n 0, 1), (17, .iload_n 1, 1), (18, .iload_n 2, 1), (19, .invokestatic 103, 3), (22, .athrow, 1), (23, .iload_n 0, 1), (24, .ireturn, 1)]
set_option maxRecDepth 100000 in
theorem zd_268 : ∀ q ∈ zt_268, pz_dq prog_36_method_13_code q.1 q.2.1 q.2.2 = true := List.all_eq_true.mp (show (zt_268.all fun q => pz_dq prog_36_method_13_code q.1 q.2.1 q.2.2) = true by decide +kernel)
set_option maxRecDepth 100000 in
theorem zc_268 : zk_V 268 zt_268 := zk_chk_ok (cb := prog_36_method_13_code) (by rfl) zd_268 (by decide +kernel) (by decide +kernel)
def zt_274 : zk_T := [(0, .iload_n 1, 1), (1, .iload_n 2, 1), (2, .aload_n 3, 1), (3, .invokestatic 96, 3), (6, .iload_n 0, 1), (7, .iload_n 2, 1), (8, .aload_n 3, 1), (9, .invokestatic 393, 3), (12, .istore 4, 2), (14, .getstatic 44, 3), (17, .ifCond .ne 17, 3), (20, .iload_n 1, 1), (21, .iload 4, 2), (23, .if_icmp .eq 11, 3), (26, .new 52, 3), (29, .dup, 1), (30, .invokespecial 66, 3), (33, .athrow, 1), (34, .iload 4, 2), (36, .ireturn, 1)]
set_option maxRecDepth 100000 in
theorem zd_274 : ∀ q ∈ zt_274, pz_dq prog_29_method_77_code q.1 q.2.1 q.2.2 = true := List.all_eq_true.mp (show (zt_274.all fun q => pz_dq prog_29_method_77_code q.1 q.2.1 q.2.2) = true by decide +kernel)
set_option maxRecDepth 100000 in
theorem zc_274 : zk_V 274 zt_274 := zk_chk_ok (cb := prog_29_method_77_code) (by rfl) zd_274 (by decide +kernel) (by decide +kernel)
def zt_275 : zk_T := [(0, .iload_n 1, 1), (1, .istore 5, 2), (3, .iload_n 0, 1), (4, .ifCond .ge 7, 3), (7, .iconst 1, 1), (8, .goto 4, 3), (11, .iconst 0, 1), (12, .istore 6, 2), (14, .iload 6, 2), (16, .ifCond .ne 6, 3), (19, .iload_n 0, 1), (20, .ineg, 1), (21, .istore_n 0, 1), (22, .iload_n 0, 1), (23, .bipush (-100), 2), (25, .if_icmp .gt 51, 3), (28, .iload_n 0, 1), (29, .bipush 100, 2), (31, .idiv, 1), (32, .istore_n 3, 1), (33, .iload_n 3, 1), (34, .bipush 100, 2), (36, .imul, 1), (37, .iload_n 0, 1), (38, .isub, 1), (39, .istore 4, 2), (41, .iload_n 3, 1), (42, .istore_n 0, 1), (43, .aload_n 2, 1), (44, .iinc 5 (-1), 3), (47, .iload 5, 2), (49, .getstatic 403, 3), (52, .iload 4, 2), (54, .baload, 1), (55, .invokestatic 111, 3), (58, .aload_n 2, 1), (59, .iinc 5 (-1), 3), (62, .iload 5, 2), (64, .getstatic 407, 3), (67, .iload 4, 2), (69, .baload, 1), (70, .invokestatic 111, 3), (73, .goto (-51), 3), (76, .aload_n 2, 1), (77, .iinc 5 (-1), 3), (80, .iload 5, 2), (82, .getstatic 403, 3), (85, .iload_n 0, 1), (86, .ineg, 1), (87, .baload, 1), (88, .invokestatic 111, 3), (91, .iload_n 0, 1), (92, .bipush (-9), 2), (94, .if_icmp .ge 18, 3), (97, .aload_n 2, 1), (98, .iinc 5 (-1), 3), (101, .iload 5, 2), (103, .getstatic 407, 3), (106, .iload_n 0, 1), (107, .ineg, 1), (108, .baload, 1), (109, .invokestatic 111, 3), (112, .iload 6, 2), (114, .ifCond .eq 14, 3), (117, .aload_n 2, 1), (118, .iinc 5 (-1), 3), (121, .iload 5, 2), (123, .bipush 45, 2), (125, .invokestatic 111, 3), (128, .iload 5, 2), (130, .ireturn, 1)]
set_option maxRecDepth 100000 in
theorem zd_275 : ∀ q ∈ zt_275, pz_dq prog_29_method_89_code q.1 q.2.1 q.2.2 = true := List.all_eq_true.mp (show (zt_275.all fun q => pz_dq prog_29_method_89_code q.1 q.2.1 q.2.2) = true by decide +kernel)
set_option maxRecDepth 100000 in
theorem zc_275 : zk_V 275 zt_275 := zk_chk_ok (cb := prog_29_method_89_code) (by rfl) zd_275 (by decide +kernel) (by decide +kernel)
def zt_276 : zk_T := [(0, .new 18, 3), (3, .dup, 1), (4, .aload_n 0, 1), (5, .invokespecial 137, 3), (8, .areturn, 1)]
set_option maxRecDepth 100000 in
theorem zd_276 : ∀ q ∈ zt_276, pz_dq prog_26_method_42_code q.1 q.2.1 q.2.2 = true := List.all_eq_true.mp (show (zt_276.all fun q => pz_dq prog_26_method_42_code q.1 q.2.1 q.2.2) = true by decide +kernel)
set_option maxRecDepth 100000 in
theorem zc_276 : zk_V 276 zt_276 := zk_chk_ok (cb := prog_26_method_42_code) (by rfl) zd_276 (by decide +kernel) (by decide +kernel)
def zt_277 : zk_T := [(0, .aload_n 0, 1), (1, .aload_n 1, 1), (2, .aconst_null, 1), (3, .invokespecial 489, 3), (6, .return_, 1)]
set_option maxRecDepth 100000 in
theorem zd_277 : ∀ q ∈ zt_277, pz_dq prog_25_method_53_code q.1 q.2.1 q.2.2 = true := List.all_eq_true.mp (show (zt_277.all fun q => pz_dq prog_25_method_53_code q.1 q.2.1 q.2.2) = true by decide +kernel)
set_option maxRecDepth 100000 in
theorem zc_277 : zk_V 277 zt_277 := zk_chk_ok (cb := prog_25_method_53_code) (by rfl) zd_277 (by decide +kernel) (by decide +kernel)
def zt_278 : zk_T := [(0, .aload_n 0, 1), (1, .invokespecial 1, 3), (4, .aload_n 1, 1), (5, .invokevirtual 552, 3), (8, .astore_n 3, 1), (9, .aload_n 1, 1), (10, .invokevirtual 549, 3), (13, .istore 4, 2), (15, .aload_n 1, 1), (16, .invokevirtual 1047, 3), (19, .ifCond .eq 22, 3), (22, .aload_n 0, 1), (23, .iconst 0, 1), (24, .putfield 15, 3), (27, .aload_n 0, 1), (28, .aload_n 3, 1), (29, .iconst 0, 1), (30, .iload 4, 2), (32, .invokestatic 54, 3), (35, .putfield 9, 3), (38, .goto 59, 3), (41, .getstatic 38, 3), (44, .ifCond .eq 35, 3), (47, .aload_n 1, 1), (48, .getfield 1048, 3), (51, .ifCond .eq 28, 3), (54, .aload_n 0, 1), (55, .aload_n 3, 1), (56, .iconst 0, 1), (57, .iload 4, 2), (59, .invokestatic 1051, 3), (62, .putfield 9, 3), (65, .aload_n 0, 1), (66, .aload_n 0, 1), (67, .getfield 9, 3), (70, .iload 4, 2), (72, .invokestatic 47, 3), (75, .putfield 15, 3), (78, .return_, 1), (79, .aload_n 0, 1), (80, .iconst 1, 1), (81, .putfield 15, 3), (84, .aload_n 0, 1), (85, .aload_n 3, 1), (86, .iconst 0, 1), (87, .iload 4, 2), (89, .iconst 1, 1), (90, .ishl, 1), (91, .invokestatic 54, 3), (94, .putfield 9, 3), (97, .return_, 1)]
set_option maxRecDepth 100000 in
theorem zd_278 : ∀ q ∈ zt_278, pz_dq prog_25_method_150_code q.1 q.2.1 q.2.2 = true := List.all_eq_true.mp (show (zt_278.all fun q => pz_dq prog_25_method_150_code q.1 q.2.1 q.2.2) = true by decide +kernel)
set_option maxRecDepth 100000 in
theorem zc_278 : zk_V 278 zt_278 := zk_chk_ok (cb := prog_25_method_150_code) (by rfl) zd_278 (by decide +kernel) (by decide +kernel)
def zt_279 : zk_T := [(0, .aload_n 0, 1), (1, .getfield 15, 3), (4, .areturn, 1)]
set_option maxRecDepth 100000 in
theorem zd_279 : ∀ q ∈ zt_279, pz_dq prog_15_method_64_code q.1 q.2.1 q.2.2 = true := List.all_eq_true.mp (show (zt_279.all fun q => pz_dq prog_15_method_64_code q.1 q.2.1 q.2.2) = true by decide +kernel)
set_option maxRecDepth 100000 in
theorem zc_279 : zk_V 279 zt_279 := zk_chk_ok (cb := prog_15_method_64_code) (by rfl) zd_279 (by decide +kernel) (by decide +kernel)
def zt_282 : zk_T := [(0, .iload_n 1, 1), (1, .ifCond .ne 9, 3), (4, .iload_n 2, 1), (5, .aload_n 0, 1), (6, .arraylength, 1), (7, .if_icmp .eq 10, 3), (10, .aload_n 0, 1), (11, .iload_n 1, 1), (12, .iload_n 2, 1), (13, .invokestatic 339, 3), (16, .areturn, 1), (17, .aload_n 0, 1), (18, .invokevirtual 310, 3), (21, .checkcast 311, 3), (24, .areturn, 1)]
set_option maxRecDepth 100000 in
theorem zd_282 : ∀ q ∈ zt_282, pz_dq prog_33_method_132_code q.1 q.2.1 q.2.2 = true := List.all_eq_true.mp (show (zt_282.all fun q => pz_dq prog_33_method_132_code q.1 q.2.1 q.2.2) = true by decide +kernel)
set_option maxRecDepth 100000 in
theorem zc_282 : zk_V 282 zt_282 := zk_chk_ok (cb := prog_33_method_132_code) (by rfl) zd_282 (by decide +kernel) (by decide +kernel)
def zt_283 : zk_T := [(0, .iload_n 1, 1), (1, .iload_n 2, 1), (2, .invokestatic 343, 3), (5, .iload_n 2, 1), (6, .iload_n 1, 1), (7, .isub, 1), (8, .istore_n 3, 1), (9, .iload_n 3, 1), (10, .newarray .byte, 2), (12, .astore 4, 2), (14, .aload_n 0, 1), (15, .iload_n 1, 1), (16, .aload 4, 2), (18, .iconst 0, 1), (19, .aload_n 0, 1), (20, .arraylength, 1), (21, .iload_n 1, 1), (22, .isub, 1), (23, .iload_n 3, 1), (24, .invokestatic 304, 3), (27, .invokestatic 150, 3), (30, .aload 4, 2), (32, .areturn, 1)]
set_option maxRecDepth 100000 in
theorem zd_283 : ∀ q ∈ zt_283, pz_dq prog_33_method_133_code q.1 q.2.1 q.2.2 = true := List.all_eq_true.mp (show (zt_283.all fun q => pz_dq prog_33_method_133_code q.1 q.2.1 q.2.2) = true by decide +kernel)
set_option maxRecDepth 100000 in
theorem zc_283 : zk_V 283 zt_283 := zk_chk_ok (cb := prog_33_method_133_code) (by rfl) zd_283 (by decide +kernel) (by decide +kernel)
def zt_284 : zk_T := [(0, .iload_n 1, 1), (1, .iload_n 0, 1), (2, .if_icmp .ge 35, 3), (5, .new 43, 3), (8, .dup, 1), (9, .new 45, 3), (12, .dup, 1), (13, .invokespecial 47, 3), (16, .iload_n 0, 1), (17, .invokevirtual 54, 3), (20, .ldc_w 337, 3), (23, .invokevirtual 50, 3), (26, .iload_n 1, 1), (27, .invokevirtual 54, 3), (30, .invokevirtual 61, 3), (33, .invokespecial 65, 3), (36, .athrow, 1), (37, .return_, 1)]
set_option maxRecDepth 100000 in
theorem zd_284 : ∀ q ∈ zt_284, pz_dq prog_33_method_131_code q.1 q.2.1 q.2.2 = true := List.all_eq_true.mp (show (zt_284.all fun q => pz_dq prog_33_method_131_code q.1 q.2.1 q.2.2) = true by decide +kernel)
set_option maxRecDepth 100000 in
theorem zc_284 : zk_V 284 zt_284 := zk_chk_ok (cb := prog_33_method_131_code) (by rfl) zd_284 (by decide +kernel) (by decide +kernel)
def zt_285 : zk_T := [(0, .aload_n 0, 1), (1, .aload_n 1, 1), (2, .invokespecial 7, 3), (5, .return_, 1)]
set_option maxRecDepth 100000 in
theorem zd_285 : ∀ q ∈ zt_285, pz_dq prog_19_method_2_code q.1 q.2.1 q.2.2 = true := List.all_eq_true.mp (show (zt_285.all fun q => pz_dq prog_19_method_2_code q.1 q.2.1 q.2.2) = true by decide +kernel)
set_option maxRecDepth 100000 in
theorem zc_285 : zk_V 285 zt_285 := zk_chk_ok (cb := prog_19_method_2_code) (by rfl) zd_285 (by decide +kernel) (by decide +kernel)
def zt_286 : zk_T := [(0, .aload_n 0, 1), (1, .aload_n 1, 1), (2, .invokespecial 7, 3), (5, .return_, 1)]
set_option maxRecDepth 100000 in
theorem zd_286 : ∀ q ∈ zt_286, pz_dq prog_24_method_2_code q.1 q.2.1 q.2.2 = true := List.all_eq_true.mp (show (zt_286.all fun q => pz_dq prog_24_method_2_code q.1 q.2.1 q.2.2) = true by decide +kernel)
set_option maxRecDepth 100000 in
theorem zc_286 : zk_V 286 zt_286 := zk_chk_ok (cb := prog_24_method_2_code) (by rfl) zd_286 (by decide +kernel) (by decide +kernel)
def zt_287 : zk_T := [(0, .aload_n 0, 1), (1, .aload_n 1, 1), (2, .invokespecial 7, 3), (5, .return_, 1)]
set_option maxRecDepth 100000 in
theorem zd_287 : ∀ q ∈ zt_287, pz_dq prog_18_method_2_code q.1 q.2.1 q.2.2 = true := List.all_eq_true.mp (show (zt_287.all fun q => pz_dq prog_18_method_2_code q.1 q.2.1 q.2.2) = true by decide +kernel)
set_option maxRecDepth 100000 in
theorem zc_287 : zk_V 287 zt_287 := zk_chk_ok (cb := prog_18_method_2_code) (by rfl) zd_287 (by decide +kernel) (by decide +kernel)
def zt_288 : zk_T := [(0, .aload_n 0, 1), (1, .invokespecial 1, 3), (4, .aload_n 0, 1), (5, .aload_n 0, 1), (6, .putfield 7, 3), (9, .aload_n 0, 1), (10, .getstatic 13, 3), (13, .putfield 17, 3), (16, .aload_n 0, 1), (17, .getstatic 20, 3), (20, .putfield 24, 3), (23, .aload_n 0, 1), (24, .invokevirtual 27, 3), (27, .pop, 1), (28, .aload_n 0, 1), (29, .aload_n 1, 1), (30, .putfield 31, 3), (33, .return_, 1)]
set_option maxRecDepth 100000 in
theorem zd_288 : ∀ q ∈ zt_288, pz_dq prog_31_method_2_code q.1 q.2.1 q.2.2 = true := List.all_eq_true.mp (show (zt_288.all fun q => pz_dq prog_31_method_2_code q.1 q.2.1 q.2.2) = true by decide +kernel)
set_option maxRecDepth 100000 in
theorem zc_288 : zk_V 288 zt_288 := zk_chk_ok (cb := prog_31_method_2_code) (by rfl) zd_288 (by decide +kernel) (by decide +kernel)
def zt_289 : zk_T := [(0, .iload_n 2, 1), (1, .newarray .byte, 2), (3, .astore_n 3, 1), (4, .aload_n 0, 1), (5, .iload_n 1, 1), (6, .aload_n 3, 1), (7, .iconst 0, 1), (8, .iload_n 2, 1), (9, .invokestatic 123, 3), (12, .istore 4, 2), (14, .iload 4, 2), (16, .iload_n 2, 1), (17, .if_icmp .eq 47, 3), (20, .aload_n 0, 1), (21, .iload_n 1, 1), (22, .iconst 1, 1), (23, .ishl, 1), (24, .iload_n 1, 1), (25, .iload_n 2, 1), (26, .iadd, 1), (27, .invokestatic 11, 3), (30, .invokestatic 126, 3), (33, .astore 5, 2), (35, .aload 5, 2), (37, .iload 4, 2), (39, .invokestatic 71, 3), (42, .sipush 255, 3), (45, .if_icmp .gt 16, 3), (48, .aload 5, 2), (50, .iconst 0, 1), (51, .aload_n 3, 1), (52, .iconst 0, 1), (53, .iload_n 2, 1), (54, .invokestatic 123, 3), (57, .iload_n 2, 1), (58, .if_icmp .eq 6, 3), (61, .aload 5, 2), (63, .areturn, 1), (64, .aload_n 3, 1), (65, .areturn, 1)]
set_option maxRecDepth 100000 in
theorem zd_289 : ∀ q ∈ zt_289, pz_dq prog_29_method_17_code q.1 q.2.1 q.2.2 = true := List.all_eq_true.mp (show (zt_289.all fun q => pz_dq prog_29_method_17_code q.1 q.2.1 q.2.2) = true by decide +kernel)
set_option maxRecDepth 100000 in
theorem zc_289 : zk_V 289 zt_289 := zk_chk_ok (cb := prog_29_method_17_code) (by rfl) zd_289 (by decide +kernel) (by decide +kernel)
