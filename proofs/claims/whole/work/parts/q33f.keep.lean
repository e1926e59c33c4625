/-! ===== the start: the third piece, counted ===== -/
set_option maxRecDepth 1000000 in
theorem st_pc_b : cq_s (zp_run 1 1 true ((zt_1.drop 84).take 15) 174 ([(0, .ref 0)], [], st_wb, 345, 18058)) 207 [(0, .ref 0)] st_wc 459 21036 = true := by decide +kernel
theorem st_pc : zp_run 1 1 true ((zt_1.drop 84).take 15) 174 ([(0, .ref 0)], [], st_wb, 345, 18058) = some (207, [(0, .ref 0)], [], st_wc, 459, 21036) := cq_s_ok st_pc_b
