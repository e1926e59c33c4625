/-! ===== the start: the second piece, counted ===== -/
set_option maxRecDepth 1000000 in
theorem st_pb_b : cq_s (zp_run 1 1 true ((zt_1.drop 51).take 33) 103 ([(0, .ref 0)], [], st_wa, 219, 10772)) 174 [(0, .ref 0)] st_wb 345 18058 = true := by decide +kernel
theorem st_pb : zp_run 1 1 true ((zt_1.drop 51).take 33) 103 ([(0, .ref 0)], [], st_wa, 219, 10772) = some (174, [(0, .ref 0)], [], st_wb, 345, 18058) := cq_s_ok st_pb_b
