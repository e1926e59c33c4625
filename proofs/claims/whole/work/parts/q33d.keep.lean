/-! ===== the start: the first piece, counted ===== -/
set_option maxRecDepth 1000000 in
theorem st_pa_b : cq_s (zp_run 1 1 true (zt_1.take 51) 0 ([(0, .ref 0)], [], [.inr (0, pt_fz 0)], 0, 0)) 103 [(0, .ref 0)] st_wa 219 10772 = true := by decide +kernel
theorem st_pa : zp_run 1 1 true (zt_1.take 51) 0 ([(0, .ref 0)], [], [.inr (0, pt_fz 0)], 0, 0) = some (103, [(0, .ref 0)], [], st_wa, 219, 10772) := cq_s_ok st_pa_b
