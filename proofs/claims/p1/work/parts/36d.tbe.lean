/-! ===== the reference's calls, by pieces ===== -/
set_option maxRecDepth 100000 in
theorem pt_M_32_120 : ((((pt_ML.getD 32 []).drop 120).take 30).all fun r => pt_cM 32 r.1 r.2) = true := by decide +kernel
