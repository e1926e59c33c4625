/-! ===== the reference's calls, by pieces ===== -/
set_option maxRecDepth 100000 in
theorem pt_M_32_0 : ((((pt_ML.getD 32 []).drop 0).take 30).all fun r => pt_cM 32 r.1 r.2) = true := by decide +kernel
set_option maxRecDepth 100000 in
theorem pt_M_32_30 : ((((pt_ML.getD 32 []).drop 30).take 30).all fun r => pt_cM 32 r.1 r.2) = true := by decide +kernel
