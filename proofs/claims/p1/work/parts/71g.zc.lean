/-! ===== lengths of words, counted (written by wip/whole/gen/part71.py) ===== -/
set_option maxRecDepth 100000 in
theorem z4_d_1_9 : zd_c 1 9 = true := by decide +kernel
set_option maxRecDepth 100000 in
theorem z4_d_1_10 : zd_c 1 10 = true := by decide +kernel
set_option maxRecDepth 100000 in
theorem z4_d_1_11 : zd_c 1 11 = true := by decide +kernel
set_option maxRecDepth 100000 in
theorem z4_d_1_12 : zd_c 1 12 = true := by decide +kernel
