/-! ===== lengths of words, counted (written by wip/whole/gen/part71.py) ===== -/
set_option maxRecDepth 100000 in
theorem z4_d_1_5 : zd_c 1 5 = true := by decide +kernel
set_option maxRecDepth 100000 in
theorem z4_d_1_6 : zd_c 1 6 = true := by decide +kernel
set_option maxRecDepth 100000 in
theorem z4_d_1_7 : zd_c 1 7 = true := by decide +kernel
set_option maxRecDepth 100000 in
theorem z4_d_1_8 : zd_c 1 8 = true := by decide +kernel
