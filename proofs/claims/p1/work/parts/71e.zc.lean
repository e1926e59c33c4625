/-! ===== lengths of words, counted (written by wip/whole/gen/part71.py) ===== -/
set_option maxRecDepth 100000 in
theorem z4_d_1_1 : zd_c 1 1 = true := by decide +kernel
set_option maxRecDepth 100000 in
theorem z4_d_1_2 : zd_c 1 2 = true := by decide +kernel
set_option maxRecDepth 100000 in
theorem z4_d_1_3 : zd_c 1 3 = true := by decide +kernel
set_option maxRecDepth 100000 in
theorem z4_d_1_4 : zd_c 1 4 = true := by decide +kernel
