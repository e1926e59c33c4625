/-! ===== lengths of words, counted (written by wip/whole/gen/part71.py) ===== -/
set_option maxRecDepth 100000 in
theorem z4_d_3_1 : zd_c 3 1 = true := by decide +kernel
set_option maxRecDepth 100000 in
theorem z4_d_3_2 : zd_c 3 2 = true := by decide +kernel
set_option maxRecDepth 100000 in
theorem z4_d_3_3 : zd_c 3 3 = true := by decide +kernel
set_option maxRecDepth 100000 in
theorem z4_d_3_4 : zd_c 3 4 = true := by decide +kernel
