/-! ===== lengths of words, counted (written by wip/whole/gen/part71.py) ===== -/
set_option maxRecDepth 100000 in
theorem z4_d_2_1 : zd_c 2 1 = true := by decide +kernel
set_option maxRecDepth 100000 in
theorem z4_d_2_2 : zd_c 2 2 = true := by decide +kernel
set_option maxRecDepth 100000 in
theorem z4_d_2_3 : zd_c 2 3 = true := by decide +kernel
set_option maxRecDepth 100000 in
theorem z4_d_2_4 : zd_c 2 4 = true := by decide +kernel
set_option maxRecDepth 100000 in
theorem z4_d_2_5 : zd_c 2 5 = true := by decide +kernel
set_option maxRecDepth 100000 in
theorem z4_d_2_6 : zd_c 2 6 = true := by decide +kernel
