/-! ===== lengths of words, counted (written by wip/whole/gen/part71.py) ===== -/
set_option maxRecDepth 100000 in
theorem z4_s_1_7 : zs_c 1 7 = true := by decide +kernel
set_option maxRecDepth 100000 in
theorem z4_s_1_8 : zs_c 1 8 = true := by decide +kernel
set_option maxRecDepth 100000 in
theorem z4_s_1_9 : zs_c 1 9 = true := by decide +kernel
set_option maxRecDepth 100000 in
theorem z4_s_1_10 : zs_c 1 10 = true := by decide +kernel
set_option maxRecDepth 100000 in
theorem z4_s_1_11 : zs_c 1 11 = true := by decide +kernel
set_option maxRecDepth 100000 in
theorem z4_s_1_12 : zs_c 1 12 = true := by decide +kernel
