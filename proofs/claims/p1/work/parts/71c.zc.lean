/-! ===== lengths of words, counted (written by wip/whole/gen/part71.py) ===== -/
set_option maxRecDepth 100000 in
theorem z4_s_1_1 : zs_c 1 1 = true := by decide +kernel
set_option maxRecDepth 100000 in
theorem z4_s_1_2 : zs_c 1 2 = true := by decide +kernel
set_option maxRecDepth 100000 in
theorem z4_s_1_3 : zs_c 1 3 = true := by decide +kernel
set_option maxRecDepth 100000 in
theorem z4_s_1_4 : zs_c 1 4 = true := by decide +kernel
set_option maxRecDepth 100000 in
theorem z4_s_1_5 : zs_c 1 5 = true := by decide +kernel
set_option maxRecDepth 100000 in
theorem z4_s_1_6 : zs_c 1 6 = true := by decide +kernel
