/-! ===== lengths of words, counted (written by wip/whole/gen/part71.py) ===== -/
set_option maxRecDepth 100000 in
theorem z4_s_0_1 : zs_c 0 1 = true := by decide +kernel
set_option maxRecDepth 100000 in
theorem z4_s_0_2 : zs_c 0 2 = true := by decide +kernel
set_option maxRecDepth 100000 in
theorem z4_s_0_3 : zs_c 0 3 = true := by decide +kernel
set_option maxRecDepth 100000 in
theorem z4_s_0_4 : zs_c 0 4 = true := by decide +kernel
set_option maxRecDepth 100000 in
theorem z4_s_0_5 : zs_c 0 5 = true := by decide +kernel
set_option maxRecDepth 100000 in
theorem z4_s_0_6 : zs_c 0 6 = true := by decide +kernel
