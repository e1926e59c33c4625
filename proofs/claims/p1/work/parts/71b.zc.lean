/-! ===== lengths of words, counted (written by wip/whole/gen/part71.py) ===== -/
set_option maxRecDepth 100000 in
theorem z4_s_0_7 : zs_c 0 7 = true := by decide +kernel
set_option maxRecDepth 100000 in
theorem z4_s_0_8 : zs_c 0 8 = true := by decide +kernel
set_option maxRecDepth 100000 in
theorem z4_s_0_9 : zs_c 0 9 = true := by decide +kernel
set_option maxRecDepth 100000 in
theorem z4_s_0_10 : zs_c 0 10 = true := by decide +kernel
set_option maxRecDepth 100000 in
theorem z4_s_0_11 : zs_c 0 11 = true := by decide +kernel
set_option maxRecDepth 100000 in
theorem z4_s_0_12 : zs_c 0 12 = true := by decide +kernel
