/-! ===== lengths of words, counted (written by wip/whole/gen/part71.py) ===== -/
set_option maxRecDepth 100000 in
theorem z4_d_3_1 : ([1, 2].all fun t => zd_c 3 t) = true := by decide +kernel
set_option maxRecDepth 100000 in
theorem z4_d_3_3 : ([3, 4].all fun t => zd_c 3 t) = true := by decide +kernel
