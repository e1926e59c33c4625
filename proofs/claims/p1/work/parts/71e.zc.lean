/-! ===== lengths of words, counted (written by wip/whole/gen/part71.py) ===== -/
set_option maxRecDepth 100000 in
theorem z4_d_1_1 : ([1, 2, 3].all fun t => zd_c 1 t) = true := by decide +kernel
set_option maxRecDepth 100000 in
theorem z4_d_1_4 : ([4, 5, 6].all fun t => zd_c 1 t) = true := by decide +kernel
