/-! ===== lengths of words, counted (written by wip/whole/gen/part71.py) ===== -/
set_option maxRecDepth 100000 in
theorem z4_d_1_7 : ([7, 8, 9].all fun t => zd_c 1 t) = true := by decide +kernel
set_option maxRecDepth 100000 in
theorem z4_d_1_10 : ([10, 11, 12].all fun t => zd_c 1 t) = true := by decide +kernel
