/-! ===== search and differ, counted (written by wip/whole/gen/part74.py) ===== -/
set_option maxRecDepth 100000 in
theorem z6_22_0_7 : ([7, 8, 9].all fun K => z5_chk 22 (z5_b 0 K)) = true := by decide +kernel
set_option maxRecDepth 100000 in
theorem z6_22_0_10 : ([10, 11, 12].all fun K => z5_chk 22 (z5_b 0 K)) = true := by decide +kernel
