/-! ===== search and differ, counted (written by wip/whole/gen/part74.py) ===== -/
set_option maxRecDepth 100000 in
theorem z6_22_1_1 : ([1, 2, 3].all fun K => z5_chk 22 (z5_b 1 K)) = true := by decide +kernel
set_option maxRecDepth 100000 in
theorem z6_22_1_4 : ([4, 5, 6].all fun K => z5_chk 22 (z5_b 1 K)) = true := by decide +kernel
