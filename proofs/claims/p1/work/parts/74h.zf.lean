/-! ===== search and differ, counted (written by wip/whole/gen/part74.py) ===== -/
set_option maxRecDepth 100000 in
theorem z6_24_3_1 : ([1, 2].all fun K => z5_chk 24 (z5_b 3 K)) = true := by decide +kernel
set_option maxRecDepth 100000 in
theorem z6_24_3_3 : ([3, 4].all fun K => z5_chk 24 (z5_b 3 K)) = true := by decide +kernel
