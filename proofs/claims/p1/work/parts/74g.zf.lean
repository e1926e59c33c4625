/-! ===== search and differ, counted (written by wip/whole/gen/part74.py) ===== -/
set_option maxRecDepth 100000 in
theorem z6_24_2_1 : ([1, 2, 3].all fun K => z5_chk 24 (z5_b 2 K)) = true := by decide +kernel
set_option maxRecDepth 100000 in
theorem z6_24_2_4 : ([4, 5, 6].all fun K => z5_chk 24 (z5_b 2 K)) = true := by decide +kernel
