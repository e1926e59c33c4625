/-! ===== search and differ, counted (written by wip/whole/gen/part74.py) ===== -/
set_option maxRecDepth 100000 in
theorem z6_22_1_7 : z5_chk 22 (z5_b 1 7) = true := by decide +kernel
set_option maxRecDepth 100000 in
theorem z6_22_1_8 : z5_chk 22 (z5_b 1 8) = true := by decide +kernel
set_option maxRecDepth 100000 in
theorem z6_22_1_9 : z5_chk 22 (z5_b 1 9) = true := by decide +kernel
set_option maxRecDepth 100000 in
theorem z6_22_1_10 : z5_chk 22 (z5_b 1 10) = true := by decide +kernel
set_option maxRecDepth 100000 in
theorem z6_22_1_11 : z5_chk 22 (z5_b 1 11) = true := by decide +kernel
set_option maxRecDepth 100000 in
theorem z6_22_1_12 : z5_chk 22 (z5_b 1 12) = true := by decide +kernel
