/-! ===== search and differ, counted (written by wip/whole/gen/part74.py) ===== -/
set_option maxRecDepth 100000 in
theorem z6_22_0_7 : z5_chk 22 (z5_b 0 7) = true := by decide +kernel
set_option maxRecDepth 100000 in
theorem z6_22_0_8 : z5_chk 22 (z5_b 0 8) = true := by decide +kernel
set_option maxRecDepth 100000 in
theorem z6_22_0_9 : z5_chk 22 (z5_b 0 9) = true := by decide +kernel
set_option maxRecDepth 100000 in
theorem z6_22_0_10 : z5_chk 22 (z5_b 0 10) = true := by decide +kernel
set_option maxRecDepth 100000 in
theorem z6_22_0_11 : z5_chk 22 (z5_b 0 11) = true := by decide +kernel
set_option maxRecDepth 100000 in
theorem z6_22_0_12 : z5_chk 22 (z5_b 0 12) = true := by decide +kernel
