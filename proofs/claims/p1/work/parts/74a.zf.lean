/-! ===== search and differ, counted (written by wip/whole/gen/part74.py) ===== -/
set_option maxRecDepth 100000 in
theorem z6_22_0_1 : z5_chk 22 (z5_b 0 1) = true := by decide +kernel
set_option maxRecDepth 100000 in
theorem z6_22_0_2 : z5_chk 22 (z5_b 0 2) = true := by decide +kernel
set_option maxRecDepth 100000 in
theorem z6_22_0_3 : z5_chk 22 (z5_b 0 3) = true := by decide +kernel
set_option maxRecDepth 100000 in
theorem z6_22_0_4 : z5_chk 22 (z5_b 0 4) = true := by decide +kernel
set_option maxRecDepth 100000 in
theorem z6_22_0_5 : z5_chk 22 (z5_b 0 5) = true := by decide +kernel
set_option maxRecDepth 100000 in
theorem z6_22_0_6 : z5_chk 22 (z5_b 0 6) = true := by decide +kernel
