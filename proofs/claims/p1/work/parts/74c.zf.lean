/-! ===== search and differ, counted (written by wip/whole/gen/part74.py) ===== -/
set_option maxRecDepth 100000 in
theorem z6_22_1_1 : z5_chk 22 (z5_b 1 1) = true := by decide +kernel
set_option maxRecDepth 100000 in
theorem z6_22_1_2 : z5_chk 22 (z5_b 1 2) = true := by decide +kernel
set_option maxRecDepth 100000 in
theorem z6_22_1_3 : z5_chk 22 (z5_b 1 3) = true := by decide +kernel
set_option maxRecDepth 100000 in
theorem z6_22_1_4 : z5_chk 22 (z5_b 1 4) = true := by decide +kernel
set_option maxRecDepth 100000 in
theorem z6_22_1_5 : z5_chk 22 (z5_b 1 5) = true := by decide +kernel
set_option maxRecDepth 100000 in
theorem z6_22_1_6 : z5_chk 22 (z5_b 1 6) = true := by decide +kernel
