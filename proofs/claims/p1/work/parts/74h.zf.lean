/-! ===== search and differ, counted (written by wip/whole/gen/part74.py) ===== -/
set_option maxRecDepth 100000 in
theorem z6_24_3_1 : z5_chk 24 (z5_b 3 1) = true := by decide +kernel
set_option maxRecDepth 100000 in
theorem z6_24_3_2 : z5_chk 24 (z5_b 3 2) = true := by decide +kernel
set_option maxRecDepth 100000 in
theorem z6_24_3_3 : z5_chk 24 (z5_b 3 3) = true := by decide +kernel
set_option maxRecDepth 100000 in
theorem z6_24_3_4 : z5_chk 24 (z5_b 3 4) = true := by decide +kernel
