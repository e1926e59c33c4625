/-! ===== search and differ, counted (written by wip/whole/gen/part74.py) ===== -/
set_option maxRecDepth 100000 in
theorem z6_24_2_1 : z5_chk 24 (z5_b 2 1) = true := by decide +kernel
set_option maxRecDepth 100000 in
theorem z6_24_2_2 : z5_chk 24 (z5_b 2 2) = true := by decide +kernel
set_option maxRecDepth 100000 in
theorem z6_24_2_3 : z5_chk 24 (z5_b 2 3) = true := by decide +kernel
set_option maxRecDepth 100000 in
theorem z6_24_2_4 : z5_chk 24 (z5_b 2 4) = true := by decide +kernel
set_option maxRecDepth 100000 in
theorem z6_24_2_5 : z5_chk 24 (z5_b 2 5) = true := by decide +kernel
set_option maxRecDepth 100000 in
theorem z6_24_2_6 : z5_chk 24 (z5_b 2 6) = true := by decide +kernel
