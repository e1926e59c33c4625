/-! ===== boxes of ops, counted (written by wip/whole/gen/part60.py) ===== -/
set_option maxRecDepth 100000 in
theorem z2_18 : (z1_d 18 1000 [(3, 2147483649), (0, 0), (3, 2147483652), (4, 2147483648), (0, 0), (4, 2147483654), (4, 2147483649), (3, 2147483650), (0, 0), (3, 2147483651), (0, 0), (0, 0), (3, 2147483650), (4, 2147483650), (0, 0), (4, 2147483651), (0, 0), (4, 2147483652), (0, 0), (4, 2147483653), (0, 0), (0, 0), (3, 2147483651), (4, 2147483650), (0, 0), (4, 2147483651), (0, 0), (4, 2147483652), (0, 0), (4, 2147483653), (0, 0), (0, 0), (4, 2147483650), (0, 0), (4, 2147483651), (0, 0), (4, 2147483652), (0, 0), (4, 2147483653), (0, 0), (0, 0), (0, 0), (0, 0)] [] 0).isSome = true := by decide +kernel
set_option maxRecDepth 100000 in
theorem z2_19 : (z1_d 19 1000 [(3, 2147483648), (0, 0), (3, 2147483652), (4, 2147483648), (0, 0), (4, 2147483652), (0, 0), (0, 0), (0, 0)] [] 0).isSome = true := by decide +kernel
set_option maxRecDepth 100000 in
theorem z2_20 : (z1_d 20 1000 [(5, 2147483648), (3, 2147483648), (0, 0), (0, 0), (5, 2147483649), (3, 2147483648), (0, 0), (0, 0), (3, 2147483648), (0, 0), (0, 0)] [] 0).isSome = true := by decide +kernel
set_option maxRecDepth 100000 in
theorem z2_21 : (z1_d 21 1000 [(3, 2147483648), (0, 0), (3, 2147483654), (4, 2147483648), (0, 0), (4, 2147483652), (3, 2147483651), (3, 2147483649), (0, 0), (3, 2147483650), (0, 0), (0, 0), (3, 2147483652), (0, 0), (3, 2147483653), (0, 0), (0, 0), (0, 0), (0, 0)] [] 0).isSome = true := by decide +kernel
set_option maxRecDepth 100000 in
theorem z2_23 : (z1_d 23 1000 [(3, 2147483648), (0, 0), (0, 0)] [] 0).isSome = true := by decide +kernel
set_option maxRecDepth 100000 in
theorem z2_25 : (z1_d 25 1000 [(3, 2147483648), (0, 0), (0, 0)] [] 0).isSome = true := by decide +kernel
set_option maxRecDepth 100000 in
theorem z2_26 : (z1_d 26 1000 [(0, 0)] [] 0).isSome = true := by decide +kernel
set_option maxRecDepth 100000 in
theorem z2_27 : (z1_d 27 1000 [(0, 0)] [] 0).isSome = true := by decide +kernel
set_option maxRecDepth 100000 in
theorem z2_28 : (z1_d 28 1000 [(0, 0)] [] 0).isSome = true := by decide +kernel
set_option maxRecDepth 100000 in
theorem z2_29 : (z1_d 29 1000 [(0, 0)] [] 0).isSome = true := by decide +kernel
set_option maxRecDepth 100000 in
theorem z2_30 : (z1_d 30 1000 [(0, 0)] [] 0).isSome = true := by decide +kernel
set_option maxRecDepth 100000 in
theorem z2_31 : (z1_d 31 1000 [(0, 0)] [] 0).isSome = true := by decide +kernel
