/-! ===== the methods' codes are words of the tables (written by wip/whole/gen/facts.py) ===== -/
theorem pc_in1 : ∀ z ∈ tables_1_1, z ∈ pt_tbl := fun z h => List.mem_append_left _ (List.mem_append_right _ (by unfold tables_1; simp only [List.mem_append]; simp only [h, true_or, or_true]))
theorem pc_in2 : ∀ z ∈ tables_1_2, z ∈ pt_tbl := fun z h => List.mem_append_left _ (List.mem_append_right _ (by unfold tables_1; simp only [List.mem_append]; simp only [h, true_or, or_true]))
theorem pc_in3 : ∀ z ∈ tables_1_3, z ∈ pt_tbl := fun z h => List.mem_append_left _ (List.mem_append_right _ (by unfold tables_1; simp only [List.mem_append]; simp only [h, true_or, or_true]))
theorem pc_in4 : ∀ z ∈ tables_1_4, z ∈ pt_tbl := fun z h => List.mem_append_left _ (List.mem_append_right _ (by unfold tables_1; simp only [List.mem_append]; simp only [h, true_or, or_true]))
theorem pc_in5 : ∀ z ∈ tables_1_5, z ∈ pt_tbl := fun z h => List.mem_append_left _ (List.mem_append_right _ (by unfold tables_1; simp only [List.mem_append]; simp only [h, true_or, or_true]))
theorem pc_in6 : ∀ z ∈ tables_1_6, z ∈ pt_tbl := fun z h => List.mem_append_left _ (List.mem_append_right _ (by unfold tables_1; simp only [List.mem_append]; simp only [h, true_or, or_true]))
theorem pc_in7 : ∀ z ∈ tables_1_7, z ∈ pt_tbl := fun z h => List.mem_append_left _ (List.mem_append_right _ (by unfold tables_1; simp only [List.mem_append]; simp only [h, true_or, or_true]))
theorem pc_in8 : ∀ z ∈ tables_1_8, z ∈ pt_tbl := fun z h => List.mem_append_left _ (List.mem_append_right _ (by unfold tables_1; simp only [List.mem_append]; simp only [h, true_or, or_true]))
theorem pc_in9 : ∀ z ∈ tables_1_9, z ∈ pt_tbl := fun z h => List.mem_append_left _ (List.mem_append_right _ (by unfold tables_1; simp only [List.mem_append]; simp only [h, true_or, or_true]))
theorem pc_in10 : ∀ z ∈ tables_1_10, z ∈ pt_tbl := fun z h => List.mem_append_left _ (List.mem_append_right _ (by unfold tables_1; simp only [List.mem_append]; simp only [h, true_or, or_true]))
theorem pc_in11 : ∀ z ∈ tables_1_11, z ∈ pt_tbl := fun z h => List.mem_append_left _ (List.mem_append_right _ (by unfold tables_1; simp only [List.mem_append]; simp only [h, true_or, or_true]))
theorem pc_in12 : ∀ z ∈ tables_1_12, z ∈ pt_tbl := fun z h => List.mem_append_left _ (List.mem_append_right _ (by unfold tables_1; simp only [List.mem_append]; simp only [h, true_or, or_true]))
theorem pc_in13 : ∀ z ∈ tables_1_13, z ∈ pt_tbl := fun z h => List.mem_append_left _ (List.mem_append_right _ (by unfold tables_1; simp only [List.mem_append]; simp only [h, true_or, or_true]))
theorem pc_0 : pz_cw (pt_my 0) code 7 (some .boolean) (pt_HH 0) ∈ pt_U := List.mem_filter.mpr ⟨List.mem_append_right _ List.mem_cons_self, rfl⟩
set_option maxRecDepth 100000 in
theorem pc_1 : pz_cw (pt_my 1) prog_1_method_1_code 1 none (pt_HH 1) ∈ pt_U := List.mem_filter.mpr ⟨pc_in1 _ (List.mem_of_getElem? (i := 39) rfl), rfl⟩
set_option maxRecDepth 100000 in
theorem pc_2 : pz_cw (pt_my 2) prog_11_method_1_code 1 none (pt_HH 2) ∈ pt_U := List.mem_filter.mpr ⟨pc_in1 _ (List.mem_of_getElem? (i := 47) rfl), rfl⟩
set_option maxRecDepth 100000 in
theorem pc_3 : pz_cw (pt_my 3) prog_8_method_1_code 2 none (pt_HH 3) ∈ pt_U := List.mem_filter.mpr ⟨pc_in1 _ (List.mem_of_getElem? (i := 86) rfl), rfl⟩
set_option maxRecDepth 100000 in
theorem pc_4 : pz_cw (pt_my 4) prog_9_method_1_code 2 none (pt_HH 4) ∈ pt_U := List.mem_filter.mpr ⟨pc_in1 _ (List.mem_of_getElem? (i := 96) rfl), rfl⟩
set_option maxRecDepth 100000 in
theorem pc_5 : pz_cw (pt_my 5) prog_12_method_1_code 1 none (pt_HH 5) ∈ pt_U := List.mem_filter.mpr ⟨pc_in1 _ (List.mem_of_getElem? (i := 102) rfl), rfl⟩
set_option maxRecDepth 100000 in
theorem pc_6 : pz_cw (pt_my 6) prog_4_method_1_code 2 none (pt_HH 6) ∈ pt_U := List.mem_filter.mpr ⟨pc_in1 _ (List.mem_of_getElem? (i := 180) rfl), rfl⟩
set_option maxRecDepth 100000 in
theorem pc_7 : pz_cw (pt_my 7) prog_6_method_1_code 2 none (pt_HH 7) ∈ pt_U := List.mem_filter.mpr ⟨pc_in1 _ (List.mem_of_getElem? (i := 202) rfl), rfl⟩
set_option maxRecDepth 100000 in
theorem pc_8 : pz_cw (pt_my 8) prog_7_method_1_code 2 none (pt_HH 8) ∈ pt_U := List.mem_filter.mpr ⟨pc_in1 _ (List.mem_of_getElem? (i := 213) rfl), rfl⟩
set_option maxRecDepth 100000 in
theorem pc_9 : pz_cw (pt_my 9) prog_10_method_1_code 1 none (pt_HH 9) ∈ pt_U := List.mem_filter.mpr ⟨pc_in1 _ (List.mem_of_getElem? (i := 222) rfl), rfl⟩
set_option maxRecDepth 100000 in
theorem pc_10 : pz_cw (pt_my 10) prog_2_method_1_code 1 none (pt_HH 10) ∈ pt_U := List.mem_filter.mpr ⟨pc_in2 _ (List.mem_of_getElem? (i := 8) rfl), rfl⟩
set_option maxRecDepth 100000 in
theorem pc_11 : pz_cw (pt_my 11) prog_3_method_1_code 1 none (pt_HH 11) ∈ pt_U := List.mem_filter.mpr ⟨pc_in2 _ (List.mem_of_getElem? (i := 79) rfl), rfl⟩
set_option maxRecDepth 100000 in
theorem pc_12 : pz_cw (pt_my 12) prog_26_method_1_code 1 none (pt_HH 12) ∈ pt_U := List.mem_filter.mpr ⟨pc_in2 _ (List.mem_of_getElem? (i := 85) rfl), rfl⟩
set_option maxRecDepth 100000 in
theorem pc_13 : pz_cw (pt_my 13) prog_15_method_2_code 2 none (pt_HH 13) ∈ pt_U := List.mem_filter.mpr ⟨pc_in2 _ (List.mem_of_getElem? (i := 88) rfl), rfl⟩
set_option maxRecDepth 100000 in
theorem pc_14 : pz_cw (pt_my 14) prog_29_method_2_code 1 (some (.array .byte)) (pt_HH 14) ∈ pt_U := List.mem_filter.mpr ⟨pc_in2 _ (List.mem_of_getElem? (i := 94) rfl), rfl⟩
set_option maxRecDepth 100000 in
theorem pc_15 : pz_cw (pt_my 15) prog_29_method_3_code 1 (some .int) (pt_HH 15) ∈ pt_U := List.mem_filter.mpr ⟨pc_in2 _ (List.mem_of_getElem? (i := 97) rfl), rfl⟩
set_option maxRecDepth 100000 in
theorem pc_16 : pz_cw (pt_my 16) prog_33_method_103_code 4 none (pt_HH 16) ∈ pt_U := List.mem_filter.mpr ⟨pc_in2 _ (List.mem_of_getElem? (i := 116) rfl), rfl⟩
set_option maxRecDepth 100000 in
theorem pc_17 : pz_cw (pt_my 17) prog_5_method_1_code 1 none (pt_HH 17) ∈ pt_U := List.mem_filter.mpr ⟨pc_in2 _ (List.mem_of_getElem? (i := 155) rfl), rfl⟩
set_option maxRecDepth 100000 in
theorem pc_18 : pz_cw (pt_my 18) prog_1_method_6_code 1 none (pt_HH 18) ∈ pt_U := List.mem_filter.mpr ⟨pc_in3 _ (List.mem_of_getElem? (i := 7) rfl), rfl⟩
set_option maxRecDepth 100000 in
theorem pc_19 : pz_cw (pt_my 19) prog_1_method_38_code 2 none (pt_HH 19) ∈ pt_U := List.mem_filter.mpr ⟨pc_in3 _ (List.mem_of_getElem? (i := 11) rfl), rfl⟩
set_option maxRecDepth 100000 in
theorem pc_20 : pz_cw (pt_my 20) prog_1_method_16_code 2 (some .int) (pt_HH 20) ∈ pt_U := List.mem_filter.mpr ⟨pc_in3 _ (List.mem_of_getElem? (i := 15) rfl), rfl⟩
set_option maxRecDepth 100000 in
theorem pc_21 : pz_cw (pt_my 21) prog_4_method_2_code 5 (some .int) (pt_HH 21) ∈ pt_U := List.mem_filter.mpr ⟨pc_in3 _ (List.mem_of_getElem? (i := 19) rfl), rfl⟩
set_option maxRecDepth 100000 in
theorem pc_22 : pz_cw (pt_my 22) prog_4_method_3_code 3 none (pt_HH 22) ∈ pt_U := List.mem_filter.mpr ⟨pc_in3 _ (List.mem_of_getElem? (i := 23) rfl), rfl⟩
set_option maxRecDepth 100000 in
theorem pc_23 : pz_cw (pt_my 23) prog_11_method_11_code 1 none (pt_HH 23) ∈ pt_U := List.mem_filter.mpr ⟨pc_in3 _ (List.mem_of_getElem? (i := 27) rfl), rfl⟩
set_option maxRecDepth 100000 in
theorem pc_24 : pz_cw (pt_my 24) prog_11_method_2_code 1 (some .int) (pt_HH 24) ∈ pt_U := List.mem_filter.mpr ⟨pc_in3 _ (List.mem_of_getElem? (i := 31) rfl), rfl⟩
set_option maxRecDepth 100000 in
theorem pc_25 : pz_cw (pt_my 25) prog_4_method_4_code 2 (some .int) (pt_HH 25) ∈ pt_U := List.mem_filter.mpr ⟨pc_in3 _ (List.mem_of_getElem? (i := 35) rfl), rfl⟩
set_option maxRecDepth 100000 in
theorem pc_26 : pz_cw (pt_my 26) prog_11_method_5_code 2 (some .int) (pt_HH 26) ∈ pt_U := List.mem_filter.mpr ⟨pc_in3 _ (List.mem_of_getElem? (i := 39) rfl), rfl⟩
set_option maxRecDepth 100000 in
theorem pc_27 : pz_cw (pt_my 27) prog_11_method_12_code 4 (some .int) (pt_HH 27) ∈ pt_U := List.mem_filter.mpr ⟨pc_in3 _ (List.mem_of_getElem? (i := 43) rfl), rfl⟩
set_option maxRecDepth 100000 in
theorem pc_28 : pz_cw (pt_my 28) prog_11_method_13_code 6 (some .int) (pt_HH 28) ∈ pt_U := List.mem_filter.mpr ⟨pc_in3 _ (List.mem_of_getElem? (i := 47) rfl), rfl⟩
set_option maxRecDepth 100000 in
theorem pc_29 : pz_cw (pt_my 29) prog_11_method_7_code 2 (some .boolean) (pt_HH 29) ∈ pt_U := List.mem_filter.mpr ⟨pc_in3 _ (List.mem_of_getElem? (i := 51) rfl), rfl⟩
set_option maxRecDepth 100000 in
theorem pc_30 : pz_cw (pt_my 30) prog_4_method_5_code 3 (some .int) (pt_HH 30) ∈ pt_U := List.mem_filter.mpr ⟨pc_in3 _ (List.mem_of_getElem? (i := 56) rfl), rfl⟩
set_option maxRecDepth 100000 in
theorem pc_31 : pz_cw (pt_my 31) prog_11_method_9_code 3 (some .int) (pt_HH 31) ∈ pt_U := List.mem_filter.mpr ⟨pc_in3 _ (List.mem_of_getElem? (i := 60) rfl), rfl⟩
set_option maxRecDepth 100000 in
theorem pc_32 : pz_cw (pt_my 32) prog_11_method_15_code 2 (some .int) (pt_HH 32) ∈ pt_U := List.mem_filter.mpr ⟨pc_in3 _ (List.mem_of_getElem? (i := 65) rfl), rfl⟩
set_option maxRecDepth 100000 in
theorem pc_33 : pz_cw (pt_my 33) prog_11_method_10_code 4 (some .boolean) (pt_HH 33) ∈ pt_U := List.mem_filter.mpr ⟨pc_in3 _ (List.mem_of_getElem? (i := 70) rfl), rfl⟩
set_option maxRecDepth 100000 in
theorem pc_34 : pz_cw (pt_my 34) prog_25_method_54_code 1 (some .int) (pt_HH 34) ∈ pt_U := List.mem_filter.mpr ⟨pc_in3 _ (List.mem_of_getElem? (i := 74) rfl), rfl⟩
set_option maxRecDepth 100000 in
theorem pc_35 : pz_cw (pt_my 35) prog_25_method_152_code 1 (some .byte) (pt_HH 35) ∈ pt_U := List.mem_filter.mpr ⟨pc_in3 _ (List.mem_of_getElem? (i := 78) rfl), rfl⟩
set_option maxRecDepth 100000 in
theorem pc_36 : pz_cw (pt_my 36) prog_11_method_8_code 4 (some .boolean) (pt_HH 36) ∈ pt_U := List.mem_filter.mpr ⟨pc_in3 _ (List.mem_of_getElem? (i := 83) rfl), rfl⟩
set_option maxRecDepth 100000 in
theorem pc_37 : pz_cw (pt_my 37) prog_25_method_56_code 2 (some .char) (pt_HH 37) ∈ pt_U := List.mem_filter.mpr ⟨pc_in3 _ (List.mem_of_getElem? (i := 87) rfl), rfl⟩
set_option maxRecDepth 100000 in
theorem pc_38 : pz_cw (pt_my 38) prog_25_method_154_code 1 (some .boolean) (pt_HH 38) ∈ pt_U := List.mem_filter.mpr ⟨pc_in3 _ (List.mem_of_getElem? (i := 91) rfl), rfl⟩
set_option maxRecDepth 100000 in
theorem pc_39 : pz_cw (pt_my 39) prog_28_method_2_code 2 (some .char) (pt_HH 39) ∈ pt_U := List.mem_filter.mpr ⟨pc_in3 _ (List.mem_of_getElem? (i := 94) rfl), rfl⟩
set_option maxRecDepth 100000 in
theorem pc_40 : pz_cw (pt_my 40) prog_25_method_155_code 2 none (pt_HH 40) ∈ pt_U := List.mem_filter.mpr ⟨pc_in3 _ (List.mem_of_getElem? (i := 97) rfl), rfl⟩
set_option maxRecDepth 100000 in
theorem pc_41 : pz_cw (pt_my 41) prog_36_method_11_code 3 (some .int) (pt_HH 41) ∈ pt_U := List.mem_filter.mpr ⟨pc_in3 _ (List.mem_of_getElem? (i := 102) rfl), rfl⟩
set_option maxRecDepth 100000 in
theorem pc_42 : pz_cw (pt_my 42) prog_29_method_83_code 2 (some .char) (pt_HH 42) ∈ pt_U := List.mem_filter.mpr ⟨pc_in3 _ (List.mem_of_getElem? (i := 105) rfl), rfl⟩
set_option maxRecDepth 100000 in
theorem pc_43 : pz_cw (pt_my 43) prog_29_method_91_code 2 none (pt_HH 43) ∈ pt_U := List.mem_filter.mpr ⟨pc_in3 _ (List.mem_of_getElem? (i := 108) rfl), rfl⟩
set_option maxRecDepth 100000 in
theorem pc_44 : pz_cw (pt_my 44) prog_29_method_6_code 1 (some .int) (pt_HH 44) ∈ pt_U := List.mem_filter.mpr ⟨pc_in3 _ (List.mem_of_getElem? (i := 111) rfl), rfl⟩
set_option maxRecDepth 100000 in
theorem pc_45 : pz_cw (pt_my 45) prog_29_method_5_code 2 (some .char) (pt_HH 45) ∈ pt_U := List.mem_filter.mpr ⟨pc_in3 _ (List.mem_of_getElem? (i := 115) rfl), rfl⟩
set_option maxRecDepth 100000 in
theorem pc_46 : pz_cw (pt_my 46) prog_11_method_14_code 7 (some .int) (pt_HH 46) ∈ pt_U := List.mem_filter.mpr ⟨pc_in3 _ (List.mem_of_getElem? (i := 129) rfl), rfl⟩
set_option maxRecDepth 100000 in
theorem pc_47 : pz_cw (pt_my 47) prog_11_method_16_code 1 none (pt_HH 47) ∈ pt_U := List.mem_filter.mpr ⟨pc_in3 _ (List.mem_of_getElem? (i := 134) rfl), rfl⟩
set_option maxRecDepth 100000 in
theorem pc_48 : pz_cw (pt_my 48) prog_4_method_6_code 2 (some .int) (pt_HH 48) ∈ pt_U := List.mem_filter.mpr ⟨pc_in3 _ (List.mem_of_getElem? (i := 138) rfl), rfl⟩
set_option maxRecDepth 100000 in
theorem pc_49 : pz_cw (pt_my 49) prog_11_method_23_code 2 none (pt_HH 49) ∈ pt_U := List.mem_filter.mpr ⟨pc_in3 _ (List.mem_of_getElem? (i := 142) rfl), rfl⟩
set_option maxRecDepth 100000 in
theorem pc_50 : pz_cw (pt_my 50) prog_11_method_17_code 1 (some .int) (pt_HH 50) ∈ pt_U := List.mem_filter.mpr ⟨pc_in3 _ (List.mem_of_getElem? (i := 146) rfl), rfl⟩
set_option maxRecDepth 100000 in
theorem pc_51 : pz_cw (pt_my 51) prog_11_method_22_code 1 none (pt_HH 51) ∈ pt_U := List.mem_filter.mpr ⟨pc_in3 _ (List.mem_of_getElem? (i := 150) rfl), rfl⟩
set_option maxRecDepth 100000 in
theorem pc_52 : pz_cw (pt_my 52) prog_11_method_24_code 1 none (pt_HH 52) ∈ pt_U := List.mem_filter.mpr ⟨pc_in3 _ (List.mem_of_getElem? (i := 154) rfl), rfl⟩
set_option maxRecDepth 100000 in
theorem pc_53 : pz_cw (pt_my 53) prog_4_method_9_code 3 (some .long) (pt_HH 53) ∈ pt_U := List.mem_filter.mpr ⟨pc_in3 _ (List.mem_of_getElem? (i := 158) rfl), rfl⟩
set_option maxRecDepth 100000 in
theorem pc_54 : pz_cw (pt_my 54) prog_11_method_21_code 1 (some .long) (pt_HH 54) ∈ pt_U := List.mem_filter.mpr ⟨pc_in3 _ (List.mem_of_getElem? (i := 162) rfl), rfl⟩
set_option maxRecDepth 100000 in
theorem pc_55 : pz_cw (pt_my 55) prog_4_method_8_code 4 (some .int) (pt_HH 55) ∈ pt_U := List.mem_filter.mpr ⟨pc_in3 _ (List.mem_of_getElem? (i := 166) rfl), rfl⟩
set_option maxRecDepth 100000 in
theorem pc_56 : pz_cw (pt_my 56) prog_4_method_10_code 4 none (pt_HH 56) ∈ pt_U := List.mem_filter.mpr ⟨pc_in3 _ (List.mem_of_getElem? (i := 171) rfl), rfl⟩
set_option maxRecDepth 100000 in
theorem pc_57 : pz_cw (pt_my 57) prog_4_method_7_code 2 (some .int) (pt_HH 57) ∈ pt_U := List.mem_filter.mpr ⟨pc_in3 _ (List.mem_of_getElem? (i := 176) rfl), rfl⟩
set_option maxRecDepth 100000 in
theorem pc_58 : pz_cw (pt_my 58) prog_3_method_2_code 4 none (pt_HH 58) ∈ pt_U := List.mem_filter.mpr ⟨pc_in3 _ (List.mem_of_getElem? (i := 181) rfl), rfl⟩
set_option maxRecDepth 100000 in
theorem pc_59 : pz_cw (pt_my 59) prog_3_method_6_code 2 (some .int) (pt_HH 59) ∈ pt_U := List.mem_filter.mpr ⟨pc_in3 _ (List.mem_of_getElem? (i := 185) rfl), rfl⟩
set_option maxRecDepth 100000 in
theorem pc_60 : pz_cw (pt_my 60) prog_3_method_12_code 3 none (pt_HH 60) ∈ pt_U := List.mem_filter.mpr ⟨pc_in3 _ (List.mem_of_getElem? (i := 189) rfl), rfl⟩
set_option maxRecDepth 100000 in
theorem pc_61 : pz_cw (pt_my 61) prog_11_method_26_code 1 (some .boolean) (pt_HH 61) ∈ pt_U := List.mem_filter.mpr ⟨pc_in3 _ (List.mem_of_getElem? (i := 193) rfl), rfl⟩
set_option maxRecDepth 100000 in
theorem pc_62 : pz_cw (pt_my 62) prog_4_method_11_code 1 (some .boolean) (pt_HH 62) ∈ pt_U := List.mem_filter.mpr ⟨pc_in3 _ (List.mem_of_getElem? (i := 196) rfl), rfl⟩
set_option maxRecDepth 100000 in
theorem pc_63 : pz_cw (pt_my 63) prog_4_method_12_code 10 none (pt_HH 63) ∈ pt_U := List.mem_filter.mpr ⟨pc_in3 _ (List.mem_of_getElem? (i := 200) rfl), rfl⟩
set_option maxRecDepth 100000 in
theorem pc_64 : pz_cw (pt_my 64) prog_4_method_13_code 8 (some .int) (pt_HH 64) ∈ pt_U := List.mem_filter.mpr ⟨pc_in3 _ (List.mem_of_getElem? (i := 205) rfl), rfl⟩
set_option maxRecDepth 100000 in
theorem pc_65 : pz_cw (pt_my 65) prog_4_method_14_code 7 (some .int) (pt_HH 65) ∈ pt_U := List.mem_filter.mpr ⟨pc_in3 _ (List.mem_of_getElem? (i := 209) rfl), rfl⟩
set_option maxRecDepth 100000 in
theorem pc_66 : pz_cw (pt_my 66) prog_4_method_15_code 6 (some .int) (pt_HH 66) ∈ pt_U := List.mem_filter.mpr ⟨pc_in3 _ (List.mem_of_getElem? (i := 213) rfl), rfl⟩
set_option maxRecDepth 100000 in
theorem pc_67 : pz_cw (pt_my 67) prog_11_method_18_code 1 (some .int) (pt_HH 67) ∈ pt_U := List.mem_filter.mpr ⟨pc_in3 _ (List.mem_of_getElem? (i := 217) rfl), rfl⟩
set_option maxRecDepth 100000 in
theorem pc_68 : pz_cw (pt_my 68) prog_4_method_16_code 4 (some .boolean) (pt_HH 68) ∈ pt_U := List.mem_filter.mpr ⟨pc_in3 _ (List.mem_of_getElem? (i := 221) rfl), rfl⟩
set_option maxRecDepth 100000 in
theorem pc_69 : pz_cw (pt_my 69) prog_3_method_5_code 1 (some .int) (pt_HH 69) ∈ pt_U := List.mem_filter.mpr ⟨pc_in3 _ (List.mem_of_getElem? (i := 225) rfl), rfl⟩
set_option maxRecDepth 100000 in
theorem pc_70 : pz_cw (pt_my 70) prog_11_method_25_code 2 none (pt_HH 70) ∈ pt_U := List.mem_filter.mpr ⟨pc_in3 _ (List.mem_of_getElem? (i := 229) rfl), rfl⟩
set_option maxRecDepth 100000 in
theorem pc_71 : pz_cw (pt_my 71) prog_3_method_10_code 4 (some .int) (pt_HH 71) ∈ pt_U := List.mem_filter.mpr ⟨pc_in3 _ (List.mem_of_getElem? (i := 233) rfl), rfl⟩
set_option maxRecDepth 100000 in
theorem pc_72 : pz_cw (pt_my 72) prog_3_method_7_code 2 (some .int) (pt_HH 72) ∈ pt_U := List.mem_filter.mpr ⟨pc_in4 _ (List.mem_of_getElem? (i := 0) rfl), rfl⟩
set_option maxRecDepth 100000 in
theorem pc_73 : pz_cw (pt_my 73) prog_4_method_17_code 5 (some .int) (pt_HH 73) ∈ pt_U := List.mem_filter.mpr ⟨pc_in4 _ (List.mem_of_getElem? (i := 4) rfl), rfl⟩
set_option maxRecDepth 100000 in
theorem pc_74 : pz_cw (pt_my 74) prog_4_method_18_code 7 (some .int) (pt_HH 74) ∈ pt_U := List.mem_filter.mpr ⟨pc_in4 _ (List.mem_of_getElem? (i := 8) rfl), rfl⟩
set_option maxRecDepth 100000 in
theorem pc_75 : pz_cw (pt_my 75) prog_3_method_11_code 3 none (pt_HH 75) ∈ pt_U := List.mem_filter.mpr ⟨pc_in4 _ (List.mem_of_getElem? (i := 12) rfl), rfl⟩
set_option maxRecDepth 100000 in
theorem pc_76 : pz_cw (pt_my 76) prog_3_method_13_code 3 none (pt_HH 76) ∈ pt_U := List.mem_filter.mpr ⟨pc_in4 _ (List.mem_of_getElem? (i := 16) rfl), rfl⟩
set_option maxRecDepth 100000 in
theorem pc_77 : pz_cw (pt_my 77) prog_11_method_27_code 1 (some .int) (pt_HH 77) ∈ pt_U := List.mem_filter.mpr ⟨pc_in4 _ (List.mem_of_getElem? (i := 20) rfl), rfl⟩
set_option maxRecDepth 100000 in
theorem pc_78 : pz_cw (pt_my 78) prog_1_method_37_code 3 none (pt_HH 78) ∈ pt_U := List.mem_filter.mpr ⟨pc_in4 _ (List.mem_of_getElem? (i := 24) rfl), rfl⟩
set_option maxRecDepth 100000 in
theorem pc_79 : pz_cw (pt_my 79) prog_11_method_4_code 2 none (pt_HH 79) ∈ pt_U := List.mem_filter.mpr ⟨pc_in4 _ (List.mem_of_getElem? (i := 28) rfl), rfl⟩
set_option maxRecDepth 100000 in
theorem pc_80 : pz_cw (pt_my 80) prog_5_method_2_code 1 none (pt_HH 80) ∈ pt_U := List.mem_filter.mpr ⟨pc_in4 _ (List.mem_of_getElem? (i := 32) rfl), rfl⟩
set_option maxRecDepth 100000 in
theorem pc_81 : pz_cw (pt_my 81) prog_1_method_17_code 2 (some .int) (pt_HH 81) ∈ pt_U := List.mem_filter.mpr ⟨pc_in4 _ (List.mem_of_getElem? (i := 36) rfl), rfl⟩
set_option maxRecDepth 100000 in
theorem pc_82 : pz_cw (pt_my 82) prog_6_method_2_code 6 (some .int) (pt_HH 82) ∈ pt_U := List.mem_filter.mpr ⟨pc_in4 _ (List.mem_of_getElem? (i := 40) rfl), rfl⟩
set_option maxRecDepth 100000 in
theorem pc_83 : pz_cw (pt_my 83) prog_6_method_4_code 3 none (pt_HH 83) ∈ pt_U := List.mem_filter.mpr ⟨pc_in4 _ (List.mem_of_getElem? (i := 44) rfl), rfl⟩
set_option maxRecDepth 100000 in
theorem pc_84 : pz_cw (pt_my 84) prog_6_method_5_code 4 (some .int) (pt_HH 84) ∈ pt_U := List.mem_filter.mpr ⟨pc_in4 _ (List.mem_of_getElem? (i := 54) rfl), rfl⟩
set_option maxRecDepth 100000 in
theorem pc_85 : pz_cw (pt_my 85) prog_11_method_6_code 2 (some .boolean) (pt_HH 85) ∈ pt_U := List.mem_filter.mpr ⟨pc_in4 _ (List.mem_of_getElem? (i := 58) rfl), rfl⟩
set_option maxRecDepth 100000 in
theorem pc_86 : pz_cw (pt_my 86) prog_6_method_6_code 4 (some .int) (pt_HH 86) ∈ pt_U := List.mem_filter.mpr ⟨pc_in4 _ (List.mem_of_getElem? (i := 66) rfl), rfl⟩
set_option maxRecDepth 100000 in
theorem pc_87 : pz_cw (pt_my 87) prog_11_method_19_code 1 (some .int) (pt_HH 87) ∈ pt_U := List.mem_filter.mpr ⟨pc_in4 _ (List.mem_of_getElem? (i := 70) rfl), rfl⟩
set_option maxRecDepth 100000 in
theorem pc_88 : pz_cw (pt_my 88) prog_6_method_3_code 9 none (pt_HH 88) ∈ pt_U := List.mem_filter.mpr ⟨pc_in4 _ (List.mem_of_getElem? (i := 77) rfl), rfl⟩
set_option maxRecDepth 100000 in
theorem pc_89 : pz_cw (pt_my 89) method_3_code 4 (some .int) (pt_HH 89) ∈ pt_U := List.mem_filter.mpr ⟨pc_in4 _ (List.mem_of_getElem? (i := 87) rfl), rfl⟩
set_option maxRecDepth 100000 in
theorem pc_90 : pz_cw (pt_my 90) prog_1_method_2_code 5 (some .int) (pt_HH 90) ∈ pt_U := List.mem_filter.mpr ⟨pc_in4 _ (List.mem_of_getElem? (i := 93) rfl), rfl⟩
set_option maxRecDepth 100000 in
theorem pc_91 : pz_cw (pt_my 91) prog_31_method_1_code 1 none (pt_HH 91) ∈ pt_U := List.mem_filter.mpr ⟨pc_in4 _ (List.mem_of_getElem? (i := 118) rfl), rfl⟩
set_option maxRecDepth 100000 in
theorem pc_92 : pz_cw (pt_my 92) prog_19_method_1_code 1 none (pt_HH 92) ∈ pt_U := List.mem_filter.mpr ⟨pc_in4 _ (List.mem_of_getElem? (i := 141) rfl), rfl⟩
set_option maxRecDepth 100000 in
theorem pc_93 : pz_cw (pt_my 93) prog_24_method_1_code 1 none (pt_HH 93) ∈ pt_U := List.mem_filter.mpr ⟨pc_in4 _ (List.mem_of_getElem? (i := 144) rfl), rfl⟩
set_option maxRecDepth 100000 in
theorem pc_94 : pz_cw (pt_my 94) prog_18_method_1_code 1 none (pt_HH 94) ∈ pt_U := List.mem_filter.mpr ⟨pc_in4 _ (List.mem_of_getElem? (i := 147) rfl), rfl⟩
set_option maxRecDepth 100000 in
theorem pc_95 : pz_cw (pt_my 95) prog_32_method_1_code 1 none (pt_HH 95) ∈ pt_U := List.mem_filter.mpr ⟨pc_in4 _ (List.mem_of_getElem? (i := 174) rfl), rfl⟩
set_option maxRecDepth 100000 in
theorem pc_96 : pz_cw (pt_my 96) prog_11_method_3_code 2 none (pt_HH 96) ∈ pt_U := List.mem_filter.mpr ⟨pc_in4 _ (List.mem_of_getElem? (i := 181) rfl), rfl⟩
set_option maxRecDepth 100000 in
theorem pc_97 : pz_cw (pt_my 97) method_4_code 3 (some .int) (pt_HH 97) ∈ pt_U := List.mem_filter.mpr ⟨pc_in4 _ (List.mem_of_getElem? (i := 184) rfl), rfl⟩
set_option maxRecDepth 100000 in
theorem pc_98 : pz_cw (pt_my 98) prog_1_method_3_code 2 none (pt_HH 98) ∈ pt_U := List.mem_filter.mpr ⟨pc_in4 _ (List.mem_of_getElem? (i := 188) rfl), rfl⟩
set_option maxRecDepth 100000 in
theorem pc_99 : pz_cw (pt_my 99) method_5_code 4 (some .int) (pt_HH 99) ∈ pt_U := List.mem_filter.mpr ⟨pc_in4 _ (List.mem_of_getElem? (i := 191) rfl), rfl⟩
set_option maxRecDepth 100000 in
theorem pc_100 : pz_cw (pt_my 100) prog_1_method_4_code 4 (some .int) (pt_HH 100) ∈ pt_U := List.mem_filter.mpr ⟨pc_in4 _ (List.mem_of_getElem? (i := 196) rfl), rfl⟩
set_option maxRecDepth 100000 in
theorem pc_101 : pz_cw (pt_my 101) prog_1_method_29_code 1 none (pt_HH 101) ∈ pt_U := List.mem_filter.mpr ⟨pc_in4 _ (List.mem_of_getElem? (i := 199) rfl), rfl⟩
set_option maxRecDepth 100000 in
theorem pc_102 : pz_cw (pt_my 102) prog_21_method_1_code 1 none (pt_HH 102) ∈ pt_U := List.mem_filter.mpr ⟨pc_in4 _ (List.mem_of_getElem? (i := 211) rfl), rfl⟩
set_option maxRecDepth 100000 in
theorem pc_103 : pz_cw (pt_my 103) prog_8_method_2_code 3 none (pt_HH 103) ∈ pt_U := List.mem_filter.mpr ⟨pc_in4 _ (List.mem_of_getElem? (i := 218) rfl), rfl⟩
set_option maxRecDepth 100000 in
theorem pc_104 : pz_cw (pt_my 104) prog_8_method_3_code 2 (some .int) (pt_HH 104) ∈ pt_U := List.mem_filter.mpr ⟨pc_in4 _ (List.mem_of_getElem? (i := 224) rfl), rfl⟩
set_option maxRecDepth 100000 in
theorem pc_105 : pz_cw (pt_my 105) prog_8_method_7_code 2 (some .int) (pt_HH 105) ∈ pt_U := List.mem_filter.mpr ⟨pc_in4 _ (List.mem_of_getElem? (i := 229) rfl), rfl⟩
set_option maxRecDepth 100000 in
theorem pc_106 : pz_cw (pt_my 106) prog_8_method_9_code 4 (some .int) (pt_HH 106) ∈ pt_U := List.mem_filter.mpr ⟨pc_in4 _ (List.mem_of_getElem? (i := 239) rfl), rfl⟩
set_option maxRecDepth 100000 in
theorem pc_107 : pz_cw (pt_my 107) prog_8_method_8_code 5 (some .int) (pt_HH 107) ∈ pt_U := List.mem_filter.mpr ⟨pc_in5 _ (List.mem_of_getElem? (i := 6) rfl), rfl⟩
set_option maxRecDepth 100000 in
theorem pc_108 : pz_cw (pt_my 108) prog_8_method_4_code 2 (some .int) (pt_HH 108) ∈ pt_U := List.mem_filter.mpr ⟨pc_in5 _ (List.mem_of_getElem? (i := 12) rfl), rfl⟩
set_option maxRecDepth 100000 in
theorem pc_109 : pz_cw (pt_my 109) prog_8_method_5_code 5 (some .int) (pt_HH 109) ∈ pt_U := List.mem_filter.mpr ⟨pc_in5 _ (List.mem_of_getElem? (i := 22) rfl), rfl⟩
set_option maxRecDepth 100000 in
theorem pc_110 : pz_cw (pt_my 110) prog_8_method_6_code 3 (some .int) (pt_HH 110) ∈ pt_U := List.mem_filter.mpr ⟨pc_in5 _ (List.mem_of_getElem? (i := 27) rfl), rfl⟩
set_option maxRecDepth 100000 in
theorem pc_111 : pz_cw (pt_my 111) prog_9_method_2_code 3 (some .int) (pt_HH 111) ∈ pt_U := List.mem_filter.mpr ⟨pc_in5 _ (List.mem_of_getElem? (i := 39) rfl), rfl⟩
set_option maxRecDepth 100000 in
theorem pc_112 : pz_cw (pt_my 112) prog_7_method_2_code 2 none (pt_HH 112) ∈ pt_U := List.mem_filter.mpr ⟨pc_in5 _ (List.mem_of_getElem? (i := 43) rfl), rfl⟩
set_option maxRecDepth 100000 in
theorem pc_113 : pz_cw (pt_my 113) prog_2_method_2_code 1 none (pt_HH 113) ∈ pt_U := List.mem_filter.mpr ⟨pc_in5 _ (List.mem_of_getElem? (i := 47) rfl), rfl⟩
set_option maxRecDepth 100000 in
theorem pc_114 : pz_cw (pt_my 114) prog_9_method_3_code 2 none (pt_HH 114) ∈ pt_U := List.mem_filter.mpr ⟨pc_in5 _ (List.mem_of_getElem? (i := 52) rfl), rfl⟩
set_option maxRecDepth 100000 in
theorem pc_115 : pz_cw (pt_my 115) prog_7_method_3_code 3 (some .int) (pt_HH 115) ∈ pt_U := List.mem_filter.mpr ⟨pc_in5 _ (List.mem_of_getElem? (i := 57) rfl), rfl⟩
set_option maxRecDepth 100000 in
theorem pc_116 : pz_cw (pt_my 116) prog_9_method_10_code 3 none (pt_HH 116) ∈ pt_U := List.mem_filter.mpr ⟨pc_in5 _ (List.mem_of_getElem? (i := 63) rfl), rfl⟩
set_option maxRecDepth 100000 in
theorem pc_117 : pz_cw (pt_my 117) prog_12_method_2_code 1 none (pt_HH 117) ∈ pt_U := List.mem_filter.mpr ⟨pc_in5 _ (List.mem_of_getElem? (i := 68) rfl), rfl⟩
set_option maxRecDepth 100000 in
theorem pc_118 : pz_cw (pt_my 118) prog_9_method_11_code 1 none (pt_HH 118) ∈ pt_U := List.mem_filter.mpr ⟨pc_in5 _ (List.mem_of_getElem? (i := 72) rfl), rfl⟩
set_option maxRecDepth 100000 in
theorem pc_119 : pz_cw (pt_my 119) prog_9_method_16_code 2 none (pt_HH 119) ∈ pt_U := List.mem_filter.mpr ⟨pc_in5 _ (List.mem_of_getElem? (i := 77) rfl), rfl⟩
set_option maxRecDepth 100000 in
theorem pc_120 : pz_cw (pt_my 120) prog_9_method_4_code 3 none (pt_HH 120) ∈ pt_U := List.mem_filter.mpr ⟨pc_in5 _ (List.mem_of_getElem? (i := 81) rfl), rfl⟩
set_option maxRecDepth 100000 in
theorem pc_121 : pz_cw (pt_my 121) prog_7_method_6_code 3 none (pt_HH 121) ∈ pt_U := List.mem_filter.mpr ⟨pc_in5 _ (List.mem_of_getElem? (i := 86) rfl), rfl⟩
set_option maxRecDepth 100000 in
theorem pc_122 : pz_cw (pt_my 122) prog_9_method_6_code 2 none (pt_HH 122) ∈ pt_U := List.mem_filter.mpr ⟨pc_in5 _ (List.mem_of_getElem? (i := 90) rfl), rfl⟩
set_option maxRecDepth 100000 in
theorem pc_123 : pz_cw (pt_my 123) prog_9_method_5_code 4 none (pt_HH 123) ∈ pt_U := List.mem_filter.mpr ⟨pc_in5 _ (List.mem_of_getElem? (i := 94) rfl), rfl⟩
set_option maxRecDepth 100000 in
theorem pc_124 : pz_cw (pt_my 124) prog_9_method_20_code 7 (some .long) (pt_HH 124) ∈ pt_U := List.mem_filter.mpr ⟨pc_in5 _ (List.mem_of_getElem? (i := 98) rfl), rfl⟩
set_option maxRecDepth 100000 in
theorem pc_125 : pz_cw (pt_my 125) prog_9_method_21_code 4 (some .long) (pt_HH 125) ∈ pt_U := List.mem_filter.mpr ⟨pc_in5 _ (List.mem_of_getElem? (i := 102) rfl), rfl⟩
set_option maxRecDepth 100000 in
theorem pc_126 : pz_cw (pt_my 126) prog_7_method_7_code 6 none (pt_HH 126) ∈ pt_U := List.mem_filter.mpr ⟨pc_in5 _ (List.mem_of_getElem? (i := 110) rfl), rfl⟩
set_option maxRecDepth 100000 in
theorem pc_127 : pz_cw (pt_my 127) prog_9_method_7_code 2 none (pt_HH 127) ∈ pt_U := List.mem_filter.mpr ⟨pc_in5 _ (List.mem_of_getElem? (i := 114) rfl), rfl⟩
set_option maxRecDepth 100000 in
theorem pc_128 : pz_cw (pt_my 128) prog_9_method_8_code 6 none (pt_HH 128) ∈ pt_U := List.mem_filter.mpr ⟨pc_in5 _ (List.mem_of_getElem? (i := 118) rfl), rfl⟩
set_option maxRecDepth 100000 in
theorem pc_129 : pz_cw (pt_my 129) prog_7_method_8_code 2 none (pt_HH 129) ∈ pt_U := List.mem_filter.mpr ⟨pc_in5 _ (List.mem_of_getElem? (i := 122) rfl), rfl⟩
set_option maxRecDepth 100000 in
theorem pc_130 : pz_cw (pt_my 130) prog_7_method_4_code 3 none (pt_HH 130) ∈ pt_U := List.mem_filter.mpr ⟨pc_in5 _ (List.mem_of_getElem? (i := 126) rfl), rfl⟩
set_option maxRecDepth 100000 in
theorem pc_131 : pz_cw (pt_my 131) prog_9_method_9_code 1 none (pt_HH 131) ∈ pt_U := List.mem_filter.mpr ⟨pc_in5 _ (List.mem_of_getElem? (i := 130) rfl), rfl⟩
set_option maxRecDepth 100000 in
theorem pc_132 : pz_cw (pt_my 132) prog_7_method_9_code 2 (some .boolean) (pt_HH 132) ∈ pt_U := List.mem_filter.mpr ⟨pc_in5 _ (List.mem_of_getElem? (i := 134) rfl), rfl⟩
set_option maxRecDepth 100000 in
theorem pc_133 : pz_cw (pt_my 133) prog_7_method_10_code 1 (some .long) (pt_HH 133) ∈ pt_U := List.mem_filter.mpr ⟨pc_in5 _ (List.mem_of_getElem? (i := 138) rfl), rfl⟩
set_option maxRecDepth 100000 in
theorem pc_134 : pz_cw (pt_my 134) prog_9_method_12_code 1 none (pt_HH 134) ∈ pt_U := List.mem_filter.mpr ⟨pc_in5 _ (List.mem_of_getElem? (i := 142) rfl), rfl⟩
set_option maxRecDepth 100000 in
theorem pc_135 : pz_cw (pt_my 135) prog_12_method_5_code 6 none (pt_HH 135) ∈ pt_U := List.mem_filter.mpr ⟨pc_in5 _ (List.mem_of_getElem? (i := 146) rfl), rfl⟩
set_option maxRecDepth 100000 in
theorem pc_136 : pz_cw (pt_my 136) prog_12_method_4_code 3 (some .boolean) (pt_HH 136) ∈ pt_U := List.mem_filter.mpr ⟨pc_in5 _ (List.mem_of_getElem? (i := 150) rfl), rfl⟩
set_option maxRecDepth 100000 in
theorem pc_137 : pz_cw (pt_my 137) prog_9_method_13_code 4 none (pt_HH 137) ∈ pt_U := List.mem_filter.mpr ⟨pc_in5 _ (List.mem_of_getElem? (i := 154) rfl), rfl⟩
set_option maxRecDepth 100000 in
theorem pc_138 : pz_cw (pt_my 138) prog_11_method_20_code 1 (some .int) (pt_HH 138) ∈ pt_U := List.mem_filter.mpr ⟨pc_in5 _ (List.mem_of_getElem? (i := 158) rfl), rfl⟩
set_option maxRecDepth 100000 in
theorem pc_139 : pz_cw (pt_my 139) prog_12_method_19_code 2 none (pt_HH 139) ∈ pt_U := List.mem_filter.mpr ⟨pc_in5 _ (List.mem_of_getElem? (i := 162) rfl), rfl⟩
set_option maxRecDepth 100000 in
theorem pc_140 : pz_cw (pt_my 140) prog_12_method_8_code 7 none (pt_HH 140) ∈ pt_U := List.mem_filter.mpr ⟨pc_in5 _ (List.mem_of_getElem? (i := 166) rfl), rfl⟩
set_option maxRecDepth 100000 in
theorem pc_141 : pz_cw (pt_my 141) prog_12_method_6_code 3 (some .boolean) (pt_HH 141) ∈ pt_U := List.mem_filter.mpr ⟨pc_in5 _ (List.mem_of_getElem? (i := 169) rfl), rfl⟩
set_option maxRecDepth 100000 in
theorem pc_142 : pz_cw (pt_my 142) prog_12_method_7_code 6 none (pt_HH 142) ∈ pt_U := List.mem_filter.mpr ⟨pc_in5 _ (List.mem_of_getElem? (i := 173) rfl), rfl⟩
set_option maxRecDepth 100000 in
theorem pc_143 : pz_cw (pt_my 143) prog_12_method_20_code 11 none (pt_HH 143) ∈ pt_U := List.mem_filter.mpr ⟨pc_in5 _ (List.mem_of_getElem? (i := 177) rfl), rfl⟩
set_option maxRecDepth 100000 in
theorem pc_144 : pz_cw (pt_my 144) prog_12_method_21_code 6 none (pt_HH 144) ∈ pt_U := List.mem_filter.mpr ⟨pc_in5 _ (List.mem_of_getElem? (i := 185) rfl), rfl⟩
set_option maxRecDepth 100000 in
theorem pc_145 : pz_cw (pt_my 145) prog_12_method_22_code 11 none (pt_HH 145) ∈ pt_U := List.mem_filter.mpr ⟨pc_in5 _ (List.mem_of_getElem? (i := 189) rfl), rfl⟩
set_option maxRecDepth 100000 in
theorem pc_146 : pz_cw (pt_my 146) prog_9_method_14_code 3 none (pt_HH 146) ∈ pt_U := List.mem_filter.mpr ⟨pc_in5 _ (List.mem_of_getElem? (i := 195) rfl), rfl⟩
set_option maxRecDepth 100000 in
theorem pc_147 : pz_cw (pt_my 147) prog_9_method_15_code 1 (some .int) (pt_HH 147) ∈ pt_U := List.mem_filter.mpr ⟨pc_in5 _ (List.mem_of_getElem? (i := 198) rfl), rfl⟩
set_option maxRecDepth 100000 in
theorem pc_148 : pz_cw (pt_my 148) prog_9_method_17_code 3 none (pt_HH 148) ∈ pt_U := List.mem_filter.mpr ⟨pc_in5 _ (List.mem_of_getElem? (i := 202) rfl), rfl⟩
set_option maxRecDepth 100000 in
theorem pc_149 : pz_cw (pt_my 149) prog_12_method_11_code 3 none (pt_HH 149) ∈ pt_U := List.mem_filter.mpr ⟨pc_in5 _ (List.mem_of_getElem? (i := 206) rfl), rfl⟩
set_option maxRecDepth 100000 in
theorem pc_150 : pz_cw (pt_my 150) prog_12_method_10_code 1 (some .int) (pt_HH 150) ∈ pt_U := List.mem_filter.mpr ⟨pc_in5 _ (List.mem_of_getElem? (i := 210) rfl), rfl⟩
set_option maxRecDepth 100000 in
theorem pc_151 : pz_cw (pt_my 151) prog_12_method_9_code 2 (some .boolean) (pt_HH 151) ∈ pt_U := List.mem_filter.mpr ⟨pc_in5 _ (List.mem_of_getElem? (i := 214) rfl), rfl⟩
set_option maxRecDepth 100000 in
theorem pc_152 : pz_cw (pt_my 152) prog_12_method_13_code 8 none (pt_HH 152) ∈ pt_U := List.mem_filter.mpr ⟨pc_in5 _ (List.mem_of_getElem? (i := 218) rfl), rfl⟩
set_option maxRecDepth 100000 in
theorem pc_153 : pz_cw (pt_my 153) prog_12_method_14_code 7 (some .long) (pt_HH 153) ∈ pt_U := List.mem_filter.mpr ⟨pc_in5 _ (List.mem_of_getElem? (i := 222) rfl), rfl⟩
set_option maxRecDepth 100000 in
theorem pc_154 : pz_cw (pt_my 154) prog_12_method_16_code 7 none (pt_HH 154) ∈ pt_U := List.mem_filter.mpr ⟨pc_in5 _ (List.mem_of_getElem? (i := 226) rfl), rfl⟩
set_option maxRecDepth 100000 in
theorem pc_155 : pz_cw (pt_my 155) prog_12_method_15_code 6 (some .long) (pt_HH 155) ∈ pt_U := List.mem_filter.mpr ⟨pc_in5 _ (List.mem_of_getElem? (i := 230) rfl), rfl⟩
set_option maxRecDepth 100000 in
theorem pc_156 : pz_cw (pt_my 156) prog_12_method_12_code 3 none (pt_HH 156) ∈ pt_U := List.mem_filter.mpr ⟨pc_in5 _ (List.mem_of_getElem? (i := 234) rfl), rfl⟩
set_option maxRecDepth 100000 in
theorem pc_157 : pz_cw (pt_my 157) prog_12_method_17_code 14 none (pt_HH 157) ∈ pt_U := List.mem_filter.mpr ⟨pc_in5 _ (List.mem_of_getElem? (i := 238) rfl), rfl⟩
set_option maxRecDepth 100000 in
theorem pc_158 : pz_cw (pt_my 158) prog_12_method_18_code 5 none (pt_HH 158) ∈ pt_U := List.mem_filter.mpr ⟨pc_in6 _ (List.mem_of_getElem? (i := 2) rfl), rfl⟩
set_option maxRecDepth 100000 in
theorem pc_159 : pz_cw (pt_my 159) prog_9_method_18_code 2 none (pt_HH 159) ∈ pt_U := List.mem_filter.mpr ⟨pc_in6 _ (List.mem_of_getElem? (i := 6) rfl), rfl⟩
set_option maxRecDepth 100000 in
theorem pc_160 : pz_cw (pt_my 160) prog_12_method_3_code 1 (some .int) (pt_HH 160) ∈ pt_U := List.mem_filter.mpr ⟨pc_in6 _ (List.mem_of_getElem? (i := 10) rfl), rfl⟩
set_option maxRecDepth 100000 in
theorem pc_161 : pz_cw (pt_my 161) prog_7_method_11_code 3 (some (.object "AssertionBench$Sequence")) (pt_HH 161) ∈ pt_U := List.mem_filter.mpr ⟨pc_in6 _ (List.mem_of_getElem? (i := 15) rfl), rfl⟩
set_option maxRecDepth 100000 in
theorem pc_162 : pz_cw (pt_my 162) prog_12_method_23_code 7 none (pt_HH 162) ∈ pt_U := List.mem_filter.mpr ⟨pc_in6 _ (List.mem_of_getElem? (i := 19) rfl), rfl⟩
set_option maxRecDepth 100000 in
theorem pc_163 : pz_cw (pt_my 163) prog_12_method_24_code 7 (some .long) (pt_HH 163) ∈ pt_U := List.mem_filter.mpr ⟨pc_in6 _ (List.mem_of_getElem? (i := 23) rfl), rfl⟩
set_option maxRecDepth 100000 in
theorem pc_164 : pz_cw (pt_my 164) prog_10_method_2_code 8 none (pt_HH 164) ∈ pt_U := List.mem_filter.mpr ⟨pc_in6 _ (List.mem_of_getElem? (i := 27) rfl), rfl⟩
set_option maxRecDepth 100000 in
theorem pc_165 : pz_cw (pt_my 165) prog_33_method_101_code 5 none (pt_HH 165) ∈ pt_U := List.mem_filter.mpr ⟨pc_in6 _ (List.mem_of_getElem? (i := 30) rfl), rfl⟩
set_option maxRecDepth 100000 in
theorem pc_166 : pz_cw (pt_my 166) prog_10_method_3_code 7 none (pt_HH 166) ∈ pt_U := List.mem_filter.mpr ⟨pc_in6 _ (List.mem_of_getElem? (i := 34) rfl), rfl⟩
set_option maxRecDepth 100000 in
theorem pc_167 : pz_cw (pt_my 167) prog_10_method_4_code 1 (some .int) (pt_HH 167) ∈ pt_U := List.mem_filter.mpr ⟨pc_in6 _ (List.mem_of_getElem? (i := 38) rfl), rfl⟩
set_option maxRecDepth 100000 in
theorem pc_168 : pz_cw (pt_my 168) prog_22_method_49_code 1 (some .int) (pt_HH 168) ∈ pt_U := List.mem_filter.mpr ⟨pc_in6 _ (List.mem_of_getElem? (i := 41) rfl), rfl⟩
set_option maxRecDepth 100000 in
theorem pc_169 : pz_cw (pt_my 169) prog_9_method_19_code 4 none (pt_HH 169) ∈ pt_U := List.mem_filter.mpr ⟨pc_in6 _ (List.mem_of_getElem? (i := 48) rfl), rfl⟩
set_option maxRecDepth 100000 in
theorem pc_170 : pz_cw (pt_my 170) prog_7_method_5_code 2 (some .int) (pt_HH 170) ∈ pt_U := List.mem_filter.mpr ⟨pc_in6 _ (List.mem_of_getElem? (i := 52) rfl), rfl⟩
set_option maxRecDepth 100000 in
theorem pc_171 : pz_cw (pt_my 171) prog_7_method_12_code 2 none (pt_HH 171) ∈ pt_U := List.mem_filter.mpr ⟨pc_in6 _ (List.mem_of_getElem? (i := 56) rfl), rfl⟩
set_option maxRecDepth 100000 in
theorem pc_172 : pz_cw (pt_my 172) method_6_code 4 (some .int) (pt_HH 172) ∈ pt_U := List.mem_filter.mpr ⟨pc_in6 _ (List.mem_of_getElem? (i := 60) rfl), rfl⟩
set_option maxRecDepth 100000 in
theorem pc_173 : pz_cw (pt_my 173) prog_1_method_5_code 5 (some .int) (pt_HH 173) ∈ pt_U := List.mem_filter.mpr ⟨pc_in6 _ (List.mem_of_getElem? (i := 64) rfl), rfl⟩
set_option maxRecDepth 100000 in
theorem pc_174 : pz_cw (pt_my 174) prog_1_method_28_code 1 (some .boolean) (pt_HH 174) ∈ pt_U := List.mem_filter.mpr ⟨pc_in6 _ (List.mem_of_getElem? (i := 67) rfl), rfl⟩
set_option maxRecDepth 100000 in
theorem pc_175 : pz_cw (pt_my 175) prog_7_method_18_code 4 none (pt_HH 175) ∈ pt_U := List.mem_filter.mpr ⟨pc_in6 _ (List.mem_of_getElem? (i := 71) rfl), rfl⟩
set_option maxRecDepth 100000 in
theorem pc_176 : pz_cw (pt_my 176) prog_7_method_19_code 7 (some .boolean) (pt_HH 176) ∈ pt_U := List.mem_filter.mpr ⟨pc_in6 _ (List.mem_of_getElem? (i := 75) rfl), rfl⟩
set_option maxRecDepth 100000 in
theorem pc_177 : pz_cw (pt_my 177) prog_7_method_20_code 8 (some .boolean) (pt_HH 177) ∈ pt_U := List.mem_filter.mpr ⟨pc_in6 _ (List.mem_of_getElem? (i := 79) rfl), rfl⟩
set_option maxRecDepth 100000 in
theorem pc_178 : pz_cw (pt_my 178) prog_7_method_21_code 3 (some .boolean) (pt_HH 178) ∈ pt_U := List.mem_filter.mpr ⟨pc_in6 _ (List.mem_of_getElem? (i := 82) rfl), rfl⟩
set_option maxRecDepth 100000 in
theorem pc_179 : pz_cw (pt_my 179) prog_7_method_23_code 14 (some .boolean) (pt_HH 179) ∈ pt_U := List.mem_filter.mpr ⟨pc_in6 _ (List.mem_of_getElem? (i := 86) rfl), rfl⟩
set_option maxRecDepth 100000 in
theorem pc_180 : pz_cw (pt_my 180) prog_10_method_6_code 3 (some .boolean) (pt_HH 180) ∈ pt_U := List.mem_filter.mpr ⟨pc_in6 _ (List.mem_of_getElem? (i := 90) rfl), rfl⟩
set_option maxRecDepth 100000 in
theorem pc_181 : pz_cw (pt_my 181) prog_10_method_5_code 10 (some .long) (pt_HH 181) ∈ pt_U := List.mem_filter.mpr ⟨pc_in6 _ (List.mem_of_getElem? (i := 94) rfl), rfl⟩
set_option maxRecDepth 100000 in
theorem pc_182 : pz_cw (pt_my 182) prog_7_method_24_code 10 none (pt_HH 182) ∈ pt_U := List.mem_filter.mpr ⟨pc_in6 _ (List.mem_of_getElem? (i := 98) rfl), rfl⟩
set_option maxRecDepth 100000 in
theorem pc_183 : pz_cw (pt_my 183) prog_7_method_25_code 8 (some .boolean) (pt_HH 183) ∈ pt_U := List.mem_filter.mpr ⟨pc_in6 _ (List.mem_of_getElem? (i := 102) rfl), rfl⟩
set_option maxRecDepth 100000 in
theorem pc_184 : pz_cw (pt_my 184) prog_7_method_22_code 3 (some .boolean) (pt_HH 184) ∈ pt_U := List.mem_filter.mpr ⟨pc_in6 _ (List.mem_of_getElem? (i := 105) rfl), rfl⟩
set_option maxRecDepth 100000 in
theorem pc_185 : pz_cw (pt_my 185) prog_7_method_26_code 9 (some .boolean) (pt_HH 185) ∈ pt_U := List.mem_filter.mpr ⟨pc_in6 _ (List.mem_of_getElem? (i := 110) rfl), rfl⟩
set_option maxRecDepth 100000 in
theorem pc_186 : pz_cw (pt_my 186) method_7_code 4 (some .int) (pt_HH 186) ∈ pt_U := List.mem_filter.mpr ⟨pc_in6 _ (List.mem_of_getElem? (i := 113) rfl), rfl⟩
set_option maxRecDepth 100000 in
theorem pc_187 : pz_cw (pt_my 187) prog_1_method_7_code 2 (some .int) (pt_HH 187) ∈ pt_U := List.mem_filter.mpr ⟨pc_in6 _ (List.mem_of_getElem? (i := 117) rfl), rfl⟩
set_option maxRecDepth 100000 in
theorem pc_188 : pz_cw (pt_my 188) method_8_code 6 (some .int) (pt_HH 188) ∈ pt_U := List.mem_filter.mpr ⟨pc_in6 _ (List.mem_of_getElem? (i := 120) rfl), rfl⟩
set_option maxRecDepth 100000 in
theorem pc_189 : pz_cw (pt_my 189) prog_1_method_8_code 5 (some .boolean) (pt_HH 189) ∈ pt_U := List.mem_filter.mpr ⟨pc_in6 _ (List.mem_of_getElem? (i := 125) rfl), rfl⟩
set_option maxRecDepth 100000 in
theorem pc_190 : pz_cw (pt_my 190) prog_1_method_30_code 4 none (pt_HH 190) ∈ pt_U := List.mem_filter.mpr ⟨pc_in6 _ (List.mem_of_getElem? (i := 129) rfl), rfl⟩
set_option maxRecDepth 100000 in
theorem pc_191 : pz_cw (pt_my 191) prog_1_method_31_code 2 none (pt_HH 191) ∈ pt_U := List.mem_filter.mpr ⟨pc_in6 _ (List.mem_of_getElem? (i := 133) rfl), rfl⟩
set_option maxRecDepth 100000 in
theorem pc_192 : pz_cw (pt_my 192) prog_7_method_14_code 1 (some .int) (pt_HH 192) ∈ pt_U := List.mem_filter.mpr ⟨pc_in6 _ (List.mem_of_getElem? (i := 137) rfl), rfl⟩
set_option maxRecDepth 100000 in
theorem pc_193 : pz_cw (pt_my 193) prog_20_method_1_code 1 none (pt_HH 193) ∈ pt_U := List.mem_filter.mpr ⟨pc_in6 _ (List.mem_of_getElem? (i := 149) rfl), rfl⟩
set_option maxRecDepth 100000 in
theorem pc_194 : pz_cw (pt_my 194) prog_7_method_15_code 2 (some (.object "AssertionBench$Sequence")) (pt_HH 194) ∈ pt_U := List.mem_filter.mpr ⟨pc_in6 _ (List.mem_of_getElem? (i := 156) rfl), rfl⟩
set_option maxRecDepth 100000 in
theorem pc_195 : pz_cw (pt_my 195) prog_1_method_36_code 7 (some .long) (pt_HH 195) ∈ pt_U := List.mem_filter.mpr ⟨pc_in6 _ (List.mem_of_getElem? (i := 160) rfl), rfl⟩
set_option maxRecDepth 100000 in
theorem pc_196 : pz_cw (pt_my 196) method_9_code 6 (some .int) (pt_HH 196) ∈ pt_U := List.mem_filter.mpr ⟨pc_in6 _ (List.mem_of_getElem? (i := 165) rfl), rfl⟩
set_option maxRecDepth 100000 in
theorem pc_197 : pz_cw (pt_my 197) prog_1_method_9_code 5 (some .boolean) (pt_HH 197) ∈ pt_U := List.mem_filter.mpr ⟨pc_in6 _ (List.mem_of_getElem? (i := 169) rfl), rfl⟩
set_option maxRecDepth 100000 in
theorem pc_198 : pz_cw (pt_my 198) prog_10_method_7_code 3 (some .boolean) (pt_HH 198) ∈ pt_U := List.mem_filter.mpr ⟨pc_in6 _ (List.mem_of_getElem? (i := 173) rfl), rfl⟩
set_option maxRecDepth 100000 in
theorem pc_199 : pz_cw (pt_my 199) method_10_code 4 (some .int) (pt_HH 199) ∈ pt_U := List.mem_filter.mpr ⟨pc_in6 _ (List.mem_of_getElem? (i := 176) rfl), rfl⟩
set_option maxRecDepth 100000 in
theorem pc_200 : pz_cw (pt_my 200) prog_1_method_10_code 2 (some .int) (pt_HH 200) ∈ pt_U := List.mem_filter.mpr ⟨pc_in6 _ (List.mem_of_getElem? (i := 180) rfl), rfl⟩
set_option maxRecDepth 100000 in
theorem pc_201 : pz_cw (pt_my 201) prog_1_method_32_code 2 none (pt_HH 201) ∈ pt_U := List.mem_filter.mpr ⟨pc_in6 _ (List.mem_of_getElem? (i := 184) rfl), rfl⟩
set_option maxRecDepth 100000 in
theorem pc_202 : pz_cw (pt_my 202) prog_10_method_8_code 1 (some .int) (pt_HH 202) ∈ pt_U := List.mem_filter.mpr ⟨pc_in6 _ (List.mem_of_getElem? (i := 188) rfl), rfl⟩
set_option maxRecDepth 100000 in
theorem pc_203 : pz_cw (pt_my 203) prog_7_method_17_code 2 (some (.object "AssertionBench$Classes")) (pt_HH 203) ∈ pt_U := List.mem_filter.mpr ⟨pc_in6 _ (List.mem_of_getElem? (i := 192) rfl), rfl⟩
set_option maxRecDepth 100000 in
theorem pc_204 : pz_cw (pt_my 204) prog_2_method_3_code 1 (some .boolean) (pt_HH 204) ∈ pt_U := List.mem_filter.mpr ⟨pc_in6 _ (List.mem_of_getElem? (i := 196) rfl), rfl⟩
set_option maxRecDepth 100000 in
theorem pc_205 : pz_cw (pt_my 205) prog_2_method_11_code 4 none (pt_HH 205) ∈ pt_U := List.mem_filter.mpr ⟨pc_in6 _ (List.mem_of_getElem? (i := 200) rfl), rfl⟩
set_option maxRecDepth 100000 in
theorem pc_206 : pz_cw (pt_my 206) prog_10_method_9_code 1 (some .int) (pt_HH 206) ∈ pt_U := List.mem_filter.mpr ⟨pc_in6 _ (List.mem_of_getElem? (i := 204) rfl), rfl⟩
set_option maxRecDepth 100000 in
theorem pc_207 : pz_cw (pt_my 207) prog_2_method_12_code 5 none (pt_HH 207) ∈ pt_U := List.mem_filter.mpr ⟨pc_in6 _ (List.mem_of_getElem? (i := 209) rfl), rfl⟩
set_option maxRecDepth 100000 in
theorem pc_208 : pz_cw (pt_my 208) prog_2_method_13_code 4 (some .int) (pt_HH 208) ∈ pt_U := List.mem_filter.mpr ⟨pc_in6 _ (List.mem_of_getElem? (i := 214) rfl), rfl⟩
set_option maxRecDepth 100000 in
theorem pc_209 : pz_cw (pt_my 209) prog_2_method_14_code 3 none (pt_HH 209) ∈ pt_U := List.mem_filter.mpr ⟨pc_in6 _ (List.mem_of_getElem? (i := 220) rfl), rfl⟩
set_option maxRecDepth 100000 in
theorem pc_210 : pz_cw (pt_my 210) prog_2_method_15_code 4 (some .boolean) (pt_HH 210) ∈ pt_U := List.mem_filter.mpr ⟨pc_in6 _ (List.mem_of_getElem? (i := 224) rfl), rfl⟩
set_option maxRecDepth 100000 in
theorem pc_211 : pz_cw (pt_my 211) prog_2_method_16_code 6 (some .boolean) (pt_HH 211) ∈ pt_U := List.mem_filter.mpr ⟨pc_in6 _ (List.mem_of_getElem? (i := 228) rfl), rfl⟩
set_option maxRecDepth 100000 in
theorem pc_212 : pz_cw (pt_my 212) prog_2_method_17_code 2 none (pt_HH 212) ∈ pt_U := List.mem_filter.mpr ⟨pc_in6 _ (List.mem_of_getElem? (i := 235) rfl), rfl⟩
set_option maxRecDepth 100000 in
theorem pc_213 : pz_cw (pt_my 213) prog_2_method_18_code 5 none (pt_HH 213) ∈ pt_U := List.mem_filter.mpr ⟨pc_in6 _ (List.mem_of_getElem? (i := 239) rfl), rfl⟩
set_option maxRecDepth 100000 in
theorem pc_214 : pz_cw (pt_my 214) prog_2_method_4_code 1 (some .int) (pt_HH 214) ∈ pt_U := List.mem_filter.mpr ⟨pc_in7 _ (List.mem_of_getElem? (i := 3) rfl), rfl⟩
set_option maxRecDepth 100000 in
theorem pc_215 : pz_cw (pt_my 215) method_11_code 6 (some .int) (pt_HH 215) ∈ pt_U := List.mem_filter.mpr ⟨pc_in7 _ (List.mem_of_getElem? (i := 6) rfl), rfl⟩
set_option maxRecDepth 100000 in
theorem pc_216 : pz_cw (pt_my 216) prog_1_method_11_code 4 (some .int) (pt_HH 216) ∈ pt_U := List.mem_filter.mpr ⟨pc_in7 _ (List.mem_of_getElem? (i := 10) rfl), rfl⟩
set_option maxRecDepth 100000 in
theorem pc_217 : pz_cw (pt_my 217) prog_2_method_7_code 6 (some .int) (pt_HH 217) ∈ pt_U := List.mem_filter.mpr ⟨pc_in7 _ (List.mem_of_getElem? (i := 14) rfl), rfl⟩
set_option maxRecDepth 100000 in
theorem pc_218 : pz_cw (pt_my 218) prog_2_method_6_code 3 (some .int) (pt_HH 218) ∈ pt_U := List.mem_filter.mpr ⟨pc_in7 _ (List.mem_of_getElem? (i := 18) rfl), rfl⟩
set_option maxRecDepth 100000 in
theorem pc_219 : pz_cw (pt_my 219) method_12_code 6 (some .int) (pt_HH 219) ∈ pt_U := List.mem_filter.mpr ⟨pc_in7 _ (List.mem_of_getElem? (i := 21) rfl), rfl⟩
set_option maxRecDepth 100000 in
theorem pc_220 : pz_cw (pt_my 220) prog_1_method_12_code 5 (some .int) (pt_HH 220) ∈ pt_U := List.mem_filter.mpr ⟨pc_in7 _ (List.mem_of_getElem? (i := 25) rfl), rfl⟩
set_option maxRecDepth 100000 in
theorem pc_221 : pz_cw (pt_my 221) method_13_code 5 (some .int) (pt_HH 221) ∈ pt_U := List.mem_filter.mpr ⟨pc_in7 _ (List.mem_of_getElem? (i := 29) rfl), rfl⟩
set_option maxRecDepth 100000 in
theorem pc_222 : pz_cw (pt_my 222) prog_1_method_13_code 4 (some .int) (pt_HH 222) ∈ pt_U := List.mem_filter.mpr ⟨pc_in7 _ (List.mem_of_getElem? (i := 33) rfl), rfl⟩
set_option maxRecDepth 100000 in
theorem pc_223 : pz_cw (pt_my 223) prog_2_method_5_code 2 (some .int) (pt_HH 223) ∈ pt_U := List.mem_filter.mpr ⟨pc_in7 _ (List.mem_of_getElem? (i := 37) rfl), rfl⟩
set_option maxRecDepth 100000 in
theorem pc_224 : pz_cw (pt_my 224) method_14_code 4 (some .int) (pt_HH 224) ∈ pt_U := List.mem_filter.mpr ⟨pc_in7 _ (List.mem_of_getElem? (i := 40) rfl), rfl⟩
set_option maxRecDepth 100000 in
theorem pc_225 : pz_cw (pt_my 225) prog_1_method_14_code 2 (some .int) (pt_HH 225) ∈ pt_U := List.mem_filter.mpr ⟨pc_in7 _ (List.mem_of_getElem? (i := 44) rfl), rfl⟩
set_option maxRecDepth 100000 in
theorem pc_226 : pz_cw (pt_my 226) prog_1_method_33_code 2 none (pt_HH 226) ∈ pt_U := List.mem_filter.mpr ⟨pc_in7 _ (List.mem_of_getElem? (i := 48) rfl), rfl⟩
set_option maxRecDepth 100000 in
theorem pc_227 : pz_cw (pt_my 227) prog_7_method_16_code 3 (some .boolean) (pt_HH 227) ∈ pt_U := List.mem_filter.mpr ⟨pc_in7 _ (List.mem_of_getElem? (i := 52) rfl), rfl⟩
set_option maxRecDepth 100000 in
theorem pc_228 : pz_cw (pt_my 228) prog_7_method_27_code 3 (some .int) (pt_HH 228) ∈ pt_U := List.mem_filter.mpr ⟨pc_in7 _ (List.mem_of_getElem? (i := 57) rfl), rfl⟩
set_option maxRecDepth 100000 in
theorem pc_229 : pz_cw (pt_my 229) prog_7_method_28_code 2 (some .int) (pt_HH 229) ∈ pt_U := List.mem_filter.mpr ⟨pc_in7 _ (List.mem_of_getElem? (i := 61) rfl), rfl⟩
set_option maxRecDepth 100000 in
theorem pc_230 : pz_cw (pt_my 230) prog_2_method_9_code 5 (some .int) (pt_HH 230) ∈ pt_U := List.mem_filter.mpr ⟨pc_in7 _ (List.mem_of_getElem? (i := 66) rfl), rfl⟩
set_option maxRecDepth 100000 in
theorem pc_231 : pz_cw (pt_my 231) method_15_code 5 (some .int) (pt_HH 231) ∈ pt_U := List.mem_filter.mpr ⟨pc_in7 _ (List.mem_of_getElem? (i := 69) rfl), rfl⟩
set_option maxRecDepth 100000 in
theorem pc_232 : pz_cw (pt_my 232) prog_1_method_15_code 4 (some .boolean) (pt_HH 232) ∈ pt_U := List.mem_filter.mpr ⟨pc_in7 _ (List.mem_of_getElem? (i := 74) rfl), rfl⟩
set_option maxRecDepth 100000 in
theorem pc_233 : pz_cw (pt_my 233) prog_34_method_1_code 1 none (pt_HH 233) ∈ pt_U := List.mem_filter.mpr ⟨pc_in7 _ (List.mem_of_getElem? (i := 86) rfl), rfl⟩
set_option maxRecDepth 100000 in
theorem pc_234 : pz_cw (pt_my 234) prog_7_method_29_code 8 (some .boolean) (pt_HH 234) ∈ pt_U := List.mem_filter.mpr ⟨pc_in7 _ (List.mem_of_getElem? (i := 93) rfl), rfl⟩
set_option maxRecDepth 100000 in
theorem pc_235 : pz_cw (pt_my 235) prog_7_method_30_code 8 (some .boolean) (pt_HH 235) ∈ pt_U := List.mem_filter.mpr ⟨pc_in7 _ (List.mem_of_getElem? (i := 97) rfl), rfl⟩
set_option maxRecDepth 100000 in
theorem pc_236 : pz_cw (pt_my 236) prog_7_method_31_code 10 (some .boolean) (pt_HH 236) ∈ pt_U := List.mem_filter.mpr ⟨pc_in7 _ (List.mem_of_getElem? (i := 101) rfl), rfl⟩
set_option maxRecDepth 100000 in
theorem pc_237 : pz_cw (pt_my 237) prog_2_method_10_code 6 (some .int) (pt_HH 237) ∈ pt_U := List.mem_filter.mpr ⟨pc_in7 _ (List.mem_of_getElem? (i := 105) rfl), rfl⟩
set_option maxRecDepth 100000 in
theorem pc_238 : pz_cw (pt_my 238) prog_2_method_8_code 6 (some .boolean) (pt_HH 238) ∈ pt_U := List.mem_filter.mpr ⟨pc_in7 _ (List.mem_of_getElem? (i := 110) rfl), rfl⟩
set_option maxRecDepth 100000 in
theorem pc_239 : pz_cw (pt_my 239) prog_7_method_32_code 10 (some .boolean) (pt_HH 239) ∈ pt_U := List.mem_filter.mpr ⟨pc_in7 _ (List.mem_of_getElem? (i := 114) rfl), rfl⟩
set_option maxRecDepth 100000 in
theorem pc_240 : pz_cw (pt_my 240) method_16_code 4 (some .int) (pt_HH 240) ∈ pt_U := List.mem_filter.mpr ⟨pc_in7 _ (List.mem_of_getElem? (i := 117) rfl), rfl⟩
set_option maxRecDepth 100000 in
theorem pc_241 : pz_cw (pt_my 241) prog_1_method_18_code 2 (some .int) (pt_HH 241) ∈ pt_U := List.mem_filter.mpr ⟨pc_in7 _ (List.mem_of_getElem? (i := 121) rfl), rfl⟩
set_option maxRecDepth 100000 in
theorem pc_242 : pz_cw (pt_my 242) prog_3_method_17_code 2 (some .int) (pt_HH 242) ∈ pt_U := List.mem_filter.mpr ⟨pc_in7 _ (List.mem_of_getElem? (i := 125) rfl), rfl⟩
set_option maxRecDepth 100000 in
theorem pc_243 : pz_cw (pt_my 243) prog_3_method_18_code 2 none (pt_HH 243) ∈ pt_U := List.mem_filter.mpr ⟨pc_in7 _ (List.mem_of_getElem? (i := 129) rfl), rfl⟩
set_option maxRecDepth 100000 in
theorem pc_244 : pz_cw (pt_my 244) prog_26_method_89_code 2 none (pt_HH 244) ∈ pt_U := List.mem_filter.mpr ⟨pc_in7 _ (List.mem_of_getElem? (i := 133) rfl), rfl⟩
set_option maxRecDepth 100000 in
theorem pc_245 : pz_cw (pt_my 245) prog_15_method_13_code 2 none (pt_HH 245) ∈ pt_U := List.mem_filter.mpr ⟨pc_in7 _ (List.mem_of_getElem? (i := 136) rfl), rfl⟩
set_option maxRecDepth 100000 in
theorem pc_246 : pz_cw (pt_my 246) prog_27_method_3_code 2 none (pt_HH 246) ∈ pt_U := List.mem_filter.mpr ⟨pc_in7 _ (List.mem_of_getElem? (i := 141) rfl), rfl⟩
set_option maxRecDepth 100000 in
theorem pc_247 : pz_cw (pt_my 247) prog_26_method_7_code 2 (some (.object "java/lang/StringBuilder")) (pt_HH 247) ∈ pt_U := List.mem_filter.mpr ⟨pc_in7 _ (List.mem_of_getElem? (i := 148) rfl), rfl⟩
set_option maxRecDepth 100000 in
theorem pc_248 : pz_cw (pt_my 248) prog_15_method_22_code 3 (some (.object "java/lang/AbstractStringBuilder")) (pt_HH 248) ∈ pt_U := List.mem_filter.mpr ⟨pc_in7 _ (List.mem_of_getElem? (i := 151) rfl), rfl⟩
set_option maxRecDepth 100000 in
theorem pc_249 : pz_cw (pt_my 249) prog_15_method_26_code 3 (some (.object "java/lang/AbstractStringBuilder")) (pt_HH 249) ∈ pt_U := List.mem_filter.mpr ⟨pc_in7 _ (List.mem_of_getElem? (i := 155) rfl), rfl⟩
set_option maxRecDepth 100000 in
theorem pc_250 : pz_cw (pt_my 250) prog_15_method_9_code 3 none (pt_HH 250) ∈ pt_U := List.mem_filter.mpr ⟨pc_in7 _ (List.mem_of_getElem? (i := 159) rfl), rfl⟩
set_option maxRecDepth 100000 in
theorem pc_251 : pz_cw (pt_my 251) prog_15_method_10_code 6 (some .int) (pt_HH 251) ∈ pt_U := List.mem_filter.mpr ⟨pc_in7 _ (List.mem_of_getElem? (i := 163) rfl), rfl⟩
set_option maxRecDepth 100000 in
theorem pc_252 : pz_cw (pt_my 252) prog_35_method_27_code 4 (some .int) (pt_HH 252) ∈ pt_U := List.mem_filter.mpr ⟨pc_in7 _ (List.mem_of_getElem? (i := 166) rfl), rfl⟩
set_option maxRecDepth 100000 in
theorem pc_253 : pz_cw (pt_my 253) prog_35_method_28_code 3 (some .int) (pt_HH 253) ∈ pt_U := List.mem_filter.mpr ⟨pc_in7 _ (List.mem_of_getElem? (i := 171) rfl), rfl⟩
set_option maxRecDepth 100000 in
theorem pc_254 : pz_cw (pt_my 254) prog_33_method_121_code 3 (some (.array .byte)) (pt_HH 254) ∈ pt_U := List.mem_filter.mpr ⟨pc_in7 _ (List.mem_of_getElem? (i := 175) rfl), rfl⟩
set_option maxRecDepth 100000 in
theorem pc_255 : pz_cw (pt_my 255) prog_15_method_68_code 1 (some .boolean) (pt_HH 255) ∈ pt_U := List.mem_filter.mpr ⟨pc_in7 _ (List.mem_of_getElem? (i := 189) rfl), rfl⟩
set_option maxRecDepth 100000 in
theorem pc_256 : pz_cw (pt_my 256) prog_29_method_81_code 7 (some .int) (pt_HH 256) ∈ pt_U := List.mem_filter.mpr ⟨pc_in7 _ (List.mem_of_getElem? (i := 192) rfl), rfl⟩
set_option maxRecDepth 100000 in
theorem pc_257 : pz_cw (pt_my 257) prog_29_method_93_code 3 none (pt_HH 257) ∈ pt_U := List.mem_filter.mpr ⟨pc_in7 _ (List.mem_of_getElem? (i := 195) rfl), rfl⟩
set_option maxRecDepth 100000 in
theorem pc_258 : pz_cw (pt_my 258) prog_25_method_158_code 3 none (pt_HH 258) ∈ pt_U := List.mem_filter.mpr ⟨pc_in7 _ (List.mem_of_getElem? (i := 198) rfl), rfl⟩
set_option maxRecDepth 100000 in
theorem pc_259 : pz_cw (pt_my 259) prog_36_method_12_code 4 (some .int) (pt_HH 259) ∈ pt_U := List.mem_filter.mpr ⟨pc_in7 _ (List.mem_of_getElem? (i := 201) rfl), rfl⟩
set_option maxRecDepth 100000 in
theorem pc_260 : pz_cw (pt_my 260) prog_29_method_4_code 3 none (pt_HH 260) ∈ pt_U := List.mem_filter.mpr ⟨pc_in7 _ (List.mem_of_getElem? (i := 204) rfl), rfl⟩
set_option maxRecDepth 100000 in
theorem pc_261 : pz_cw (pt_my 261) prog_15_method_73_code 3 none (pt_HH 261) ∈ pt_U := List.mem_filter.mpr ⟨pc_in7 _ (List.mem_of_getElem? (i := 209) rfl), rfl⟩
set_option maxRecDepth 100000 in
theorem pc_262 : pz_cw (pt_my 262) prog_15_method_71_code 2 none (pt_HH 262) ∈ pt_U := List.mem_filter.mpr ⟨pc_in7 _ (List.mem_of_getElem? (i := 213) rfl), rfl⟩
set_option maxRecDepth 100000 in
theorem pc_263 : pz_cw (pt_my 263) prog_15_method_11_code 2 none (pt_HH 263) ∈ pt_U := List.mem_filter.mpr ⟨pc_in7 _ (List.mem_of_getElem? (i := 218) rfl), rfl⟩
set_option maxRecDepth 100000 in
theorem pc_264 : pz_cw (pt_my 264) prog_28_method_50_code 5 none (pt_HH 264) ∈ pt_U := List.mem_filter.mpr ⟨pc_in7 _ (List.mem_of_getElem? (i := 221) rfl), rfl⟩
set_option maxRecDepth 100000 in
theorem pc_265 : pz_cw (pt_my 265) prog_29_method_86_code 6 none (pt_HH 265) ∈ pt_U := List.mem_filter.mpr ⟨pc_in7 _ (List.mem_of_getElem? (i := 224) rfl), rfl⟩
set_option maxRecDepth 100000 in
theorem pc_266 : pz_cw (pt_my 266) prog_29_method_94_code 3 none (pt_HH 266) ∈ pt_U := List.mem_filter.mpr ⟨pc_in7 _ (List.mem_of_getElem? (i := 227) rfl), rfl⟩
set_option maxRecDepth 100000 in
theorem pc_267 : pz_cw (pt_my 267) prog_25_method_157_code 3 (some .int) (pt_HH 267) ∈ pt_U := List.mem_filter.mpr ⟨pc_in7 _ (List.mem_of_getElem? (i := 230) rfl), rfl⟩
set_option maxRecDepth 100000 in
theorem pc_268 : pz_cw (pt_my 268) prog_36_method_13_code 4 (some .int) (pt_HH 268) ∈ pt_U := List.mem_filter.mpr ⟨pc_in7 _ (List.mem_of_getElem? (i := 233) rfl), rfl⟩
set_option maxRecDepth 100000 in
theorem pc_269 : pz_cw (pt_my 269) prog_25_method_147_code 4 none (pt_HH 269) ∈ pt_U := List.mem_filter.mpr ⟨pc_in7 _ (List.mem_of_getElem? (i := 237) rfl), rfl⟩
set_option maxRecDepth 100000 in
theorem pc_270 : pz_cw (pt_my 270) prog_26_method_15_code 2 (some (.object "java/lang/StringBuilder")) (pt_HH 270) ∈ pt_U := List.mem_filter.mpr ⟨pc_in8 _ (List.mem_of_getElem? (i := 3) rfl), rfl⟩
set_option maxRecDepth 100000 in
theorem pc_271 : pz_cw (pt_my 271) prog_15_method_32_code 4 (some (.object "java/lang/AbstractStringBuilder")) (pt_HH 271) ∈ pt_U := List.mem_filter.mpr ⟨pc_in8 _ (List.mem_of_getElem? (i := 6) rfl), rfl⟩
set_option maxRecDepth 100000 in
theorem pc_272 : pz_cw (pt_my 272) prog_22_method_13_code 4 (some .int) (pt_HH 272) ∈ pt_U := List.mem_filter.mpr ⟨pc_in8 _ (List.mem_of_getElem? (i := 9) rfl), rfl⟩
set_option maxRecDepth 100000 in
theorem pc_273 : pz_cw (pt_my 273) prog_22_method_12_code 7 (some .int) (pt_HH 273) ∈ pt_U := List.mem_filter.mpr ⟨pc_in8 _ (List.mem_of_getElem? (i := 12) rfl), rfl⟩
set_option maxRecDepth 100000 in
theorem pc_274 : pz_cw (pt_my 274) prog_29_method_77_code 5 (some .int) (pt_HH 274) ∈ pt_U := List.mem_filter.mpr ⟨pc_in8 _ (List.mem_of_getElem? (i := 19) rfl), rfl⟩
set_option maxRecDepth 100000 in
theorem pc_275 : pz_cw (pt_my 275) prog_29_method_89_code 7 (some .int) (pt_HH 275) ∈ pt_U := List.mem_filter.mpr ⟨pc_in8 _ (List.mem_of_getElem? (i := 22) rfl), rfl⟩
set_option maxRecDepth 100000 in
theorem pc_276 : pz_cw (pt_my 276) prog_26_method_42_code 1 (some (.object "java/lang/String")) (pt_HH 276) ∈ pt_U := List.mem_filter.mpr ⟨pc_in8 _ (List.mem_of_getElem? (i := 28) rfl), rfl⟩
set_option maxRecDepth 100000 in
theorem pc_277 : pz_cw (pt_my 277) prog_25_method_53_code 2 none (pt_HH 277) ∈ pt_U := List.mem_filter.mpr ⟨pc_in8 _ (List.mem_of_getElem? (i := 33) rfl), rfl⟩
set_option maxRecDepth 100000 in
theorem pc_278 : pz_cw (pt_my 278) prog_25_method_150_code 5 none (pt_HH 278) ∈ pt_U := List.mem_filter.mpr ⟨pc_in8 _ (List.mem_of_getElem? (i := 36) rfl), rfl⟩
set_option maxRecDepth 100000 in
theorem pc_279 : pz_cw (pt_my 279) prog_15_method_64_code 1 (some (.array .byte)) (pt_HH 279) ∈ pt_U := List.mem_filter.mpr ⟨pc_in8 _ (List.mem_of_getElem? (i := 42) rfl), rfl⟩
set_option maxRecDepth 100000 in
theorem pc_280 : pz_cw (pt_my 280) prog_26_method_93_code 1 (some .int) (pt_HH 280) ∈ pt_U := List.mem_filter.mpr ⟨pc_in8 _ (List.mem_of_getElem? (i := 48) rfl), rfl⟩
set_option maxRecDepth 100000 in
theorem pc_281 : pz_cw (pt_my 281) prog_15_method_6_code 1 (some .int) (pt_HH 281) ∈ pt_U := List.mem_filter.mpr ⟨pc_in8 _ (List.mem_of_getElem? (i := 50) rfl), rfl⟩
set_option maxRecDepth 100000 in
theorem pc_282 : pz_cw (pt_my 282) prog_33_method_132_code 3 (some (.array .byte)) (pt_HH 282) ∈ pt_U := List.mem_filter.mpr ⟨pc_in8 _ (List.mem_of_getElem? (i := 54) rfl), rfl⟩
set_option maxRecDepth 100000 in
theorem pc_283 : pz_cw (pt_my 283) prog_33_method_133_code 5 (some (.array .byte)) (pt_HH 283) ∈ pt_U := List.mem_filter.mpr ⟨pc_in8 _ (List.mem_of_getElem? (i := 57) rfl), rfl⟩
set_option maxRecDepth 100000 in
theorem pc_284 : pz_cw (pt_my 284) prog_33_method_131_code 2 none (pt_HH 284) ∈ pt_U := List.mem_filter.mpr ⟨pc_in8 _ (List.mem_of_getElem? (i := 60) rfl), rfl⟩
set_option maxRecDepth 100000 in
theorem pc_285 : pz_cw (pt_my 285) prog_19_method_2_code 2 none (pt_HH 285) ∈ pt_U := List.mem_filter.mpr ⟨pc_in8 _ (List.mem_of_getElem? (i := 70) rfl), rfl⟩
set_option maxRecDepth 100000 in
theorem pc_286 : pz_cw (pt_my 286) prog_24_method_2_code 2 none (pt_HH 286) ∈ pt_U := List.mem_filter.mpr ⟨pc_in8 _ (List.mem_of_getElem? (i := 73) rfl), rfl⟩
set_option maxRecDepth 100000 in
theorem pc_287 : pz_cw (pt_my 287) prog_18_method_2_code 2 none (pt_HH 287) ∈ pt_U := List.mem_filter.mpr ⟨pc_in8 _ (List.mem_of_getElem? (i := 76) rfl), rfl⟩
set_option maxRecDepth 100000 in
theorem pc_288 : pz_cw (pt_my 288) prog_31_method_2_code 2 none (pt_HH 288) ∈ pt_U := List.mem_filter.mpr ⟨pc_in8 _ (List.mem_of_getElem? (i := 79) rfl), rfl⟩
set_option maxRecDepth 100000 in
theorem pc_289 : pz_cw (pt_my 289) prog_29_method_17_code 6 (some (.array .byte)) (pt_HH 289) ∈ pt_U := List.mem_filter.mpr ⟨pc_in8 _ (List.mem_of_getElem? (i := 82) rfl), rfl⟩
set_option maxRecDepth 100000 in
theorem pc_290 : pz_cw (pt_my 290) prog_29_method_22_code 7 (some .int) (pt_HH 290) ∈ pt_U := List.mem_filter.mpr ⟨pc_in8 _ (List.mem_of_getElem? (i := 85) rfl), rfl⟩
set_option maxRecDepth 100000 in
theorem pc_291 : pz_cw (pt_my 291) prog_29_method_15_code 2 (some .byte) (pt_HH 291) ∈ pt_U := List.mem_filter.mpr ⟨pc_in8 _ (List.mem_of_getElem? (i := 89) rfl), rfl⟩
set_option maxRecDepth 100000 in
theorem pc_292 : pz_cw (pt_my 292) prog_21_method_2_code 2 none (pt_HH 292) ∈ pt_U := List.mem_filter.mpr ⟨pc_in8 _ (List.mem_of_getElem? (i := 103) rfl), rfl⟩
set_option maxRecDepth 100000 in
theorem pc_293 : pz_cw (pt_my 293) prog_28_method_48_code 3 none (pt_HH 293) ∈ pt_U := List.mem_filter.mpr ⟨pc_in8 _ (List.mem_of_getElem? (i := 114) rfl), rfl⟩
set_option maxRecDepth 100000 in
theorem pc_294 : pz_cw (pt_my 294) prog_33_method_110_code 5 none (pt_HH 294) ∈ pt_U := List.mem_filter.mpr ⟨pc_in8 _ (List.mem_of_getElem? (i := 117) rfl), rfl⟩
set_option maxRecDepth 100000 in
theorem pc_295 : pz_cw (pt_my 295) prog_33_method_30_code 3 none (pt_HH 295) ∈ pt_U := List.mem_filter.mpr ⟨pc_in8 _ (List.mem_of_getElem? (i := 120) rfl), rfl⟩
set_option maxRecDepth 100000 in
theorem pc_296 : pz_cw (pt_my 296) prog_16_method_3_code 2 none (pt_HH 296) ∈ pt_U := List.mem_filter.mpr ⟨pc_in8 _ (List.mem_of_getElem? (i := 128) rfl), rfl⟩
set_option maxRecDepth 100000 in
theorem pc_297 : pz_cw (pt_my 297) prog_29_method_70_code 3 none (pt_HH 297) ∈ pt_U := List.mem_filter.mpr ⟨pc_in8 _ (List.mem_of_getElem? (i := 145) rfl), rfl⟩
set_option maxRecDepth 100000 in
theorem pc_298 : pz_cw (pt_my 298) prog_3_method_19_code 2 none (pt_HH 298) ∈ pt_U := List.mem_filter.mpr ⟨pc_in8 _ (List.mem_of_getElem? (i := 152) rfl), rfl⟩
set_option maxRecDepth 100000 in
theorem pc_299 : pz_cw (pt_my 299) prog_26_method_14_code 2 (some (.object "java/lang/StringBuilder")) (pt_HH 299) ∈ pt_U := List.mem_filter.mpr ⟨pc_in8 _ (List.mem_of_getElem? (i := 156) rfl), rfl⟩
set_option maxRecDepth 100000 in
theorem pc_300 : pz_cw (pt_my 300) prog_15_method_31_code 2 (some (.object "java/lang/AbstractStringBuilder")) (pt_HH 300) ∈ pt_U := List.mem_filter.mpr ⟨pc_in8 _ (List.mem_of_getElem? (i := 159) rfl), rfl⟩
set_option maxRecDepth 100000 in
theorem pc_301 : pz_cw (pt_my 301) prog_28_method_3_code 1 (some .boolean) (pt_HH 301) ∈ pt_U := List.mem_filter.mpr ⟨pc_in8 _ (List.mem_of_getElem? (i := 162) rfl), rfl⟩
set_option maxRecDepth 100000 in
theorem pc_302 : pz_cw (pt_my 302) prog_29_method_71_code 3 none (pt_HH 302) ∈ pt_U := List.mem_filter.mpr ⟨pc_in8 _ (List.mem_of_getElem? (i := 165) rfl), rfl⟩
set_option maxRecDepth 100000 in
theorem pc_303 : pz_cw (pt_my 303) prog_26_method_88_code 2 (some .char) (pt_HH 303) ∈ pt_U := List.mem_filter.mpr ⟨pc_in8 _ (List.mem_of_getElem? (i := 171) rfl), rfl⟩
set_option maxRecDepth 100000 in
theorem pc_304 : pz_cw (pt_my 304) prog_15_method_14_code 5 (some .char) (pt_HH 304) ∈ pt_U := List.mem_filter.mpr ⟨pc_in8 _ (List.mem_of_getElem? (i := 174) rfl), rfl⟩
set_option maxRecDepth 100000 in
theorem pc_305 : pz_cw (pt_my 305) method_17_code 4 (some .int) (pt_HH 305) ∈ pt_U := List.mem_filter.mpr ⟨pc_in8 _ (List.mem_of_getElem? (i := 180) rfl), rfl⟩
set_option maxRecDepth 100000 in
theorem pc_306 : pz_cw (pt_my 306) prog_1_method_19_code 2 (some .int) (pt_HH 306) ∈ pt_U := List.mem_filter.mpr ⟨pc_in8 _ (List.mem_of_getElem? (i := 184) rfl), rfl⟩
set_option maxRecDepth 100000 in
theorem pc_307 : pz_cw (pt_my 307) prog_3_method_8_code 2 (some .int) (pt_HH 307) ∈ pt_U := List.mem_filter.mpr ⟨pc_in8 _ (List.mem_of_getElem? (i := 188) rfl), rfl⟩
set_option maxRecDepth 100000 in
theorem pc_308 : pz_cw (pt_my 308) prog_3_method_3_code 1 (some .int) (pt_HH 308) ∈ pt_U := List.mem_filter.mpr ⟨pc_in8 _ (List.mem_of_getElem? (i := 192) rfl), rfl⟩
set_option maxRecDepth 100000 in
theorem pc_309 : pz_cw (pt_my 309) prog_3_method_4_code 1 (some .int) (pt_HH 309) ∈ pt_U := List.mem_filter.mpr ⟨pc_in8 _ (List.mem_of_getElem? (i := 196) rfl), rfl⟩
set_option maxRecDepth 100000 in
theorem pc_310 : pz_cw (pt_my 310) method_18_code 4 (some .int) (pt_HH 310) ∈ pt_U := List.mem_filter.mpr ⟨pc_in8 _ (List.mem_of_getElem? (i := 200) rfl), rfl⟩
set_option maxRecDepth 100000 in
theorem pc_311 : pz_cw (pt_my 311) prog_1_method_20_code 3 none (pt_HH 311) ∈ pt_U := List.mem_filter.mpr ⟨pc_in8 _ (List.mem_of_getElem? (i := 204) rfl), rfl⟩
set_option maxRecDepth 100000 in
theorem pc_312 : pz_cw (pt_my 312) method_19_code 5 (some .int) (pt_HH 312) ∈ pt_U := List.mem_filter.mpr ⟨pc_in8 _ (List.mem_of_getElem? (i := 208) rfl), rfl⟩
set_option maxRecDepth 100000 in
theorem pc_313 : pz_cw (pt_my 313) prog_1_method_21_code 3 (some .int) (pt_HH 313) ∈ pt_U := List.mem_filter.mpr ⟨pc_in8 _ (List.mem_of_getElem? (i := 212) rfl), rfl⟩
set_option maxRecDepth 100000 in
theorem pc_314 : pz_cw (pt_my 314) prog_3_method_9_code 2 (some .boolean) (pt_HH 314) ∈ pt_U := List.mem_filter.mpr ⟨pc_in8 _ (List.mem_of_getElem? (i := 216) rfl), rfl⟩
set_option maxRecDepth 100000 in
theorem pc_315 : pz_cw (pt_my 315) method_20_code 5 (some .int) (pt_HH 315) ∈ pt_U := List.mem_filter.mpr ⟨pc_in8 _ (List.mem_of_getElem? (i := 220) rfl), rfl⟩
set_option maxRecDepth 100000 in
theorem pc_316 : pz_cw (pt_my 316) prog_1_method_22_code 4 none (pt_HH 316) ∈ pt_U := List.mem_filter.mpr ⟨pc_in8 _ (List.mem_of_getElem? (i := 224) rfl), rfl⟩
set_option maxRecDepth 100000 in
theorem pc_317 : pz_cw (pt_my 317) method_21_code 4 (some .int) (pt_HH 317) ∈ pt_U := List.mem_filter.mpr ⟨pc_in8 _ (List.mem_of_getElem? (i := 229) rfl), rfl⟩
set_option maxRecDepth 100000 in
theorem pc_318 : pz_cw (pt_my 318) prog_1_method_23_code 3 none (pt_HH 318) ∈ pt_U := List.mem_filter.mpr ⟨pc_in8 _ (List.mem_of_getElem? (i := 233) rfl), rfl⟩
set_option maxRecDepth 100000 in
theorem pc_319 : pz_cw (pt_my 319) method_22_code 5 (some .int) (pt_HH 319) ∈ pt_U := List.mem_filter.mpr ⟨pc_in8 _ (List.mem_of_getElem? (i := 237) rfl), rfl⟩
set_option maxRecDepth 100000 in
theorem pc_320 : pz_cw (pt_my 320) prog_1_method_24_code 3 (some .int) (pt_HH 320) ∈ pt_U := List.mem_filter.mpr ⟨pc_in9 _ (List.mem_of_getElem? (i := 1) rfl), rfl⟩
set_option maxRecDepth 100000 in
theorem pc_321 : pz_cw (pt_my 321) prog_1_method_34_code 4 none (pt_HH 321) ∈ pt_U := List.mem_filter.mpr ⟨pc_in9 _ (List.mem_of_getElem? (i := 5) rfl), rfl⟩
set_option maxRecDepth 100000 in
theorem pc_322 : pz_cw (pt_my 322) prog_5_method_7_code 10 (some .int) (pt_HH 322) ∈ pt_U := List.mem_filter.mpr ⟨pc_in9 _ (List.mem_of_getElem? (i := 9) rfl), rfl⟩
set_option maxRecDepth 100000 in
theorem pc_323 : pz_cw (pt_my 323) prog_5_method_8_code 6 none (pt_HH 323) ∈ pt_U := List.mem_filter.mpr ⟨pc_in9 _ (List.mem_of_getElem? (i := 13) rfl), rfl⟩
set_option maxRecDepth 100000 in
theorem pc_324 : pz_cw (pt_my 324) prog_3_method_14_code 3 (some .int) (pt_HH 324) ∈ pt_U := List.mem_filter.mpr ⟨pc_in9 _ (List.mem_of_getElem? (i := 17) rfl), rfl⟩
set_option maxRecDepth 100000 in
theorem pc_325 : pz_cw (pt_my 325) prog_7_method_13_code 1 (some .int) (pt_HH 325) ∈ pt_U := List.mem_filter.mpr ⟨pc_in9 _ (List.mem_of_getElem? (i := 22) rfl), rfl⟩
set_option maxRecDepth 100000 in
theorem pc_326 : pz_cw (pt_my 326) prog_5_method_9_code 10 (some .int) (pt_HH 326) ∈ pt_U := List.mem_filter.mpr ⟨pc_in9 _ (List.mem_of_getElem? (i := 30) rfl), rfl⟩
set_option maxRecDepth 100000 in
theorem pc_327 : pz_cw (pt_my 327) prog_5_method_10_code 5 (some .int) (pt_HH 327) ∈ pt_U := List.mem_filter.mpr ⟨pc_in9 _ (List.mem_of_getElem? (i := 35) rfl), rfl⟩
set_option maxRecDepth 100000 in
theorem pc_328 : pz_cw (pt_my 328) prog_3_method_15_code 5 (some .int) (pt_HH 328) ∈ pt_U := List.mem_filter.mpr ⟨pc_in9 _ (List.mem_of_getElem? (i := 39) rfl), rfl⟩
set_option maxRecDepth 100000 in
theorem pc_329 : pz_cw (pt_my 329) prog_3_method_16_code 2 (some .int) (pt_HH 329) ∈ pt_U := List.mem_filter.mpr ⟨pc_in9 _ (List.mem_of_getElem? (i := 43) rfl), rfl⟩
set_option maxRecDepth 100000 in
theorem pc_330 : pz_cw (pt_my 330) prog_5_method_11_code 3 none (pt_HH 330) ∈ pt_U := List.mem_filter.mpr ⟨pc_in9 _ (List.mem_of_getElem? (i := 48) rfl), rfl⟩
set_option maxRecDepth 100000 in
theorem pc_331 : pz_cw (pt_my 331) method_23_code 5 (some .int) (pt_HH 331) ∈ pt_U := List.mem_filter.mpr ⟨pc_in9 _ (List.mem_of_getElem? (i := 51) rfl), rfl⟩
set_option maxRecDepth 100000 in
theorem pc_332 : pz_cw (pt_my 332) prog_1_method_25_code 3 (some .int) (pt_HH 332) ∈ pt_U := List.mem_filter.mpr ⟨pc_in9 _ (List.mem_of_getElem? (i := 55) rfl), rfl⟩
set_option maxRecDepth 100000 in
theorem pc_333 : pz_cw (pt_my 333) prog_1_method_35_code 2 none (pt_HH 333) ∈ pt_U := List.mem_filter.mpr ⟨pc_in9 _ (List.mem_of_getElem? (i := 58) rfl), rfl⟩
set_option maxRecDepth 100000 in
theorem pc_334 : pz_cw (pt_my 334) prog_5_method_3_code 1 (some .int) (pt_HH 334) ∈ pt_U := List.mem_filter.mpr ⟨pc_in9 _ (List.mem_of_getElem? (i := 62) rfl), rfl⟩
set_option maxRecDepth 100000 in
theorem pc_335 : pz_cw (pt_my 335) prog_5_method_4_code 2 (some .int) (pt_HH 335) ∈ pt_U := List.mem_filter.mpr ⟨pc_in9 _ (List.mem_of_getElem? (i := 66) rfl), rfl⟩
set_option maxRecDepth 100000 in
theorem pc_336 : pz_cw (pt_my 336) prog_5_method_5_code 2 (some .int) (pt_HH 336) ∈ pt_U := List.mem_filter.mpr ⟨pc_in9 _ (List.mem_of_getElem? (i := 70) rfl), rfl⟩
set_option maxRecDepth 100000 in
theorem pc_337 : pz_cw (pt_my 337) prog_5_method_6_code 2 (some .int) (pt_HH 337) ∈ pt_U := List.mem_filter.mpr ⟨pc_in9 _ (List.mem_of_getElem? (i := 74) rfl), rfl⟩
set_option maxRecDepth 100000 in
theorem pc_338 : pz_cw (pt_my 338) method_24_code 5 (some .int) (pt_HH 338) ∈ pt_U := List.mem_filter.mpr ⟨pc_in9 _ (List.mem_of_getElem? (i := 77) rfl), rfl⟩
set_option maxRecDepth 100000 in
theorem pc_339 : pz_cw (pt_my 339) prog_1_method_26_code 4 (some .int) (pt_HH 339) ∈ pt_U := List.mem_filter.mpr ⟨pc_in9 _ (List.mem_of_getElem? (i := 81) rfl), rfl⟩
set_option maxRecDepth 100000 in
theorem pc_340 : pz_cw (pt_my 340) method_25_code 4 (some .int) (pt_HH 340) ∈ pt_U := List.mem_filter.mpr ⟨pc_in9 _ (List.mem_of_getElem? (i := 84) rfl), rfl⟩
set_option maxRecDepth 100000 in
theorem pc_341 : pz_cw (pt_my 341) prog_1_method_27_code 2 (some .int) (pt_HH 341) ∈ pt_U := List.mem_filter.mpr ⟨pc_in9 _ (List.mem_of_getElem? (i := 88) rfl), rfl⟩
set_option maxRecDepth 100000 in
theorem pc_342 : pz_cw (pt_my 342) prog_14_method_1_code 2 none (pt_HH 342) ∈ pt_U := List.mem_filter.mpr ⟨pc_in9 _ (List.mem_of_getElem? (i := 93) rfl), rfl⟩
set_option maxRecDepth 100000 in
theorem pc_343 : pz_cw (pt_my 343) prog_14_method_2_code 1 (some .int) (pt_HH 343) ∈ pt_U := List.mem_filter.mpr ⟨pc_in10 _ (List.mem_of_getElem? (i := 220) rfl), rfl⟩
set_option maxRecDepth 100000 in
theorem pc_344 : pz_cw (pt_my 344) prog_14_method_4_code 6 (some .int) (pt_HH 344) ∈ pt_U := List.mem_filter.mpr ⟨pc_in10 _ (List.mem_of_getElem? (i := 224) rfl), rfl⟩
set_option maxRecDepth 100000 in
theorem pc_345 : pz_cw (pt_my 345) prog_14_method_3_code 3 (some .boolean) (pt_HH 345) ∈ pt_U := List.mem_filter.mpr ⟨pc_in10 _ (List.mem_of_getElem? (i := 228) rfl), rfl⟩
set_option maxRecDepth 100000 in
theorem pc_346 : pz_cw (pt_my 346) prog_14_method_5_code 2 none (pt_HH 346) ∈ pt_U := List.mem_filter.mpr ⟨pc_in10 _ (List.mem_of_getElem? (i := 232) rfl), rfl⟩
set_option maxRecDepth 100000 in
theorem pc_347 : pz_cw (pt_my 347) prog_14_method_30_code 4 (some .int) (pt_HH 347) ∈ pt_U := List.mem_filter.mpr ⟨pc_in10 _ (List.mem_of_getElem? (i := 236) rfl), rfl⟩
set_option maxRecDepth 100000 in
theorem pc_348 : pz_cw (pt_my 348) prog_14_method_13_code 3 none (pt_HH 348) ∈ pt_U := List.mem_filter.mpr ⟨pc_in11 _ (List.mem_of_getElem? (i := 0) rfl), rfl⟩
set_option maxRecDepth 100000 in
theorem pc_349 : pz_cw (pt_my 349) prog_14_method_6_code 2 (some .int) (pt_HH 349) ∈ pt_U := List.mem_filter.mpr ⟨pc_in11 _ (List.mem_of_getElem? (i := 4) rfl), rfl⟩
set_option maxRecDepth 100000 in
theorem pc_350 : pz_cw (pt_my 350) prog_14_method_12_code 2 (some .int) (pt_HH 350) ∈ pt_U := List.mem_filter.mpr ⟨pc_in11 _ (List.mem_of_getElem? (i := 8) rfl), rfl⟩
set_option maxRecDepth 100000 in
theorem pc_351 : pz_cw (pt_my 351) prog_14_method_11_code 5 (some .int) (pt_HH 351) ∈ pt_U := List.mem_filter.mpr ⟨pc_in11 _ (List.mem_of_getElem? (i := 12) rfl), rfl⟩
set_option maxRecDepth 100000 in
theorem pc_352 : pz_cw (pt_my 352) prog_14_method_7_code 2 (some .boolean) (pt_HH 352) ∈ pt_U := List.mem_filter.mpr ⟨pc_in11 _ (List.mem_of_getElem? (i := 16) rfl), rfl⟩
set_option maxRecDepth 100000 in
theorem pc_353 : pz_cw (pt_my 353) prog_14_method_8_code 2 (some .boolean) (pt_HH 353) ∈ pt_U := List.mem_filter.mpr ⟨pc_in11 _ (List.mem_of_getElem? (i := 20) rfl), rfl⟩
set_option maxRecDepth 100000 in
theorem pc_354 : pz_cw (pt_my 354) prog_14_method_10_code 1 (some .int) (pt_HH 354) ∈ pt_U := List.mem_filter.mpr ⟨pc_in11 _ (List.mem_of_getElem? (i := 24) rfl), rfl⟩
set_option maxRecDepth 100000 in
theorem pc_355 : pz_cw (pt_my 355) prog_14_method_9_code 9 (some .boolean) (pt_HH 355) ∈ pt_U := List.mem_filter.mpr ⟨pc_in11 _ (List.mem_of_getElem? (i := 28) rfl), rfl⟩
set_option maxRecDepth 100000 in
theorem pc_356 : pz_cw (pt_my 356) prog_14_method_27_code 3 (some .int) (pt_HH 356) ∈ pt_U := List.mem_filter.mpr ⟨pc_in11 _ (List.mem_of_getElem? (i := 32) rfl), rfl⟩
set_option maxRecDepth 100000 in
theorem pc_357 : pz_cw (pt_my 357) prog_14_method_26_code 4 none (pt_HH 357) ∈ pt_U := List.mem_filter.mpr ⟨pc_in11 _ (List.mem_of_getElem? (i := 36) rfl), rfl⟩
set_option maxRecDepth 100000 in
theorem pc_358 : pz_cw (pt_my 358) prog_14_method_14_code 2 none (pt_HH 358) ∈ pt_U := List.mem_filter.mpr ⟨pc_in11 _ (List.mem_of_getElem? (i := 40) rfl), rfl⟩
set_option maxRecDepth 100000 in
theorem pc_359 : pz_cw (pt_my 359) prog_14_method_25_code 6 (some .int) (pt_HH 359) ∈ pt_U := List.mem_filter.mpr ⟨pc_in11 _ (List.mem_of_getElem? (i := 44) rfl), rfl⟩
set_option maxRecDepth 100000 in
theorem pc_360 : pz_cw (pt_my 360) prog_14_method_16_code 1 none (pt_HH 360) ∈ pt_U := List.mem_filter.mpr ⟨pc_in11 _ (List.mem_of_getElem? (i := 48) rfl), rfl⟩
set_option maxRecDepth 100000 in
theorem pc_361 : pz_cw (pt_my 361) prog_14_method_15_code 2 none (pt_HH 361) ∈ pt_U := List.mem_filter.mpr ⟨pc_in11 _ (List.mem_of_getElem? (i := 52) rfl), rfl⟩
set_option maxRecDepth 100000 in
theorem pc_362 : pz_cw (pt_my 362) prog_14_method_18_code 1 (some .boolean) (pt_HH 362) ∈ pt_U := List.mem_filter.mpr ⟨pc_in11 _ (List.mem_of_getElem? (i := 56) rfl), rfl⟩
set_option maxRecDepth 100000 in
theorem pc_363 : pz_cw (pt_my 363) prog_14_method_20_code 4 (some .int) (pt_HH 363) ∈ pt_U := List.mem_filter.mpr ⟨pc_in11 _ (List.mem_of_getElem? (i := 60) rfl), rfl⟩
set_option maxRecDepth 100000 in
theorem pc_364 : pz_cw (pt_my 364) prog_14_method_19_code 4 (some .int) (pt_HH 364) ∈ pt_U := List.mem_filter.mpr ⟨pc_in11 _ (List.mem_of_getElem? (i := 64) rfl), rfl⟩
set_option maxRecDepth 100000 in
theorem pc_365 : pz_cw (pt_my 365) prog_14_method_17_code 6 (some .int) (pt_HH 365) ∈ pt_U := List.mem_filter.mpr ⟨pc_in11 _ (List.mem_of_getElem? (i := 68) rfl), rfl⟩
set_option maxRecDepth 100000 in
theorem pc_366 : pz_cw (pt_my 366) prog_14_method_23_code 6 (some .int) (pt_HH 366) ∈ pt_U := List.mem_filter.mpr ⟨pc_in11 _ (List.mem_of_getElem? (i := 72) rfl), rfl⟩
set_option maxRecDepth 100000 in
theorem pc_367 : pz_cw (pt_my 367) prog_14_method_21_code 1 (some .int) (pt_HH 367) ∈ pt_U := List.mem_filter.mpr ⟨pc_in11 _ (List.mem_of_getElem? (i := 75) rfl), rfl⟩
set_option maxRecDepth 100000 in
theorem pc_368 : pz_cw (pt_my 368) prog_14_method_24_code 1 (some .int) (pt_HH 368) ∈ pt_U := List.mem_filter.mpr ⟨pc_in11 _ (List.mem_of_getElem? (i := 78) rfl), rfl⟩
set_option maxRecDepth 100000 in
theorem pc_369 : pz_cw (pt_my 369) prog_14_method_22_code 5 (some .int) (pt_HH 369) ∈ pt_U := List.mem_filter.mpr ⟨pc_in11 _ (List.mem_of_getElem? (i := 82) rfl), rfl⟩
set_option maxRecDepth 100000 in
theorem pc_370 : pz_cw (pt_my 370) prog_14_method_29_code 6 (some .int) (pt_HH 370) ∈ pt_U := List.mem_filter.mpr ⟨pc_in11 _ (List.mem_of_getElem? (i := 86) rfl), rfl⟩
set_option maxRecDepth 100000 in
theorem pc_371 : pz_cw (pt_my 371) prog_14_method_28_code 2 (some .int) (pt_HH 371) ∈ pt_U := List.mem_filter.mpr ⟨pc_in11 _ (List.mem_of_getElem? (i := 90) rfl), rfl⟩
set_option maxRecDepth 100000 in
theorem pc_372 : pz_cw (pt_my 372) prog_14_method_31_code 5 none (pt_HH 372) ∈ pt_U := List.mem_filter.mpr ⟨pc_in11 _ (List.mem_of_getElem? (i := 94) rfl), rfl⟩
set_option maxRecDepth 100000 in
theorem pc_373 : pz_cw (pt_my 373) prog_14_method_73_code 4 (some .boolean) (pt_HH 373) ∈ pt_U := List.mem_filter.mpr ⟨pc_in11 _ (List.mem_of_getElem? (i := 98) rfl), rfl⟩
set_option maxRecDepth 100000 in
theorem pc_374 : pz_cw (pt_my 374) prog_14_method_72_code 1 (some .boolean) (pt_HH 374) ∈ pt_U := List.mem_filter.mpr ⟨pc_in11 _ (List.mem_of_getElem? (i := 101) rfl), rfl⟩
set_option maxRecDepth 100000 in
theorem pc_375 : pz_cw (pt_my 375) prog_14_method_66_code 3 (some .int) (pt_HH 375) ∈ pt_U := List.mem_filter.mpr ⟨pc_in11 _ (List.mem_of_getElem? (i := 105) rfl), rfl⟩
set_option maxRecDepth 100000 in
theorem pc_376 : pz_cw (pt_my 376) prog_14_method_65_code 2 (some .boolean) (pt_HH 376) ∈ pt_U := List.mem_filter.mpr ⟨pc_in11 _ (List.mem_of_getElem? (i := 109) rfl), rfl⟩
set_option maxRecDepth 100000 in
theorem pc_377 : pz_cw (pt_my 377) prog_14_method_32_code 4 none (pt_HH 377) ∈ pt_U := List.mem_filter.mpr ⟨pc_in11 _ (List.mem_of_getElem? (i := 113) rfl), rfl⟩
set_option maxRecDepth 100000 in
theorem pc_378 : pz_cw (pt_my 378) prog_14_method_64_code 4 none (pt_HH 378) ∈ pt_U := List.mem_filter.mpr ⟨pc_in11 _ (List.mem_of_getElem? (i := 117) rfl), rfl⟩
set_option maxRecDepth 100000 in
theorem pc_379 : pz_cw (pt_my 379) prog_14_method_56_code 1 (some .boolean) (pt_HH 379) ∈ pt_U := List.mem_filter.mpr ⟨pc_in11 _ (List.mem_of_getElem? (i := 120) rfl), rfl⟩
set_option maxRecDepth 100000 in
theorem pc_380 : pz_cw (pt_my 380) prog_14_method_55_code 2 none (pt_HH 380) ∈ pt_U := List.mem_filter.mpr ⟨pc_in11 _ (List.mem_of_getElem? (i := 124) rfl), rfl⟩
set_option maxRecDepth 100000 in
theorem pc_381 : pz_cw (pt_my 381) prog_14_method_45_code 3 none (pt_HH 381) ∈ pt_U := List.mem_filter.mpr ⟨pc_in11 _ (List.mem_of_getElem? (i := 128) rfl), rfl⟩
set_option maxRecDepth 100000 in
theorem pc_382 : pz_cw (pt_my 382) prog_14_method_41_code 1 (some .int) (pt_HH 382) ∈ pt_U := List.mem_filter.mpr ⟨pc_in11 _ (List.mem_of_getElem? (i := 132) rfl), rfl⟩
set_option maxRecDepth 100000 in
theorem pc_383 : pz_cw (pt_my 383) prog_14_method_36_code 1 none (pt_HH 383) ∈ pt_U := List.mem_filter.mpr ⟨pc_in11 _ (List.mem_of_getElem? (i := 136) rfl), rfl⟩
set_option maxRecDepth 100000 in
theorem pc_384 : pz_cw (pt_my 384) prog_14_method_35_code 4 (some .boolean) (pt_HH 384) ∈ pt_U := List.mem_filter.mpr ⟨pc_in11 _ (List.mem_of_getElem? (i := 140) rfl), rfl⟩
set_option maxRecDepth 100000 in
theorem pc_385 : pz_cw (pt_my 385) prog_14_method_34_code 2 (some .boolean) (pt_HH 385) ∈ pt_U := List.mem_filter.mpr ⟨pc_in11 _ (List.mem_of_getElem? (i := 144) rfl), rfl⟩
set_option maxRecDepth 100000 in
theorem pc_386 : pz_cw (pt_my 386) prog_14_method_33_code 7 (some .boolean) (pt_HH 386) ∈ pt_U := List.mem_filter.mpr ⟨pc_in11 _ (List.mem_of_getElem? (i := 148) rfl), rfl⟩
set_option maxRecDepth 100000 in
theorem pc_387 : pz_cw (pt_my 387) prog_14_method_37_code 2 none (pt_HH 387) ∈ pt_U := List.mem_filter.mpr ⟨pc_in11 _ (List.mem_of_getElem? (i := 152) rfl), rfl⟩
set_option maxRecDepth 100000 in
theorem pc_388 : pz_cw (pt_my 388) prog_14_method_40_code 3 none (pt_HH 388) ∈ pt_U := List.mem_filter.mpr ⟨pc_in11 _ (List.mem_of_getElem? (i := 156) rfl), rfl⟩
set_option maxRecDepth 100000 in
theorem pc_389 : pz_cw (pt_my 389) prog_14_method_46_code 10 none (pt_HH 389) ∈ pt_U := List.mem_filter.mpr ⟨pc_in11 _ (List.mem_of_getElem? (i := 160) rfl), rfl⟩
set_option maxRecDepth 100000 in
theorem pc_390 : pz_cw (pt_my 390) prog_14_method_39_code 4 (some .boolean) (pt_HH 390) ∈ pt_U := List.mem_filter.mpr ⟨pc_in11 _ (List.mem_of_getElem? (i := 164) rfl), rfl⟩
set_option maxRecDepth 100000 in
theorem pc_391 : pz_cw (pt_my 391) prog_14_method_38_code 5 (some .boolean) (pt_HH 391) ∈ pt_U := List.mem_filter.mpr ⟨pc_in11 _ (List.mem_of_getElem? (i := 167) rfl), rfl⟩
set_option maxRecDepth 100000 in
theorem pc_392 : pz_cw (pt_my 392) prog_14_method_42_code 3 none (pt_HH 392) ∈ pt_U := List.mem_filter.mpr ⟨pc_in11 _ (List.mem_of_getElem? (i := 171) rfl), rfl⟩
set_option maxRecDepth 100000 in
theorem pc_393 : pz_cw (pt_my 393) prog_14_method_47_code 10 none (pt_HH 393) ∈ pt_U := List.mem_filter.mpr ⟨pc_in11 _ (List.mem_of_getElem? (i := 176) rfl), rfl⟩
set_option maxRecDepth 100000 in
theorem pc_394 : pz_cw (pt_my 394) prog_14_method_48_code 4 none (pt_HH 394) ∈ pt_U := List.mem_filter.mpr ⟨pc_in11 _ (List.mem_of_getElem? (i := 180) rfl), rfl⟩
set_option maxRecDepth 100000 in
theorem pc_395 : pz_cw (pt_my 395) prog_14_method_43_code 2 none (pt_HH 395) ∈ pt_U := List.mem_filter.mpr ⟨pc_in11 _ (List.mem_of_getElem? (i := 184) rfl), rfl⟩
set_option maxRecDepth 100000 in
theorem pc_396 : pz_cw (pt_my 396) prog_14_method_44_code 2 none (pt_HH 396) ∈ pt_U := List.mem_filter.mpr ⟨pc_in11 _ (List.mem_of_getElem? (i := 188) rfl), rfl⟩
set_option maxRecDepth 100000 in
theorem pc_397 : pz_cw (pt_my 397) prog_14_method_51_code 4 none (pt_HH 397) ∈ pt_U := List.mem_filter.mpr ⟨pc_in11 _ (List.mem_of_getElem? (i := 192) rfl), rfl⟩
set_option maxRecDepth 100000 in
theorem pc_398 : pz_cw (pt_my 398) prog_14_method_50_code 4 none (pt_HH 398) ∈ pt_U := List.mem_filter.mpr ⟨pc_in11 _ (List.mem_of_getElem? (i := 196) rfl), rfl⟩
set_option maxRecDepth 100000 in
theorem pc_399 : pz_cw (pt_my 399) prog_14_method_52_code 5 none (pt_HH 399) ∈ pt_U := List.mem_filter.mpr ⟨pc_in11 _ (List.mem_of_getElem? (i := 200) rfl), rfl⟩
set_option maxRecDepth 100000 in
theorem pc_400 : pz_cw (pt_my 400) prog_14_method_49_code 2 none (pt_HH 400) ∈ pt_U := List.mem_filter.mpr ⟨pc_in11 _ (List.mem_of_getElem? (i := 204) rfl), rfl⟩
set_option maxRecDepth 100000 in
theorem pc_401 : pz_cw (pt_my 401) prog_14_method_54_code 4 none (pt_HH 401) ∈ pt_U := List.mem_filter.mpr ⟨pc_in11 _ (List.mem_of_getElem? (i := 208) rfl), rfl⟩
set_option maxRecDepth 100000 in
theorem pc_402 : pz_cw (pt_my 402) prog_14_method_53_code 3 none (pt_HH 402) ∈ pt_U := List.mem_filter.mpr ⟨pc_in11 _ (List.mem_of_getElem? (i := 212) rfl), rfl⟩
set_option maxRecDepth 100000 in
theorem pc_403 : pz_cw (pt_my 403) prog_14_method_63_code 5 (some .boolean) (pt_HH 403) ∈ pt_U := List.mem_filter.mpr ⟨pc_in11 _ (List.mem_of_getElem? (i := 216) rfl), rfl⟩
set_option maxRecDepth 100000 in
theorem pc_404 : pz_cw (pt_my 404) prog_14_method_59_code 7 (some .boolean) (pt_HH 404) ∈ pt_U := List.mem_filter.mpr ⟨pc_in11 _ (List.mem_of_getElem? (i := 220) rfl), rfl⟩
set_option maxRecDepth 100000 in
theorem pc_405 : pz_cw (pt_my 405) prog_14_method_57_code 3 (some .boolean) (pt_HH 405) ∈ pt_U := List.mem_filter.mpr ⟨pc_in11 _ (List.mem_of_getElem? (i := 224) rfl), rfl⟩
set_option maxRecDepth 100000 in
theorem pc_406 : pz_cw (pt_my 406) prog_14_method_58_code 3 (some .boolean) (pt_HH 406) ∈ pt_U := List.mem_filter.mpr ⟨pc_in11 _ (List.mem_of_getElem? (i := 228) rfl), rfl⟩
set_option maxRecDepth 100000 in
theorem pc_407 : pz_cw (pt_my 407) prog_14_method_60_code 6 (some .boolean) (pt_HH 407) ∈ pt_U := List.mem_filter.mpr ⟨pc_in11 _ (List.mem_of_getElem? (i := 232) rfl), rfl⟩
set_option maxRecDepth 100000 in
theorem pc_408 : pz_cw (pt_my 408) prog_14_method_61_code 6 (some .boolean) (pt_HH 408) ∈ pt_U := List.mem_filter.mpr ⟨pc_in11 _ (List.mem_of_getElem? (i := 236) rfl), rfl⟩
set_option maxRecDepth 100000 in
theorem pc_409 : pz_cw (pt_my 409) prog_14_method_62_code 7 (some .boolean) (pt_HH 409) ∈ pt_U := List.mem_filter.mpr ⟨pc_in12 _ (List.mem_of_getElem? (i := 0) rfl), rfl⟩
set_option maxRecDepth 100000 in
theorem pc_410 : pz_cw (pt_my 410) prog_14_method_67_code 1 none (pt_HH 410) ∈ pt_U := List.mem_filter.mpr ⟨pc_in12 _ (List.mem_of_getElem? (i := 4) rfl), rfl⟩
set_option maxRecDepth 100000 in
theorem pc_411 : pz_cw (pt_my 411) prog_14_method_68_code 2 (some .int) (pt_HH 411) ∈ pt_U := List.mem_filter.mpr ⟨pc_in12 _ (List.mem_of_getElem? (i := 8) rfl), rfl⟩
set_option maxRecDepth 100000 in
theorem pc_412 : pz_cw (pt_my 412) prog_14_method_70_code 4 (some .boolean) (pt_HH 412) ∈ pt_U := List.mem_filter.mpr ⟨pc_in12 _ (List.mem_of_getElem? (i := 12) rfl), rfl⟩
set_option maxRecDepth 100000 in
theorem pc_413 : pz_cw (pt_my 413) prog_14_method_69_code 5 (some .boolean) (pt_HH 413) ∈ pt_U := List.mem_filter.mpr ⟨pc_in12 _ (List.mem_of_getElem? (i := 16) rfl), rfl⟩
set_option maxRecDepth 100000 in
theorem pc_414 : pz_cw (pt_my 414) prog_14_method_71_code 6 (some .boolean) (pt_HH 414) ∈ pt_U := List.mem_filter.mpr ⟨pc_in12 _ (List.mem_of_getElem? (i := 20) rfl), rfl⟩
set_option maxRecDepth 100000 in
theorem pc_415 : pz_cw (pt_my 415) prog_14_method_92_code 2 (some .int) (pt_HH 415) ∈ pt_U := List.mem_filter.mpr ⟨pc_in12 _ (List.mem_of_getElem? (i := 24) rfl), rfl⟩
set_option maxRecDepth 100000 in
theorem pc_416 : pz_cw (pt_my 416) prog_14_method_91_code 3 (some .boolean) (pt_HH 416) ∈ pt_U := List.mem_filter.mpr ⟨pc_in12 _ (List.mem_of_getElem? (i := 28) rfl), rfl⟩
set_option maxRecDepth 100000 in
theorem pc_417 : pz_cw (pt_my 417) prog_14_method_90_code 9 none (pt_HH 417) ∈ pt_U := List.mem_filter.mpr ⟨pc_in12 _ (List.mem_of_getElem? (i := 32) rfl), rfl⟩
set_option maxRecDepth 100000 in
theorem pc_418 : pz_cw (pt_my 418) prog_14_method_84_code 4 none (pt_HH 418) ∈ pt_U := List.mem_filter.mpr ⟨pc_in12 _ (List.mem_of_getElem? (i := 36) rfl), rfl⟩
set_option maxRecDepth 100000 in
theorem pc_419 : pz_cw (pt_my 419) prog_14_method_83_code 9 none (pt_HH 419) ∈ pt_U := List.mem_filter.mpr ⟨pc_in12 _ (List.mem_of_getElem? (i := 40) rfl), rfl⟩
set_option maxRecDepth 100000 in
theorem pc_420 : pz_cw (pt_my 420) prog_14_method_75_code 8 (some .long) (pt_HH 420) ∈ pt_U := List.mem_filter.mpr ⟨pc_in12 _ (List.mem_of_getElem? (i := 44) rfl), rfl⟩
set_option maxRecDepth 100000 in
theorem pc_421 : pz_cw (pt_my 421) prog_14_method_77_code 3 (some .int) (pt_HH 421) ∈ pt_U := List.mem_filter.mpr ⟨pc_in12 _ (List.mem_of_getElem? (i := 48) rfl), rfl⟩
set_option maxRecDepth 100000 in
theorem pc_422 : pz_cw (pt_my 422) prog_14_method_78_code 6 none (pt_HH 422) ∈ pt_U := List.mem_filter.mpr ⟨pc_in12 _ (List.mem_of_getElem? (i := 52) rfl), rfl⟩
set_option maxRecDepth 100000 in
theorem pc_423 : pz_cw (pt_my 423) prog_14_method_76_code 3 (some .boolean) (pt_HH 423) ∈ pt_U := List.mem_filter.mpr ⟨pc_in12 _ (List.mem_of_getElem? (i := 55) rfl), rfl⟩
set_option maxRecDepth 100000 in
theorem pc_424 : pz_cw (pt_my 424) prog_14_method_79_code 13 none (pt_HH 424) ∈ pt_U := List.mem_filter.mpr ⟨pc_in12 _ (List.mem_of_getElem? (i := 59) rfl), rfl⟩
set_option maxRecDepth 100000 in
theorem pc_425 : pz_cw (pt_my 425) prog_14_method_80_code 11 none (pt_HH 425) ∈ pt_U := List.mem_filter.mpr ⟨pc_in12 _ (List.mem_of_getElem? (i := 63) rfl), rfl⟩
set_option maxRecDepth 100000 in
theorem pc_426 : pz_cw (pt_my 426) prog_14_method_81_code 15 none (pt_HH 426) ∈ pt_U := List.mem_filter.mpr ⟨pc_in12 _ (List.mem_of_getElem? (i := 67) rfl), rfl⟩
set_option maxRecDepth 100000 in
theorem pc_427 : pz_cw (pt_my 427) prog_14_method_82_code 14 none (pt_HH 427) ∈ pt_U := List.mem_filter.mpr ⟨pc_in12 _ (List.mem_of_getElem? (i := 71) rfl), rfl⟩
set_option maxRecDepth 100000 in
theorem pc_428 : pz_cw (pt_my 428) prog_14_method_87_code 9 none (pt_HH 428) ∈ pt_U := List.mem_filter.mpr ⟨pc_in12 _ (List.mem_of_getElem? (i := 75) rfl), rfl⟩
set_option maxRecDepth 100000 in
theorem pc_429 : pz_cw (pt_my 429) prog_14_method_85_code 5 (some .int) (pt_HH 429) ∈ pt_U := List.mem_filter.mpr ⟨pc_in12 _ (List.mem_of_getElem? (i := 79) rfl), rfl⟩
set_option maxRecDepth 100000 in
theorem pc_430 : pz_cw (pt_my 430) prog_14_method_86_code 9 (some .boolean) (pt_HH 430) ∈ pt_U := List.mem_filter.mpr ⟨pc_in12 _ (List.mem_of_getElem? (i := 83) rfl), rfl⟩
set_option maxRecDepth 100000 in
theorem pc_431 : pz_cw (pt_my 431) prog_14_method_89_code 4 (some .int) (pt_HH 431) ∈ pt_U := List.mem_filter.mpr ⟨pc_in12 _ (List.mem_of_getElem? (i := 87) rfl), rfl⟩
set_option maxRecDepth 100000 in
theorem pc_432 : pz_cw (pt_my 432) prog_14_method_88_code 5 (some .boolean) (pt_HH 432) ∈ pt_U := List.mem_filter.mpr ⟨pc_in12 _ (List.mem_of_getElem? (i := 91) rfl), rfl⟩
set_option maxRecDepth 100000 in
theorem pc_433 : pz_cw (pt_my 433) prog_14_method_94_code 4 (some .int) (pt_HH 433) ∈ pt_U := List.mem_filter.mpr ⟨pc_in12 _ (List.mem_of_getElem? (i := 95) rfl), rfl⟩
set_option maxRecDepth 100000 in
theorem pc_434 : pz_cw (pt_my 434) prog_14_method_93_code 6 (some .int) (pt_HH 434) ∈ pt_U := List.mem_filter.mpr ⟨pc_in12 _ (List.mem_of_getElem? (i := 99) rfl), rfl⟩
set_option maxRecDepth 100000 in
theorem pc_435 : pz_cw (pt_my 435) prog_14_method_95_code 4 (some .int) (pt_HH 435) ∈ pt_U := List.mem_filter.mpr ⟨pc_in12 _ (List.mem_of_getElem? (i := 103) rfl), rfl⟩
set_option maxRecDepth 100000 in
theorem pc_436 : pz_cw (pt_my 436) prog_14_method_96_code 3 (some .int) (pt_HH 436) ∈ pt_U := List.mem_filter.mpr ⟨pc_in12 _ (List.mem_of_getElem? (i := 107) rfl), rfl⟩
set_option maxRecDepth 100000 in
theorem pc_437 : pz_cw (pt_my 437) prog_14_method_101_code 4 (some .int) (pt_HH 437) ∈ pt_U := List.mem_filter.mpr ⟨pc_in12 _ (List.mem_of_getElem? (i := 111) rfl), rfl⟩
set_option maxRecDepth 100000 in
theorem pc_438 : pz_cw (pt_my 438) prog_14_method_100_code 2 (some .boolean) (pt_HH 438) ∈ pt_U := List.mem_filter.mpr ⟨pc_in12 _ (List.mem_of_getElem? (i := 115) rfl), rfl⟩
set_option maxRecDepth 100000 in
theorem pc_439 : pz_cw (pt_my 439) prog_14_method_97_code 6 none (pt_HH 439) ∈ pt_U := List.mem_filter.mpr ⟨pc_in12 _ (List.mem_of_getElem? (i := 119) rfl), rfl⟩
set_option maxRecDepth 100000 in
theorem pc_440 : pz_cw (pt_my 440) prog_14_method_99_code 3 (some .int) (pt_HH 440) ∈ pt_U := List.mem_filter.mpr ⟨pc_in12 _ (List.mem_of_getElem? (i := 123) rfl), rfl⟩
set_option maxRecDepth 100000 in
theorem pc_441 : pz_cw (pt_my 441) prog_14_method_98_code 7 (some .int) (pt_HH 441) ∈ pt_U := List.mem_filter.mpr ⟨pc_in12 _ (List.mem_of_getElem? (i := 127) rfl), rfl⟩
set_option maxRecDepth 100000 in
theorem pc_442 : pz_cw (pt_my 442) prog_14_method_110_code 6 (some .boolean) (pt_HH 442) ∈ pt_U := List.mem_filter.mpr ⟨pc_in12 _ (List.mem_of_getElem? (i := 131) rfl), rfl⟩
set_option maxRecDepth 100000 in
theorem pc_443 : pz_cw (pt_my 443) prog_14_method_104_code 3 none (pt_HH 443) ∈ pt_U := List.mem_filter.mpr ⟨pc_in12 _ (List.mem_of_getElem? (i := 136) rfl), rfl⟩
set_option maxRecDepth 100000 in
theorem pc_444 : pz_cw (pt_my 444) prog_14_method_102_code 3 none (pt_HH 444) ∈ pt_U := List.mem_filter.mpr ⟨pc_in12 _ (List.mem_of_getElem? (i := 140) rfl), rfl⟩
set_option maxRecDepth 100000 in
theorem pc_445 : pz_cw (pt_my 445) prog_14_method_103_code 5 none (pt_HH 445) ∈ pt_U := List.mem_filter.mpr ⟨pc_in12 _ (List.mem_of_getElem? (i := 144) rfl), rfl⟩
set_option maxRecDepth 100000 in
theorem pc_446 : pz_cw (pt_my 446) prog_14_method_109_code 6 (some .boolean) (pt_HH 446) ∈ pt_U := List.mem_filter.mpr ⟨pc_in12 _ (List.mem_of_getElem? (i := 148) rfl), rfl⟩
set_option maxRecDepth 100000 in
theorem pc_447 : pz_cw (pt_my 447) prog_14_method_108_code 6 (some .boolean) (pt_HH 447) ∈ pt_U := List.mem_filter.mpr ⟨pc_in12 _ (List.mem_of_getElem? (i := 152) rfl), rfl⟩
set_option maxRecDepth 100000 in
theorem pc_448 : pz_cw (pt_my 448) prog_14_method_107_code 11 (some .boolean) (pt_HH 448) ∈ pt_U := List.mem_filter.mpr ⟨pc_in12 _ (List.mem_of_getElem? (i := 156) rfl), rfl⟩
set_option maxRecDepth 100000 in
theorem pc_449 : pz_cw (pt_my 449) prog_14_method_105_code 7 (some .int) (pt_HH 449) ∈ pt_U := List.mem_filter.mpr ⟨pc_in12 _ (List.mem_of_getElem? (i := 160) rfl), rfl⟩
set_option maxRecDepth 100000 in
theorem pc_450 : pz_cw (pt_my 450) prog_14_method_106_code 5 (some .boolean) (pt_HH 450) ∈ pt_U := List.mem_filter.mpr ⟨pc_in12 _ (List.mem_of_getElem? (i := 164) rfl), rfl⟩
set_option maxRecDepth 100000 in
theorem pc_451 : pz_cw (pt_my 451) prog_14_method_111_code 4 none (pt_HH 451) ∈ pt_U := List.mem_filter.mpr ⟨pc_in12 _ (List.mem_of_getElem? (i := 168) rfl), rfl⟩
set_option maxRecDepth 100000 in
theorem pc_452 : pz_cw (pt_my 452) prog_14_method_113_code 3 (some .int) (pt_HH 452) ∈ pt_U := List.mem_filter.mpr ⟨pc_in12 _ (List.mem_of_getElem? (i := 172) rfl), rfl⟩
set_option maxRecDepth 100000 in
theorem pc_453 : pz_cw (pt_my 453) prog_14_method_112_code 2 (some .boolean) (pt_HH 453) ∈ pt_U := List.mem_filter.mpr ⟨pc_in12 _ (List.mem_of_getElem? (i := 176) rfl), rfl⟩
set_option maxRecDepth 100000 in
theorem pc_454 : pz_cw (pt_my 454) prog_14_method_114_code 4 none (pt_HH 454) ∈ pt_U := List.mem_filter.mpr ⟨pc_in12 _ (List.mem_of_getElem? (i := 180) rfl), rfl⟩
set_option maxRecDepth 100000 in
theorem pc_455 : pz_cw (pt_my 455) prog_14_method_115_code 3 none (pt_HH 455) ∈ pt_U := List.mem_filter.mpr ⟨pc_in12 _ (List.mem_of_getElem? (i := 184) rfl), rfl⟩
set_option maxRecDepth 100000 in
theorem pc_456 : pz_cw (pt_my 456) prog_14_method_120_code 5 (some .int) (pt_HH 456) ∈ pt_U := List.mem_filter.mpr ⟨pc_in12 _ (List.mem_of_getElem? (i := 188) rfl), rfl⟩
set_option maxRecDepth 100000 in
theorem pc_457 : pz_cw (pt_my 457) prog_14_method_74_code 4 (some .int) (pt_HH 457) ∈ pt_U := List.mem_filter.mpr ⟨pc_in12 _ (List.mem_of_getElem? (i := 192) rfl), rfl⟩
set_option maxRecDepth 100000 in
theorem pc_458 : pz_cw (pt_my 458) prog_14_method_119_code 6 (some .boolean) (pt_HH 458) ∈ pt_U := List.mem_filter.mpr ⟨pc_in12 _ (List.mem_of_getElem? (i := 196) rfl), rfl⟩
set_option maxRecDepth 100000 in
theorem pc_459 : pz_cw (pt_my 459) prog_14_method_117_code 5 (some .int) (pt_HH 459) ∈ pt_U := List.mem_filter.mpr ⟨pc_in12 _ (List.mem_of_getElem? (i := 200) rfl), rfl⟩
set_option maxRecDepth 100000 in
theorem pc_460 : pz_cw (pt_my 460) prog_14_method_116_code 2 (some .boolean) (pt_HH 460) ∈ pt_U := List.mem_filter.mpr ⟨pc_in12 _ (List.mem_of_getElem? (i := 204) rfl), rfl⟩
set_option maxRecDepth 100000 in
theorem pc_461 : pz_cw (pt_my 461) prog_14_method_118_code 3 (some .int) (pt_HH 461) ∈ pt_U := List.mem_filter.mpr ⟨pc_in12 _ (List.mem_of_getElem? (i := 208) rfl), rfl⟩
set_option maxRecDepth 100000 in
theorem pc_462 : pz_cw (pt_my 462) prog_14_method_121_code 3 (some .int) (pt_HH 462) ∈ pt_U := List.mem_filter.mpr ⟨pc_in12 _ (List.mem_of_getElem? (i := 212) rfl), rfl⟩
set_option maxRecDepth 100000 in
theorem pc_463 : pz_cw (pt_my 463) prog_14_method_122_code 6 (some .int) (pt_HH 463) ∈ pt_U := List.mem_filter.mpr ⟨pc_in12 _ (List.mem_of_getElem? (i := 216) rfl), rfl⟩
set_option maxRecDepth 100000 in
theorem pc_464 : pz_cw (pt_my 464) prog_14_method_123_code 2 (some .int) (pt_HH 464) ∈ pt_U := List.mem_filter.mpr ⟨pc_in12 _ (List.mem_of_getElem? (i := 220) rfl), rfl⟩
set_option maxRecDepth 100000 in
theorem pc_465 : pz_cw (pt_my 465) prog_14_method_143_code 2 (some .int) (pt_HH 465) ∈ pt_U := List.mem_filter.mpr ⟨pc_in12 _ (List.mem_of_getElem? (i := 224) rfl), rfl⟩
set_option maxRecDepth 100000 in
theorem pc_466 : pz_cw (pt_my 466) prog_14_method_125_code 1 none (pt_HH 466) ∈ pt_U := List.mem_filter.mpr ⟨pc_in12 _ (List.mem_of_getElem? (i := 228) rfl), rfl⟩
set_option maxRecDepth 100000 in
theorem pc_467 : pz_cw (pt_my 467) prog_14_method_124_code 1 (some .int) (pt_HH 467) ∈ pt_U := List.mem_filter.mpr ⟨pc_in12 _ (List.mem_of_getElem? (i := 232) rfl), rfl⟩
set_option maxRecDepth 100000 in
theorem pc_468 : pz_cw (pt_my 468) prog_14_method_138_code 1 none (pt_HH 468) ∈ pt_U := List.mem_filter.mpr ⟨pc_in12 _ (List.mem_of_getElem? (i := 236) rfl), rfl⟩
set_option maxRecDepth 100000 in
theorem pc_469 : pz_cw (pt_my 469) prog_14_method_126_code 2 none (pt_HH 469) ∈ pt_U := List.mem_filter.mpr ⟨pc_in13 _ (List.mem_of_getElem? (i := 0) rfl), rfl⟩
set_option maxRecDepth 100000 in
theorem pc_470 : pz_cw (pt_my 470) prog_14_method_128_code 1 none (pt_HH 470) ∈ pt_U := List.mem_filter.mpr ⟨pc_in13 _ (List.mem_of_getElem? (i := 4) rfl), rfl⟩
set_option maxRecDepth 100000 in
theorem pc_471 : pz_cw (pt_my 471) prog_14_method_127_code 4 (some .int) (pt_HH 471) ∈ pt_U := List.mem_filter.mpr ⟨pc_in13 _ (List.mem_of_getElem? (i := 8) rfl), rfl⟩
set_option maxRecDepth 100000 in
theorem pc_472 : pz_cw (pt_my 472) prog_14_method_139_code 2 none (pt_HH 472) ∈ pt_U := List.mem_filter.mpr ⟨pc_in13 _ (List.mem_of_getElem? (i := 12) rfl), rfl⟩
set_option maxRecDepth 100000 in
theorem pc_473 : pz_cw (pt_my 473) prog_14_method_140_code 2 none (pt_HH 473) ∈ pt_U := List.mem_filter.mpr ⟨pc_in13 _ (List.mem_of_getElem? (i := 16) rfl), rfl⟩
set_option maxRecDepth 100000 in
theorem pc_474 : pz_cw (pt_my 474) prog_14_method_137_code 4 (some .int) (pt_HH 474) ∈ pt_U := List.mem_filter.mpr ⟨pc_in13 _ (List.mem_of_getElem? (i := 20) rfl), rfl⟩
set_option maxRecDepth 100000 in
theorem pc_475 : pz_cw (pt_my 475) prog_14_method_135_code 2 none (pt_HH 475) ∈ pt_U := List.mem_filter.mpr ⟨pc_in13 _ (List.mem_of_getElem? (i := 24) rfl), rfl⟩
set_option maxRecDepth 100000 in
theorem pc_476 : pz_cw (pt_my 476) prog_14_method_133_code 1 none (pt_HH 476) ∈ pt_U := List.mem_filter.mpr ⟨pc_in13 _ (List.mem_of_getElem? (i := 28) rfl), rfl⟩
set_option maxRecDepth 100000 in
theorem pc_477 : pz_cw (pt_my 477) prog_14_method_131_code 3 none (pt_HH 477) ∈ pt_U := List.mem_filter.mpr ⟨pc_in13 _ (List.mem_of_getElem? (i := 32) rfl), rfl⟩
set_option maxRecDepth 100000 in
theorem pc_478 : pz_cw (pt_my 478) prog_14_method_130_code 1 (some .int) (pt_HH 478) ∈ pt_U := List.mem_filter.mpr ⟨pc_in13 _ (List.mem_of_getElem? (i := 35) rfl), rfl⟩
set_option maxRecDepth 100000 in
theorem pc_479 : pz_cw (pt_my 479) prog_14_method_129_code 4 (some .int) (pt_HH 479) ∈ pt_U := List.mem_filter.mpr ⟨pc_in13 _ (List.mem_of_getElem? (i := 39) rfl), rfl⟩
set_option maxRecDepth 100000 in
theorem pc_480 : pz_cw (pt_my 480) prog_14_method_132_code 3 none (pt_HH 480) ∈ pt_U := List.mem_filter.mpr ⟨pc_in13 _ (List.mem_of_getElem? (i := 43) rfl), rfl⟩
set_option maxRecDepth 100000 in
theorem pc_481 : pz_cw (pt_my 481) prog_14_method_136_code 1 (some .boolean) (pt_HH 481) ∈ pt_U := List.mem_filter.mpr ⟨pc_in13 _ (List.mem_of_getElem? (i := 47) rfl), rfl⟩
set_option maxRecDepth 100000 in
theorem pc_482 : pz_cw (pt_my 482) prog_14_method_134_code 2 none (pt_HH 482) ∈ pt_U := List.mem_filter.mpr ⟨pc_in13 _ (List.mem_of_getElem? (i := 51) rfl), rfl⟩
set_option maxRecDepth 100000 in
theorem pc_483 : pz_cw (pt_my 483) prog_14_method_141_code 3 none (pt_HH 483) ∈ pt_U := List.mem_filter.mpr ⟨pc_in13 _ (List.mem_of_getElem? (i := 55) rfl), rfl⟩
set_option maxRecDepth 100000 in
theorem pc_484 : pz_cw (pt_my 484) prog_14_method_142_code 3 none (pt_HH 484) ∈ pt_U := List.mem_filter.mpr ⟨pc_in13 _ (List.mem_of_getElem? (i := 59) rfl), rfl⟩
set_option maxRecDepth 100000 in
theorem pc_485 : pz_cw (pt_my 485) prog_14_method_148_code 2 none (pt_HH 485) ∈ pt_U := List.mem_filter.mpr ⟨pc_in13 _ (List.mem_of_getElem? (i := 63) rfl), rfl⟩
set_option maxRecDepth 100000 in
theorem pc_486 : pz_cw (pt_my 486) prog_14_method_147_code 3 (some .int) (pt_HH 486) ∈ pt_U := List.mem_filter.mpr ⟨pc_in13 _ (List.mem_of_getElem? (i := 67) rfl), rfl⟩
set_option maxRecDepth 100000 in
theorem pc_487 : pz_cw (pt_my 487) prog_14_method_145_code 1 none (pt_HH 487) ∈ pt_U := List.mem_filter.mpr ⟨pc_in13 _ (List.mem_of_getElem? (i := 71) rfl), rfl⟩
set_option maxRecDepth 100000 in
theorem pc_488 : pz_cw (pt_my 488) prog_14_method_144_code 4 (some .int) (pt_HH 488) ∈ pt_U := List.mem_filter.mpr ⟨pc_in13 _ (List.mem_of_getElem? (i := 75) rfl), rfl⟩
set_option maxRecDepth 100000 in
theorem pc_489 : pz_cw (pt_my 489) prog_14_method_146_code 4 none (pt_HH 489) ∈ pt_U := List.mem_filter.mpr ⟨pc_in13 _ (List.mem_of_getElem? (i := 79) rfl), rfl⟩
set_option maxRecDepth 100000 in
theorem pc_490 : pz_cw (pt_my 490) prog_14_method_151_code 3 (some .int) (pt_HH 490) ∈ pt_U := List.mem_filter.mpr ⟨pc_in13 _ (List.mem_of_getElem? (i := 83) rfl), rfl⟩
set_option maxRecDepth 100000 in
theorem pc_491 : pz_cw (pt_my 491) prog_14_method_149_code 2 none (pt_HH 491) ∈ pt_U := List.mem_filter.mpr ⟨pc_in13 _ (List.mem_of_getElem? (i := 87) rfl), rfl⟩
set_option maxRecDepth 100000 in
theorem pc_492 : pz_cw (pt_my 492) prog_14_method_150_code 2 none (pt_HH 492) ∈ pt_U := List.mem_filter.mpr ⟨pc_in13 _ (List.mem_of_getElem? (i := 91) rfl), rfl⟩
set_option maxRecDepth 100000 in
theorem pc_493 : pz_cw (pt_my 493) prog_14_method_152_code 2 (some .int) (pt_HH 493) ∈ pt_U := List.mem_filter.mpr ⟨pc_in13 _ (List.mem_of_getElem? (i := 95) rfl), rfl⟩
set_option maxRecDepth 100000 in
theorem pc_r0 : ∀ r ∈ ((pt_mL.getD 0 []).zipIdx), pz_cw (pt_my (16 * 0 + r.2)) r.1.2.1 r.1.2.2.1 r.1.2.2.2.2.1 (pt_HH (16 * 0 + r.2)) ∈ pt_U := List.forall_mem_cons.mpr ⟨pc_0, List.forall_mem_cons.mpr ⟨pc_1, List.forall_mem_cons.mpr ⟨pc_2, List.forall_mem_cons.mpr ⟨pc_3, List.forall_mem_cons.mpr ⟨pc_4, List.forall_mem_cons.mpr ⟨pc_5, List.forall_mem_cons.mpr ⟨pc_6, List.forall_mem_cons.mpr ⟨pc_7, List.forall_mem_cons.mpr ⟨pc_8, List.forall_mem_cons.mpr ⟨pc_9, List.forall_mem_cons.mpr ⟨pc_10, List.forall_mem_cons.mpr ⟨pc_11, List.forall_mem_cons.mpr ⟨pc_12, List.forall_mem_cons.mpr ⟨pc_13, List.forall_mem_cons.mpr ⟨pc_14, List.forall_mem_cons.mpr ⟨pc_15, fun _ h => nomatch h⟩⟩⟩⟩⟩⟩⟩⟩⟩⟩⟩⟩⟩⟩⟩⟩
set_option maxRecDepth 100000 in
theorem pc_r1 : ∀ r ∈ ((pt_mL.getD 1 []).zipIdx), pz_cw (pt_my (16 * 1 + r.2)) r.1.2.1 r.1.2.2.1 r.1.2.2.2.2.1 (pt_HH (16 * 1 + r.2)) ∈ pt_U := List.forall_mem_cons.mpr ⟨pc_16, List.forall_mem_cons.mpr ⟨pc_17, List.forall_mem_cons.mpr ⟨pc_18, List.forall_mem_cons.mpr ⟨pc_19, List.forall_mem_cons.mpr ⟨pc_20, List.forall_mem_cons.mpr ⟨pc_21, List.forall_mem_cons.mpr ⟨pc_22, List.forall_mem_cons.mpr ⟨pc_23, List.forall_mem_cons.mpr ⟨pc_24, List.forall_mem_cons.mpr ⟨pc_25, List.forall_mem_cons.mpr ⟨pc_26, List.forall_mem_cons.mpr ⟨pc_27, List.forall_mem_cons.mpr ⟨pc_28, List.forall_mem_cons.mpr ⟨pc_29, List.forall_mem_cons.mpr ⟨pc_30, List.forall_mem_cons.mpr ⟨pc_31, fun _ h => nomatch h⟩⟩⟩⟩⟩⟩⟩⟩⟩⟩⟩⟩⟩⟩⟩⟩
set_option maxRecDepth 100000 in
theorem pc_r2 : ∀ r ∈ ((pt_mL.getD 2 []).zipIdx), pz_cw (pt_my (16 * 2 + r.2)) r.1.2.1 r.1.2.2.1 r.1.2.2.2.2.1 (pt_HH (16 * 2 + r.2)) ∈ pt_U := List.forall_mem_cons.mpr ⟨pc_32, List.forall_mem_cons.mpr ⟨pc_33, List.forall_mem_cons.mpr ⟨pc_34, List.forall_mem_cons.mpr ⟨pc_35, List.forall_mem_cons.mpr ⟨pc_36, List.forall_mem_cons.mpr ⟨pc_37, List.forall_mem_cons.mpr ⟨pc_38, List.forall_mem_cons.mpr ⟨pc_39, List.forall_mem_cons.mpr ⟨pc_40, List.forall_mem_cons.mpr ⟨pc_41, List.forall_mem_cons.mpr ⟨pc_42, List.forall_mem_cons.mpr ⟨pc_43, List.forall_mem_cons.mpr ⟨pc_44, List.forall_mem_cons.mpr ⟨pc_45, List.forall_mem_cons.mpr ⟨pc_46, List.forall_mem_cons.mpr ⟨pc_47, fun _ h => nomatch h⟩⟩⟩⟩⟩⟩⟩⟩⟩⟩⟩⟩⟩⟩⟩⟩
set_option maxRecDepth 100000 in
theorem pc_r3 : ∀ r ∈ ((pt_mL.getD 3 []).zipIdx), pz_cw (pt_my (16 * 3 + r.2)) r.1.2.1 r.1.2.2.1 r.1.2.2.2.2.1 (pt_HH (16 * 3 + r.2)) ∈ pt_U := List.forall_mem_cons.mpr ⟨pc_48, List.forall_mem_cons.mpr ⟨pc_49, List.forall_mem_cons.mpr ⟨pc_50, List.forall_mem_cons.mpr ⟨pc_51, List.forall_mem_cons.mpr ⟨pc_52, List.forall_mem_cons.mpr ⟨pc_53, List.forall_mem_cons.mpr ⟨pc_54, List.forall_mem_cons.mpr ⟨pc_55, List.forall_mem_cons.mpr ⟨pc_56, List.forall_mem_cons.mpr ⟨pc_57, List.forall_mem_cons.mpr ⟨pc_58, List.forall_mem_cons.mpr ⟨pc_59, List.forall_mem_cons.mpr ⟨pc_60, List.forall_mem_cons.mpr ⟨pc_61, List.forall_mem_cons.mpr ⟨pc_62, List.forall_mem_cons.mpr ⟨pc_63, fun _ h => nomatch h⟩⟩⟩⟩⟩⟩⟩⟩⟩⟩⟩⟩⟩⟩⟩⟩
set_option maxRecDepth 100000 in
theorem pc_r4 : ∀ r ∈ ((pt_mL.getD 4 []).zipIdx), pz_cw (pt_my (16 * 4 + r.2)) r.1.2.1 r.1.2.2.1 r.1.2.2.2.2.1 (pt_HH (16 * 4 + r.2)) ∈ pt_U := List.forall_mem_cons.mpr ⟨pc_64, List.forall_mem_cons.mpr ⟨pc_65, List.forall_mem_cons.mpr ⟨pc_66, List.forall_mem_cons.mpr ⟨pc_67, List.forall_mem_cons.mpr ⟨pc_68, List.forall_mem_cons.mpr ⟨pc_69, List.forall_mem_cons.mpr ⟨pc_70, List.forall_mem_cons.mpr ⟨pc_71, List.forall_mem_cons.mpr ⟨pc_72, List.forall_mem_cons.mpr ⟨pc_73, List.forall_mem_cons.mpr ⟨pc_74, List.forall_mem_cons.mpr ⟨pc_75, List.forall_mem_cons.mpr ⟨pc_76, List.forall_mem_cons.mpr ⟨pc_77, List.forall_mem_cons.mpr ⟨pc_78, List.forall_mem_cons.mpr ⟨pc_79, fun _ h => nomatch h⟩⟩⟩⟩⟩⟩⟩⟩⟩⟩⟩⟩⟩⟩⟩⟩
set_option maxRecDepth 100000 in
theorem pc_r5 : ∀ r ∈ ((pt_mL.getD 5 []).zipIdx), pz_cw (pt_my (16 * 5 + r.2)) r.1.2.1 r.1.2.2.1 r.1.2.2.2.2.1 (pt_HH (16 * 5 + r.2)) ∈ pt_U := List.forall_mem_cons.mpr ⟨pc_80, List.forall_mem_cons.mpr ⟨pc_81, List.forall_mem_cons.mpr ⟨pc_82, List.forall_mem_cons.mpr ⟨pc_83, List.forall_mem_cons.mpr ⟨pc_84, List.forall_mem_cons.mpr ⟨pc_85, List.forall_mem_cons.mpr ⟨pc_86, List.forall_mem_cons.mpr ⟨pc_87, List.forall_mem_cons.mpr ⟨pc_88, List.forall_mem_cons.mpr ⟨pc_89, List.forall_mem_cons.mpr ⟨pc_90, List.forall_mem_cons.mpr ⟨pc_91, List.forall_mem_cons.mpr ⟨pc_92, List.forall_mem_cons.mpr ⟨pc_93, List.forall_mem_cons.mpr ⟨pc_94, List.forall_mem_cons.mpr ⟨pc_95, fun _ h => nomatch h⟩⟩⟩⟩⟩⟩⟩⟩⟩⟩⟩⟩⟩⟩⟩⟩
set_option maxRecDepth 100000 in
theorem pc_r6 : ∀ r ∈ ((pt_mL.getD 6 []).zipIdx), pz_cw (pt_my (16 * 6 + r.2)) r.1.2.1 r.1.2.2.1 r.1.2.2.2.2.1 (pt_HH (16 * 6 + r.2)) ∈ pt_U := List.forall_mem_cons.mpr ⟨pc_96, List.forall_mem_cons.mpr ⟨pc_97, List.forall_mem_cons.mpr ⟨pc_98, List.forall_mem_cons.mpr ⟨pc_99, List.forall_mem_cons.mpr ⟨pc_100, List.forall_mem_cons.mpr ⟨pc_101, List.forall_mem_cons.mpr ⟨pc_102, List.forall_mem_cons.mpr ⟨pc_103, List.forall_mem_cons.mpr ⟨pc_104, List.forall_mem_cons.mpr ⟨pc_105, List.forall_mem_cons.mpr ⟨pc_106, List.forall_mem_cons.mpr ⟨pc_107, List.forall_mem_cons.mpr ⟨pc_108, List.forall_mem_cons.mpr ⟨pc_109, List.forall_mem_cons.mpr ⟨pc_110, List.forall_mem_cons.mpr ⟨pc_111, fun _ h => nomatch h⟩⟩⟩⟩⟩⟩⟩⟩⟩⟩⟩⟩⟩⟩⟩⟩
set_option maxRecDepth 100000 in
theorem pc_r7 : ∀ r ∈ ((pt_mL.getD 7 []).zipIdx), pz_cw (pt_my (16 * 7 + r.2)) r.1.2.1 r.1.2.2.1 r.1.2.2.2.2.1 (pt_HH (16 * 7 + r.2)) ∈ pt_U := List.forall_mem_cons.mpr ⟨pc_112, List.forall_mem_cons.mpr ⟨pc_113, List.forall_mem_cons.mpr ⟨pc_114, List.forall_mem_cons.mpr ⟨pc_115, List.forall_mem_cons.mpr ⟨pc_116, List.forall_mem_cons.mpr ⟨pc_117, List.forall_mem_cons.mpr ⟨pc_118, List.forall_mem_cons.mpr ⟨pc_119, List.forall_mem_cons.mpr ⟨pc_120, List.forall_mem_cons.mpr ⟨pc_121, List.forall_mem_cons.mpr ⟨pc_122, List.forall_mem_cons.mpr ⟨pc_123, List.forall_mem_cons.mpr ⟨pc_124, List.forall_mem_cons.mpr ⟨pc_125, List.forall_mem_cons.mpr ⟨pc_126, List.forall_mem_cons.mpr ⟨pc_127, fun _ h => nomatch h⟩⟩⟩⟩⟩⟩⟩⟩⟩⟩⟩⟩⟩⟩⟩⟩
set_option maxRecDepth 100000 in
theorem pc_r8 : ∀ r ∈ ((pt_mL.getD 8 []).zipIdx), pz_cw (pt_my (16 * 8 + r.2)) r.1.2.1 r.1.2.2.1 r.1.2.2.2.2.1 (pt_HH (16 * 8 + r.2)) ∈ pt_U := List.forall_mem_cons.mpr ⟨pc_128, List.forall_mem_cons.mpr ⟨pc_129, List.forall_mem_cons.mpr ⟨pc_130, List.forall_mem_cons.mpr ⟨pc_131, List.forall_mem_cons.mpr ⟨pc_132, List.forall_mem_cons.mpr ⟨pc_133, List.forall_mem_cons.mpr ⟨pc_134, List.forall_mem_cons.mpr ⟨pc_135, List.forall_mem_cons.mpr ⟨pc_136, List.forall_mem_cons.mpr ⟨pc_137, List.forall_mem_cons.mpr ⟨pc_138, List.forall_mem_cons.mpr ⟨pc_139, List.forall_mem_cons.mpr ⟨pc_140, List.forall_mem_cons.mpr ⟨pc_141, List.forall_mem_cons.mpr ⟨pc_142, List.forall_mem_cons.mpr ⟨pc_143, fun _ h => nomatch h⟩⟩⟩⟩⟩⟩⟩⟩⟩⟩⟩⟩⟩⟩⟩⟩
set_option maxRecDepth 100000 in
theorem pc_r9 : ∀ r ∈ ((pt_mL.getD 9 []).zipIdx), pz_cw (pt_my (16 * 9 + r.2)) r.1.2.1 r.1.2.2.1 r.1.2.2.2.2.1 (pt_HH (16 * 9 + r.2)) ∈ pt_U := List.forall_mem_cons.mpr ⟨pc_144, List.forall_mem_cons.mpr ⟨pc_145, List.forall_mem_cons.mpr ⟨pc_146, List.forall_mem_cons.mpr ⟨pc_147, List.forall_mem_cons.mpr ⟨pc_148, List.forall_mem_cons.mpr ⟨pc_149, List.forall_mem_cons.mpr ⟨pc_150, List.forall_mem_cons.mpr ⟨pc_151, List.forall_mem_cons.mpr ⟨pc_152, List.forall_mem_cons.mpr ⟨pc_153, List.forall_mem_cons.mpr ⟨pc_154, List.forall_mem_cons.mpr ⟨pc_155, List.forall_mem_cons.mpr ⟨pc_156, List.forall_mem_cons.mpr ⟨pc_157, List.forall_mem_cons.mpr ⟨pc_158, List.forall_mem_cons.mpr ⟨pc_159, fun _ h => nomatch h⟩⟩⟩⟩⟩⟩⟩⟩⟩⟩⟩⟩⟩⟩⟩⟩
set_option maxRecDepth 100000 in
theorem pc_r10 : ∀ r ∈ ((pt_mL.getD 10 []).zipIdx), pz_cw (pt_my (16 * 10 + r.2)) r.1.2.1 r.1.2.2.1 r.1.2.2.2.2.1 (pt_HH (16 * 10 + r.2)) ∈ pt_U := List.forall_mem_cons.mpr ⟨pc_160, List.forall_mem_cons.mpr ⟨pc_161, List.forall_mem_cons.mpr ⟨pc_162, List.forall_mem_cons.mpr ⟨pc_163, List.forall_mem_cons.mpr ⟨pc_164, List.forall_mem_cons.mpr ⟨pc_165, List.forall_mem_cons.mpr ⟨pc_166, List.forall_mem_cons.mpr ⟨pc_167, List.forall_mem_cons.mpr ⟨pc_168, List.forall_mem_cons.mpr ⟨pc_169, List.forall_mem_cons.mpr ⟨pc_170, List.forall_mem_cons.mpr ⟨pc_171, List.forall_mem_cons.mpr ⟨pc_172, List.forall_mem_cons.mpr ⟨pc_173, List.forall_mem_cons.mpr ⟨pc_174, List.forall_mem_cons.mpr ⟨pc_175, fun _ h => nomatch h⟩⟩⟩⟩⟩⟩⟩⟩⟩⟩⟩⟩⟩⟩⟩⟩
set_option maxRecDepth 100000 in
theorem pc_r11 : ∀ r ∈ ((pt_mL.getD 11 []).zipIdx), pz_cw (pt_my (16 * 11 + r.2)) r.1.2.1 r.1.2.2.1 r.1.2.2.2.2.1 (pt_HH (16 * 11 + r.2)) ∈ pt_U := List.forall_mem_cons.mpr ⟨pc_176, List.forall_mem_cons.mpr ⟨pc_177, List.forall_mem_cons.mpr ⟨pc_178, List.forall_mem_cons.mpr ⟨pc_179, List.forall_mem_cons.mpr ⟨pc_180, List.forall_mem_cons.mpr ⟨pc_181, List.forall_mem_cons.mpr ⟨pc_182, List.forall_mem_cons.mpr ⟨pc_183, List.forall_mem_cons.mpr ⟨pc_184, List.forall_mem_cons.mpr ⟨pc_185, List.forall_mem_cons.mpr ⟨pc_186, List.forall_mem_cons.mpr ⟨pc_187, List.forall_mem_cons.mpr ⟨pc_188, List.forall_mem_cons.mpr ⟨pc_189, List.forall_mem_cons.mpr ⟨pc_190, List.forall_mem_cons.mpr ⟨pc_191, fun _ h => nomatch h⟩⟩⟩⟩⟩⟩⟩⟩⟩⟩⟩⟩⟩⟩⟩⟩
set_option maxRecDepth 100000 in
theorem pc_r12 : ∀ r ∈ ((pt_mL.getD 12 []).zipIdx), pz_cw (pt_my (16 * 12 + r.2)) r.1.2.1 r.1.2.2.1 r.1.2.2.2.2.1 (pt_HH (16 * 12 + r.2)) ∈ pt_U := List.forall_mem_cons.mpr ⟨pc_192, List.forall_mem_cons.mpr ⟨pc_193, List.forall_mem_cons.mpr ⟨pc_194, List.forall_mem_cons.mpr ⟨pc_195, List.forall_mem_cons.mpr ⟨pc_196, List.forall_mem_cons.mpr ⟨pc_197, List.forall_mem_cons.mpr ⟨pc_198, List.forall_mem_cons.mpr ⟨pc_199, List.forall_mem_cons.mpr ⟨pc_200, List.forall_mem_cons.mpr ⟨pc_201, List.forall_mem_cons.mpr ⟨pc_202, List.forall_mem_cons.mpr ⟨pc_203, List.forall_mem_cons.mpr ⟨pc_204, List.forall_mem_cons.mpr ⟨pc_205, List.forall_mem_cons.mpr ⟨pc_206, List.forall_mem_cons.mpr ⟨pc_207, fun _ h => nomatch h⟩⟩⟩⟩⟩⟩⟩⟩⟩⟩⟩⟩⟩⟩⟩⟩
set_option maxRecDepth 100000 in
theorem pc_r13 : ∀ r ∈ ((pt_mL.getD 13 []).zipIdx), pz_cw (pt_my (16 * 13 + r.2)) r.1.2.1 r.1.2.2.1 r.1.2.2.2.2.1 (pt_HH (16 * 13 + r.2)) ∈ pt_U := List.forall_mem_cons.mpr ⟨pc_208, List.forall_mem_cons.mpr ⟨pc_209, List.forall_mem_cons.mpr ⟨pc_210, List.forall_mem_cons.mpr ⟨pc_211, List.forall_mem_cons.mpr ⟨pc_212, List.forall_mem_cons.mpr ⟨pc_213, List.forall_mem_cons.mpr ⟨pc_214, List.forall_mem_cons.mpr ⟨pc_215, List.forall_mem_cons.mpr ⟨pc_216, List.forall_mem_cons.mpr ⟨pc_217, List.forall_mem_cons.mpr ⟨pc_218, List.forall_mem_cons.mpr ⟨pc_219, List.forall_mem_cons.mpr ⟨pc_220, List.forall_mem_cons.mpr ⟨pc_221, List.forall_mem_cons.mpr ⟨pc_222, List.forall_mem_cons.mpr ⟨pc_223, fun _ h => nomatch h⟩⟩⟩⟩⟩⟩⟩⟩⟩⟩⟩⟩⟩⟩⟩⟩
set_option maxRecDepth 100000 in
theorem pc_r14 : ∀ r ∈ ((pt_mL.getD 14 []).zipIdx), pz_cw (pt_my (16 * 14 + r.2)) r.1.2.1 r.1.2.2.1 r.1.2.2.2.2.1 (pt_HH (16 * 14 + r.2)) ∈ pt_U := List.forall_mem_cons.mpr ⟨pc_224, List.forall_mem_cons.mpr ⟨pc_225, List.forall_mem_cons.mpr ⟨pc_226, List.forall_mem_cons.mpr ⟨pc_227, List.forall_mem_cons.mpr ⟨pc_228, List.forall_mem_cons.mpr ⟨pc_229, List.forall_mem_cons.mpr ⟨pc_230, List.forall_mem_cons.mpr ⟨pc_231, List.forall_mem_cons.mpr ⟨pc_232, List.forall_mem_cons.mpr ⟨pc_233, List.forall_mem_cons.mpr ⟨pc_234, List.forall_mem_cons.mpr ⟨pc_235, List.forall_mem_cons.mpr ⟨pc_236, List.forall_mem_cons.mpr ⟨pc_237, List.forall_mem_cons.mpr ⟨pc_238, List.forall_mem_cons.mpr ⟨pc_239, fun _ h => nomatch h⟩⟩⟩⟩⟩⟩⟩⟩⟩⟩⟩⟩⟩⟩⟩⟩
set_option maxRecDepth 100000 in
theorem pc_r15 : ∀ r ∈ ((pt_mL.getD 15 []).zipIdx), pz_cw (pt_my (16 * 15 + r.2)) r.1.2.1 r.1.2.2.1 r.1.2.2.2.2.1 (pt_HH (16 * 15 + r.2)) ∈ pt_U := List.forall_mem_cons.mpr ⟨pc_240, List.forall_mem_cons.mpr ⟨pc_241, List.forall_mem_cons.mpr ⟨pc_242, List.forall_mem_cons.mpr ⟨pc_243, List.forall_mem_cons.mpr ⟨pc_244, List.forall_mem_cons.mpr ⟨pc_245, List.forall_mem_cons.mpr ⟨pc_246, List.forall_mem_cons.mpr ⟨pc_247, List.forall_mem_cons.mpr ⟨pc_248, List.forall_mem_cons.mpr ⟨pc_249, List.forall_mem_cons.mpr ⟨pc_250, List.forall_mem_cons.mpr ⟨pc_251, List.forall_mem_cons.mpr ⟨pc_252, List.forall_mem_cons.mpr ⟨pc_253, List.forall_mem_cons.mpr ⟨pc_254, List.forall_mem_cons.mpr ⟨pc_255, fun _ h => nomatch h⟩⟩⟩⟩⟩⟩⟩⟩⟩⟩⟩⟩⟩⟩⟩⟩
set_option maxRecDepth 100000 in
theorem pc_r16 : ∀ r ∈ ((pt_mL.getD 16 []).zipIdx), pz_cw (pt_my (16 * 16 + r.2)) r.1.2.1 r.1.2.2.1 r.1.2.2.2.2.1 (pt_HH (16 * 16 + r.2)) ∈ pt_U := List.forall_mem_cons.mpr ⟨pc_256, List.forall_mem_cons.mpr ⟨pc_257, List.forall_mem_cons.mpr ⟨pc_258, List.forall_mem_cons.mpr ⟨pc_259, List.forall_mem_cons.mpr ⟨pc_260, List.forall_mem_cons.mpr ⟨pc_261, List.forall_mem_cons.mpr ⟨pc_262, List.forall_mem_cons.mpr ⟨pc_263, List.forall_mem_cons.mpr ⟨pc_264, List.forall_mem_cons.mpr ⟨pc_265, List.forall_mem_cons.mpr ⟨pc_266, List.forall_mem_cons.mpr ⟨pc_267, List.forall_mem_cons.mpr ⟨pc_268, List.forall_mem_cons.mpr ⟨pc_269, List.forall_mem_cons.mpr ⟨pc_270, List.forall_mem_cons.mpr ⟨pc_271, fun _ h => nomatch h⟩⟩⟩⟩⟩⟩⟩⟩⟩⟩⟩⟩⟩⟩⟩⟩
set_option maxRecDepth 100000 in
theorem pc_r17 : ∀ r ∈ ((pt_mL.getD 17 []).zipIdx), pz_cw (pt_my (16 * 17 + r.2)) r.1.2.1 r.1.2.2.1 r.1.2.2.2.2.1 (pt_HH (16 * 17 + r.2)) ∈ pt_U := List.forall_mem_cons.mpr ⟨pc_272, List.forall_mem_cons.mpr ⟨pc_273, List.forall_mem_cons.mpr ⟨pc_274, List.forall_mem_cons.mpr ⟨pc_275, List.forall_mem_cons.mpr ⟨pc_276, List.forall_mem_cons.mpr ⟨pc_277, List.forall_mem_cons.mpr ⟨pc_278, List.forall_mem_cons.mpr ⟨pc_279, List.forall_mem_cons.mpr ⟨pc_280, List.forall_mem_cons.mpr ⟨pc_281, List.forall_mem_cons.mpr ⟨pc_282, List.forall_mem_cons.mpr ⟨pc_283, List.forall_mem_cons.mpr ⟨pc_284, List.forall_mem_cons.mpr ⟨pc_285, List.forall_mem_cons.mpr ⟨pc_286, List.forall_mem_cons.mpr ⟨pc_287, fun _ h => nomatch h⟩⟩⟩⟩⟩⟩⟩⟩⟩⟩⟩⟩⟩⟩⟩⟩
set_option maxRecDepth 100000 in
theorem pc_r18 : ∀ r ∈ ((pt_mL.getD 18 []).zipIdx), pz_cw (pt_my (16 * 18 + r.2)) r.1.2.1 r.1.2.2.1 r.1.2.2.2.2.1 (pt_HH (16 * 18 + r.2)) ∈ pt_U := List.forall_mem_cons.mpr ⟨pc_288, List.forall_mem_cons.mpr ⟨pc_289, List.forall_mem_cons.mpr ⟨pc_290, List.forall_mem_cons.mpr ⟨pc_291, List.forall_mem_cons.mpr ⟨pc_292, List.forall_mem_cons.mpr ⟨pc_293, List.forall_mem_cons.mpr ⟨pc_294, List.forall_mem_cons.mpr ⟨pc_295, List.forall_mem_cons.mpr ⟨pc_296, List.forall_mem_cons.mpr ⟨pc_297, List.forall_mem_cons.mpr ⟨pc_298, List.forall_mem_cons.mpr ⟨pc_299, List.forall_mem_cons.mpr ⟨pc_300, List.forall_mem_cons.mpr ⟨pc_301, List.forall_mem_cons.mpr ⟨pc_302, List.forall_mem_cons.mpr ⟨pc_303, fun _ h => nomatch h⟩⟩⟩⟩⟩⟩⟩⟩⟩⟩⟩⟩⟩⟩⟩⟩
set_option maxRecDepth 100000 in
theorem pc_r19 : ∀ r ∈ ((pt_mL.getD 19 []).zipIdx), pz_cw (pt_my (16 * 19 + r.2)) r.1.2.1 r.1.2.2.1 r.1.2.2.2.2.1 (pt_HH (16 * 19 + r.2)) ∈ pt_U := List.forall_mem_cons.mpr ⟨pc_304, List.forall_mem_cons.mpr ⟨pc_305, List.forall_mem_cons.mpr ⟨pc_306, List.forall_mem_cons.mpr ⟨pc_307, List.forall_mem_cons.mpr ⟨pc_308, List.forall_mem_cons.mpr ⟨pc_309, List.forall_mem_cons.mpr ⟨pc_310, List.forall_mem_cons.mpr ⟨pc_311, List.forall_mem_cons.mpr ⟨pc_312, List.forall_mem_cons.mpr ⟨pc_313, List.forall_mem_cons.mpr ⟨pc_314, List.forall_mem_cons.mpr ⟨pc_315, List.forall_mem_cons.mpr ⟨pc_316, List.forall_mem_cons.mpr ⟨pc_317, List.forall_mem_cons.mpr ⟨pc_318, List.forall_mem_cons.mpr ⟨pc_319, fun _ h => nomatch h⟩⟩⟩⟩⟩⟩⟩⟩⟩⟩⟩⟩⟩⟩⟩⟩
set_option maxRecDepth 100000 in
theorem pc_r20 : ∀ r ∈ ((pt_mL.getD 20 []).zipIdx), pz_cw (pt_my (16 * 20 + r.2)) r.1.2.1 r.1.2.2.1 r.1.2.2.2.2.1 (pt_HH (16 * 20 + r.2)) ∈ pt_U := List.forall_mem_cons.mpr ⟨pc_320, List.forall_mem_cons.mpr ⟨pc_321, List.forall_mem_cons.mpr ⟨pc_322, List.forall_mem_cons.mpr ⟨pc_323, List.forall_mem_cons.mpr ⟨pc_324, List.forall_mem_cons.mpr ⟨pc_325, List.forall_mem_cons.mpr ⟨pc_326, List.forall_mem_cons.mpr ⟨pc_327, List.forall_mem_cons.mpr ⟨pc_328, List.forall_mem_cons.mpr ⟨pc_329, List.forall_mem_cons.mpr ⟨pc_330, List.forall_mem_cons.mpr ⟨pc_331, List.forall_mem_cons.mpr ⟨pc_332, List.forall_mem_cons.mpr ⟨pc_333, List.forall_mem_cons.mpr ⟨pc_334, List.forall_mem_cons.mpr ⟨pc_335, fun _ h => nomatch h⟩⟩⟩⟩⟩⟩⟩⟩⟩⟩⟩⟩⟩⟩⟩⟩
set_option maxRecDepth 100000 in
theorem pc_r21 : ∀ r ∈ ((pt_mL.getD 21 []).zipIdx), pz_cw (pt_my (16 * 21 + r.2)) r.1.2.1 r.1.2.2.1 r.1.2.2.2.2.1 (pt_HH (16 * 21 + r.2)) ∈ pt_U := List.forall_mem_cons.mpr ⟨pc_336, List.forall_mem_cons.mpr ⟨pc_337, List.forall_mem_cons.mpr ⟨pc_338, List.forall_mem_cons.mpr ⟨pc_339, List.forall_mem_cons.mpr ⟨pc_340, List.forall_mem_cons.mpr ⟨pc_341, List.forall_mem_cons.mpr ⟨pc_342, List.forall_mem_cons.mpr ⟨pc_343, List.forall_mem_cons.mpr ⟨pc_344, List.forall_mem_cons.mpr ⟨pc_345, List.forall_mem_cons.mpr ⟨pc_346, List.forall_mem_cons.mpr ⟨pc_347, List.forall_mem_cons.mpr ⟨pc_348, List.forall_mem_cons.mpr ⟨pc_349, List.forall_mem_cons.mpr ⟨pc_350, List.forall_mem_cons.mpr ⟨pc_351, fun _ h => nomatch h⟩⟩⟩⟩⟩⟩⟩⟩⟩⟩⟩⟩⟩⟩⟩⟩
set_option maxRecDepth 100000 in
theorem pc_r22 : ∀ r ∈ ((pt_mL.getD 22 []).zipIdx), pz_cw (pt_my (16 * 22 + r.2)) r.1.2.1 r.1.2.2.1 r.1.2.2.2.2.1 (pt_HH (16 * 22 + r.2)) ∈ pt_U := List.forall_mem_cons.mpr ⟨pc_352, List.forall_mem_cons.mpr ⟨pc_353, List.forall_mem_cons.mpr ⟨pc_354, List.forall_mem_cons.mpr ⟨pc_355, List.forall_mem_cons.mpr ⟨pc_356, List.forall_mem_cons.mpr ⟨pc_357, List.forall_mem_cons.mpr ⟨pc_358, List.forall_mem_cons.mpr ⟨pc_359, List.forall_mem_cons.mpr ⟨pc_360, List.forall_mem_cons.mpr ⟨pc_361, List.forall_mem_cons.mpr ⟨pc_362, List.forall_mem_cons.mpr ⟨pc_363, List.forall_mem_cons.mpr ⟨pc_364, List.forall_mem_cons.mpr ⟨pc_365, List.forall_mem_cons.mpr ⟨pc_366, List.forall_mem_cons.mpr ⟨pc_367, fun _ h => nomatch h⟩⟩⟩⟩⟩⟩⟩⟩⟩⟩⟩⟩⟩⟩⟩⟩
set_option maxRecDepth 100000 in
theorem pc_r23 : ∀ r ∈ ((pt_mL.getD 23 []).zipIdx), pz_cw (pt_my (16 * 23 + r.2)) r.1.2.1 r.1.2.2.1 r.1.2.2.2.2.1 (pt_HH (16 * 23 + r.2)) ∈ pt_U := List.forall_mem_cons.mpr ⟨pc_368, List.forall_mem_cons.mpr ⟨pc_369, List.forall_mem_cons.mpr ⟨pc_370, List.forall_mem_cons.mpr ⟨pc_371, List.forall_mem_cons.mpr ⟨pc_372, List.forall_mem_cons.mpr ⟨pc_373, List.forall_mem_cons.mpr ⟨pc_374, List.forall_mem_cons.mpr ⟨pc_375, List.forall_mem_cons.mpr ⟨pc_376, List.forall_mem_cons.mpr ⟨pc_377, List.forall_mem_cons.mpr ⟨pc_378, List.forall_mem_cons.mpr ⟨pc_379, List.forall_mem_cons.mpr ⟨pc_380, List.forall_mem_cons.mpr ⟨pc_381, List.forall_mem_cons.mpr ⟨pc_382, List.forall_mem_cons.mpr ⟨pc_383, fun _ h => nomatch h⟩⟩⟩⟩⟩⟩⟩⟩⟩⟩⟩⟩⟩⟩⟩⟩
set_option maxRecDepth 100000 in
theorem pc_r24 : ∀ r ∈ ((pt_mL.getD 24 []).zipIdx), pz_cw (pt_my (16 * 24 + r.2)) r.1.2.1 r.1.2.2.1 r.1.2.2.2.2.1 (pt_HH (16 * 24 + r.2)) ∈ pt_U := List.forall_mem_cons.mpr ⟨pc_384, List.forall_mem_cons.mpr ⟨pc_385, List.forall_mem_cons.mpr ⟨pc_386, List.forall_mem_cons.mpr ⟨pc_387, List.forall_mem_cons.mpr ⟨pc_388, List.forall_mem_cons.mpr ⟨pc_389, List.forall_mem_cons.mpr ⟨pc_390, List.forall_mem_cons.mpr ⟨pc_391, List.forall_mem_cons.mpr ⟨pc_392, List.forall_mem_cons.mpr ⟨pc_393, List.forall_mem_cons.mpr ⟨pc_394, List.forall_mem_cons.mpr ⟨pc_395, List.forall_mem_cons.mpr ⟨pc_396, List.forall_mem_cons.mpr ⟨pc_397, List.forall_mem_cons.mpr ⟨pc_398, List.forall_mem_cons.mpr ⟨pc_399, fun _ h => nomatch h⟩⟩⟩⟩⟩⟩⟩⟩⟩⟩⟩⟩⟩⟩⟩⟩
set_option maxRecDepth 100000 in
theorem pc_r25 : ∀ r ∈ ((pt_mL.getD 25 []).zipIdx), pz_cw (pt_my (16 * 25 + r.2)) r.1.2.1 r.1.2.2.1 r.1.2.2.2.2.1 (pt_HH (16 * 25 + r.2)) ∈ pt_U := List.forall_mem_cons.mpr ⟨pc_400, List.forall_mem_cons.mpr ⟨pc_401, List.forall_mem_cons.mpr ⟨pc_402, List.forall_mem_cons.mpr ⟨pc_403, List.forall_mem_cons.mpr ⟨pc_404, List.forall_mem_cons.mpr ⟨pc_405, List.forall_mem_cons.mpr ⟨pc_406, List.forall_mem_cons.mpr ⟨pc_407, List.forall_mem_cons.mpr ⟨pc_408, List.forall_mem_cons.mpr ⟨pc_409, List.forall_mem_cons.mpr ⟨pc_410, List.forall_mem_cons.mpr ⟨pc_411, List.forall_mem_cons.mpr ⟨pc_412, List.forall_mem_cons.mpr ⟨pc_413, List.forall_mem_cons.mpr ⟨pc_414, List.forall_mem_cons.mpr ⟨pc_415, fun _ h => nomatch h⟩⟩⟩⟩⟩⟩⟩⟩⟩⟩⟩⟩⟩⟩⟩⟩
set_option maxRecDepth 100000 in
theorem pc_r26 : ∀ r ∈ ((pt_mL.getD 26 []).zipIdx), pz_cw (pt_my (16 * 26 + r.2)) r.1.2.1 r.1.2.2.1 r.1.2.2.2.2.1 (pt_HH (16 * 26 + r.2)) ∈ pt_U := List.forall_mem_cons.mpr ⟨pc_416, List.forall_mem_cons.mpr ⟨pc_417, List.forall_mem_cons.mpr ⟨pc_418, List.forall_mem_cons.mpr ⟨pc_419, List.forall_mem_cons.mpr ⟨pc_420, List.forall_mem_cons.mpr ⟨pc_421, List.forall_mem_cons.mpr ⟨pc_422, List.forall_mem_cons.mpr ⟨pc_423, List.forall_mem_cons.mpr ⟨pc_424, List.forall_mem_cons.mpr ⟨pc_425, List.forall_mem_cons.mpr ⟨pc_426, List.forall_mem_cons.mpr ⟨pc_427, List.forall_mem_cons.mpr ⟨pc_428, List.forall_mem_cons.mpr ⟨pc_429, List.forall_mem_cons.mpr ⟨pc_430, List.forall_mem_cons.mpr ⟨pc_431, fun _ h => nomatch h⟩⟩⟩⟩⟩⟩⟩⟩⟩⟩⟩⟩⟩⟩⟩⟩
set_option maxRecDepth 100000 in
theorem pc_r27 : ∀ r ∈ ((pt_mL.getD 27 []).zipIdx), pz_cw (pt_my (16 * 27 + r.2)) r.1.2.1 r.1.2.2.1 r.1.2.2.2.2.1 (pt_HH (16 * 27 + r.2)) ∈ pt_U := List.forall_mem_cons.mpr ⟨pc_432, List.forall_mem_cons.mpr ⟨pc_433, List.forall_mem_cons.mpr ⟨pc_434, List.forall_mem_cons.mpr ⟨pc_435, List.forall_mem_cons.mpr ⟨pc_436, List.forall_mem_cons.mpr ⟨pc_437, List.forall_mem_cons.mpr ⟨pc_438, List.forall_mem_cons.mpr ⟨pc_439, List.forall_mem_cons.mpr ⟨pc_440, List.forall_mem_cons.mpr ⟨pc_441, List.forall_mem_cons.mpr ⟨pc_442, List.forall_mem_cons.mpr ⟨pc_443, List.forall_mem_cons.mpr ⟨pc_444, List.forall_mem_cons.mpr ⟨pc_445, List.forall_mem_cons.mpr ⟨pc_446, List.forall_mem_cons.mpr ⟨pc_447, fun _ h => nomatch h⟩⟩⟩⟩⟩⟩⟩⟩⟩⟩⟩⟩⟩⟩⟩⟩
set_option maxRecDepth 100000 in
theorem pc_r28 : ∀ r ∈ ((pt_mL.getD 28 []).zipIdx), pz_cw (pt_my (16 * 28 + r.2)) r.1.2.1 r.1.2.2.1 r.1.2.2.2.2.1 (pt_HH (16 * 28 + r.2)) ∈ pt_U := List.forall_mem_cons.mpr ⟨pc_448, List.forall_mem_cons.mpr ⟨pc_449, List.forall_mem_cons.mpr ⟨pc_450, List.forall_mem_cons.mpr ⟨pc_451, List.forall_mem_cons.mpr ⟨pc_452, List.forall_mem_cons.mpr ⟨pc_453, List.forall_mem_cons.mpr ⟨pc_454, List.forall_mem_cons.mpr ⟨pc_455, List.forall_mem_cons.mpr ⟨pc_456, List.forall_mem_cons.mpr ⟨pc_457, List.forall_mem_cons.mpr ⟨pc_458, List.forall_mem_cons.mpr ⟨pc_459, List.forall_mem_cons.mpr ⟨pc_460, List.forall_mem_cons.mpr ⟨pc_461, List.forall_mem_cons.mpr ⟨pc_462, List.forall_mem_cons.mpr ⟨pc_463, fun _ h => nomatch h⟩⟩⟩⟩⟩⟩⟩⟩⟩⟩⟩⟩⟩⟩⟩⟩
set_option maxRecDepth 100000 in
theorem pc_r29 : ∀ r ∈ ((pt_mL.getD 29 []).zipIdx), pz_cw (pt_my (16 * 29 + r.2)) r.1.2.1 r.1.2.2.1 r.1.2.2.2.2.1 (pt_HH (16 * 29 + r.2)) ∈ pt_U := List.forall_mem_cons.mpr ⟨pc_464, List.forall_mem_cons.mpr ⟨pc_465, List.forall_mem_cons.mpr ⟨pc_466, List.forall_mem_cons.mpr ⟨pc_467, List.forall_mem_cons.mpr ⟨pc_468, List.forall_mem_cons.mpr ⟨pc_469, List.forall_mem_cons.mpr ⟨pc_470, List.forall_mem_cons.mpr ⟨pc_471, List.forall_mem_cons.mpr ⟨pc_472, List.forall_mem_cons.mpr ⟨pc_473, List.forall_mem_cons.mpr ⟨pc_474, List.forall_mem_cons.mpr ⟨pc_475, List.forall_mem_cons.mpr ⟨pc_476, List.forall_mem_cons.mpr ⟨pc_477, List.forall_mem_cons.mpr ⟨pc_478, List.forall_mem_cons.mpr ⟨pc_479, fun _ h => nomatch h⟩⟩⟩⟩⟩⟩⟩⟩⟩⟩⟩⟩⟩⟩⟩⟩
set_option maxRecDepth 100000 in
theorem pc_r30 : ∀ r ∈ ((pt_mL.getD 30 []).zipIdx), pz_cw (pt_my (16 * 30 + r.2)) r.1.2.1 r.1.2.2.1 r.1.2.2.2.2.1 (pt_HH (16 * 30 + r.2)) ∈ pt_U := List.forall_mem_cons.mpr ⟨pc_480, List.forall_mem_cons.mpr ⟨pc_481, List.forall_mem_cons.mpr ⟨pc_482, List.forall_mem_cons.mpr ⟨pc_483, List.forall_mem_cons.mpr ⟨pc_484, List.forall_mem_cons.mpr ⟨pc_485, List.forall_mem_cons.mpr ⟨pc_486, List.forall_mem_cons.mpr ⟨pc_487, List.forall_mem_cons.mpr ⟨pc_488, List.forall_mem_cons.mpr ⟨pc_489, List.forall_mem_cons.mpr ⟨pc_490, List.forall_mem_cons.mpr ⟨pc_491, List.forall_mem_cons.mpr ⟨pc_492, List.forall_mem_cons.mpr ⟨pc_493, fun _ h => nomatch h⟩⟩⟩⟩⟩⟩⟩⟩⟩⟩⟩⟩⟩⟩
