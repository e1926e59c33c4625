/-! ===== the claim ===== -/
theorem i_vc : Claimed_1_1 ∧ Claimed_1_2 := zf_vc (rl_All Rl_start Rl_room Rl_mono Rl_0 Rl_1 Rl_2 Rl_3 Rl_4 Rl_5 Rl_6 Rl_7 Rl_8 Rl_9 Rl_10 Rl_11 Rl_12 Rl_13 Rl_14 Rl_15 Rl_16 Rl_17 Rl_18 Rl_19 Rl_20 Rl_21 Rl_22 Rl_23 Rl_24 Rl_25)
