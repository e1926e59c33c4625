/-! ===== one call on fresh objects ===== -/
set_option maxRecDepth 100000 in
theorem z3_0 : z1_L 0 0 = true := by decide +kernel
set_option maxRecDepth 100000 in
theorem z3_1 : z1_L 1 3 = true := by decide +kernel
set_option maxRecDepth 100000 in
theorem z3_2 : z1_L 2 89724963174523259060227 = true := by decide +kernel
set_option maxRecDepth 100000 in
theorem z3_3 : z1_L 3 780526081948571809953839864505867175968374787 = true := by decide +kernel
section ZGA
variable {xs : Nat → Int32} {fv : Value}
theorem z7_op (hfv : fv = .null ∨ fv = .ref 1099511627783) {op : Int32} {n : Nat} {code : List (Nat × Nat)} (h : (z1_d op n code [] 0).isSome = true) (hop : xs 0 &&& 31 = op) : ∃ (n d c1 s1 : Nat) (w1 : List pz_C), pt_run (pt_sc 4 xs fv) n d 0 0 [(0, .ref 1099511627776)] [] [] 0 0 = some (.inl (some (.int 1)), w1, c1, s1) ∧ d ≤ 600 ∧ c1 ≤ 600002 ∧ s1 ≤ 7302232 := by
  obtain ⟨rest, hr⟩ := Option.isSome_iff_exists.mp h
  exact z1_op hfv hr hop
theorem z7_22 (hfv : fv = .null ∨ fv = .ref 1099511627783) (hop : xs 0 &&& 31 = 22) : ∃ (n d c1 s1 : Nat) (w1 : List pz_C), pt_run (pt_sc 4 xs fv) n d 0 0 [(0, .ref 1099511627776)] [] [] 0 0 = some (.inl (some (.int 1)), w1, c1, s1) ∧ d ≤ 600 ∧ c1 ≤ 600002 ∧ s1 ≤ 7302232 := by
  obtain ⟨rest, hr⟩ := Option.isSome_iff_exists.mp z2_22
  obtain ⟨b, hb, h⟩ := z5_d_ok (g := zg xs fv) _ _ _ _ hr zb_in0
  rcases h with h | h
  · exact z1_four hfv hop hb h
  · unfold z5_sk at h
    rw [if_pos rfl] at h
    simp only [Bool.and_eq_true] at h
    obtain ⟨⟨⟨⟨h1, h2⟩, h3⟩, h4⟩, h5⟩ := h
    have e1 := Nat.eq_of_beq_eq_true h1
    have e2 := Nat.le_of_ble_eq_true h2
    have e3 := Nat.le_of_ble_eq_true h3
    have e4 := Nat.le_of_ble_eq_true h4
    have e5 := Nat.le_of_ble_eq_true h5
    have b1 := hb.1 1
    have b2 := hb.1 2
    have hp : zb_o ((zg xs fv).1 1) = 0 + 2147483648 ∨ zb_o ((zg xs fv).1 1) = 1 + 2147483648 := by omega
    have hK : zb_o ((zg xs fv).1 2) = 1 + 2147483648 ∨ zb_o ((zg xs fv).1 2) = 2 + 2147483648 ∨ zb_o ((zg xs fv).1 2) = 3 + 2147483648 ∨ zb_o ((zg xs fv).1 2) = 4 + 2147483648 ∨ zb_o ((zg xs fv).1 2) = 5 + 2147483648 ∨ zb_o ((zg xs fv).1 2) = 6 + 2147483648 ∨ zb_o ((zg xs fv).1 2) = 7 + 2147483648 ∨ zb_o ((zg xs fv).1 2) = 8 + 2147483648 ∨ zb_o ((zg xs fv).1 2) = 9 + 2147483648 ∨ zb_o ((zg xs fv).1 2) = 10 + 2147483648 ∨ zb_o ((zg xs fv).1 2) = 11 + 2147483648 ∨ zb_o ((zg xs fv).1 2) = 12 + 2147483648 := by omega
    rcases hp with hp | hp
    · rcases hK with hK | hK | hK | hK | hK | hK | hK | hK | hK | hK | hK | hK
      · exact z5_four hfv hop (z5_in hp hK) (List.all_eq_true.mp z6_22_0_1 1 (by decide))
      · exact z5_four hfv hop (z5_in hp hK) (List.all_eq_true.mp z6_22_0_1 2 (by decide))
      · exact z5_four hfv hop (z5_in hp hK) (List.all_eq_true.mp z6_22_0_1 3 (by decide))
      · exact z5_four hfv hop (z5_in hp hK) (List.all_eq_true.mp z6_22_0_4 4 (by decide))
      · exact z5_four hfv hop (z5_in hp hK) (List.all_eq_true.mp z6_22_0_4 5 (by decide))
      · exact z5_four hfv hop (z5_in hp hK) (List.all_eq_true.mp z6_22_0_4 6 (by decide))
      · exact z5_four hfv hop (z5_in hp hK) (List.all_eq_true.mp z6_22_0_7 7 (by decide))
      · exact z5_four hfv hop (z5_in hp hK) (List.all_eq_true.mp z6_22_0_7 8 (by decide))
      · exact z5_four hfv hop (z5_in hp hK) (List.all_eq_true.mp z6_22_0_7 9 (by decide))
      · exact z5_four hfv hop (z5_in hp hK) (List.all_eq_true.mp z6_22_0_10 10 (by decide))
      · exact z5_four hfv hop (z5_in hp hK) (List.all_eq_true.mp z6_22_0_10 11 (by decide))
      · exact z5_four hfv hop (z5_in hp hK) (List.all_eq_true.mp z6_22_0_10 12 (by decide))
    · rcases hK with hK | hK | hK | hK | hK | hK | hK | hK | hK | hK | hK | hK
      · exact z5_four hfv hop (z5_in hp hK) (List.all_eq_true.mp z6_22_1_1 1 (by decide))
      · exact z5_four hfv hop (z5_in hp hK) (List.all_eq_true.mp z6_22_1_1 2 (by decide))
      · exact z5_four hfv hop (z5_in hp hK) (List.all_eq_true.mp z6_22_1_1 3 (by decide))
      · exact z5_four hfv hop (z5_in hp hK) (List.all_eq_true.mp z6_22_1_4 4 (by decide))
      · exact z5_four hfv hop (z5_in hp hK) (List.all_eq_true.mp z6_22_1_4 5 (by decide))
      · exact z5_four hfv hop (z5_in hp hK) (List.all_eq_true.mp z6_22_1_4 6 (by decide))
      · exact z5_four hfv hop (z5_in hp hK) (List.all_eq_true.mp z6_22_1_7 7 (by decide))
      · exact z5_four hfv hop (z5_in hp hK) (List.all_eq_true.mp z6_22_1_7 8 (by decide))
      · exact z5_four hfv hop (z5_in hp hK) (List.all_eq_true.mp z6_22_1_7 9 (by decide))
      · exact z5_four hfv hop (z5_in hp hK) (List.all_eq_true.mp z6_22_1_10 10 (by decide))
      · exact z5_four hfv hop (z5_in hp hK) (List.all_eq_true.mp z6_22_1_10 11 (by decide))
      · exact z5_four hfv hop (z5_in hp hK) (List.all_eq_true.mp z6_22_1_10 12 (by decide))
theorem z7_24 (hfv : fv = .null ∨ fv = .ref 1099511627783) (hop : xs 0 &&& 31 = 24) : ∃ (n d c1 s1 : Nat) (w1 : List pz_C), pt_run (pt_sc 4 xs fv) n d 0 0 [(0, .ref 1099511627776)] [] [] 0 0 = some (.inl (some (.int 1)), w1, c1, s1) ∧ d ≤ 600 ∧ c1 ≤ 600002 ∧ s1 ≤ 7302232 := by
  obtain ⟨rest, hr⟩ := Option.isSome_iff_exists.mp z2_24
  obtain ⟨b, hb, h⟩ := z5_d_ok (g := zg xs fv) _ _ _ _ hr zb_in0
  rcases h with h | h
  · exact z1_four hfv hop hb h
  · unfold z5_sk at h
    rw [if_neg (by decide)] at h
    simp only [Bool.and_eq_true] at h
    obtain ⟨⟨⟨⟨⟨h1, h2⟩, h3⟩, h4⟩, h5⟩, h6⟩ := h
    have e1 := Nat.eq_of_beq_eq_true h1
    have e2 := Nat.le_of_ble_eq_true h2
    have e3 := Nat.le_of_ble_eq_true h3
    have e4 := Nat.le_of_ble_eq_true h4
    have e5 := Nat.le_of_ble_eq_true h5
    have e6 := Nat.le_of_ble_eq_true h6
    have b1 := hb.1 1
    have b2 := hb.1 2
    have hp : (zb_l b 1).1 = 2147483649 ∨ (zb_l b 1).1 = 2147483650 ∨ (zb_l b 1).1 = 2147483651 := by omega
    rcases hp with hp | hp | hp
    · have hn : zb_o ((zg xs fv).1 1) = 1 + 2147483648 := by omega
      rw [hp] at e6
      have hK : zb_o ((zg xs fv).1 2) = 1 + 2147483648 ∨ zb_o ((zg xs fv).1 2) = 2 + 2147483648 ∨ zb_o ((zg xs fv).1 2) = 3 + 2147483648 ∨ zb_o ((zg xs fv).1 2) = 4 + 2147483648 ∨ zb_o ((zg xs fv).1 2) = 5 + 2147483648 ∨ zb_o ((zg xs fv).1 2) = 6 + 2147483648 ∨ zb_o ((zg xs fv).1 2) = 7 + 2147483648 ∨ zb_o ((zg xs fv).1 2) = 8 + 2147483648 ∨ zb_o ((zg xs fv).1 2) = 9 + 2147483648 ∨ zb_o ((zg xs fv).1 2) = 10 + 2147483648 ∨ zb_o ((zg xs fv).1 2) = 11 + 2147483648 ∨ zb_o ((zg xs fv).1 2) = 12 + 2147483648 := by omega
      rcases hK with hK | hK | hK | hK | hK | hK | hK | hK | hK | hK | hK | hK
      · exact z5_four hfv hop (z5_in hn hK) (List.all_eq_true.mp z6_24_1_1 1 (by decide))
      · exact z5_four hfv hop (z5_in hn hK) (List.all_eq_true.mp z6_24_1_1 2 (by decide))
      · exact z5_four hfv hop (z5_in hn hK) (List.all_eq_true.mp z6_24_1_1 3 (by decide))
      · exact z5_four hfv hop (z5_in hn hK) (List.all_eq_true.mp z6_24_1_4 4 (by decide))
      · exact z5_four hfv hop (z5_in hn hK) (List.all_eq_true.mp z6_24_1_4 5 (by decide))
      · exact z5_four hfv hop (z5_in hn hK) (List.all_eq_true.mp z6_24_1_4 6 (by decide))
      · exact z5_four hfv hop (z5_in hn hK) (List.all_eq_true.mp z6_24_1_7 7 (by decide))
      · exact z5_four hfv hop (z5_in hn hK) (List.all_eq_true.mp z6_24_1_7 8 (by decide))
      · exact z5_four hfv hop (z5_in hn hK) (List.all_eq_true.mp z6_24_1_7 9 (by decide))
      · exact z5_four hfv hop (z5_in hn hK) (List.all_eq_true.mp z6_24_1_10 10 (by decide))
      · exact z5_four hfv hop (z5_in hn hK) (List.all_eq_true.mp z6_24_1_10 11 (by decide))
      · exact z5_four hfv hop (z5_in hn hK) (List.all_eq_true.mp z6_24_1_10 12 (by decide))
    · have hn : zb_o ((zg xs fv).1 1) = 2 + 2147483648 := by omega
      rw [hp] at e6
      have hK : zb_o ((zg xs fv).1 2) = 1 + 2147483648 ∨ zb_o ((zg xs fv).1 2) = 2 + 2147483648 ∨ zb_o ((zg xs fv).1 2) = 3 + 2147483648 ∨ zb_o ((zg xs fv).1 2) = 4 + 2147483648 ∨ zb_o ((zg xs fv).1 2) = 5 + 2147483648 ∨ zb_o ((zg xs fv).1 2) = 6 + 2147483648 := by omega
      rcases hK with hK | hK | hK | hK | hK | hK
      · exact z5_four hfv hop (z5_in hn hK) (List.all_eq_true.mp z6_24_2_1 1 (by decide))
      · exact z5_four hfv hop (z5_in hn hK) (List.all_eq_true.mp z6_24_2_1 2 (by decide))
      · exact z5_four hfv hop (z5_in hn hK) (List.all_eq_true.mp z6_24_2_1 3 (by decide))
      · exact z5_four hfv hop (z5_in hn hK) (List.all_eq_true.mp z6_24_2_4 4 (by decide))
      · exact z5_four hfv hop (z5_in hn hK) (List.all_eq_true.mp z6_24_2_4 5 (by decide))
      · exact z5_four hfv hop (z5_in hn hK) (List.all_eq_true.mp z6_24_2_4 6 (by decide))
    · have hn : zb_o ((zg xs fv).1 1) = 3 + 2147483648 := by omega
      rw [hp] at e6
      have hK : zb_o ((zg xs fv).1 2) = 1 + 2147483648 ∨ zb_o ((zg xs fv).1 2) = 2 + 2147483648 ∨ zb_o ((zg xs fv).1 2) = 3 + 2147483648 ∨ zb_o ((zg xs fv).1 2) = 4 + 2147483648 := by omega
      rcases hK with hK | hK | hK | hK
      · exact z5_four hfv hop (z5_in hn hK) (List.all_eq_true.mp z6_24_3_1 1 (by decide))
      · exact z5_four hfv hop (z5_in hn hK) (List.all_eq_true.mp z6_24_3_1 2 (by decide))
      · exact z5_four hfv hop (z5_in hn hK) (List.all_eq_true.mp z6_24_3_3 3 (by decide))
      · exact z5_four hfv hop (z5_in hn hK) (List.all_eq_true.mp z6_24_3_3 4 (by decide))
theorem z7_and (y : Int32) : ∃ m, m < 32 ∧ y &&& 31 = zk_i m := by
  refine ⟨(y &&& 31).toUInt32.toNat, ?_, (zk_i_eq _).symm⟩
  show (y.toBitVec &&& 31#32).toNat < 32
  rw [BitVec.toNat_and]
  exact Nat.and_lt_two_pow _ (by decide : 31 < 2 ^ 5)
end ZGA
/-- every script of at most four numbers -/
theorem z7_All : pt_All 4 := by
  intro fv hfv L xs hL
  have hc : L = 0 ∨ L = 1 ∨ L = 2 ∨ L = 3 ∨ L = 4 := by omega
  rcases hc with rfl | rfl | rfl | rfl | rfl
  · exact z1_small hfv (zb_s0 xs fv) z3_0
  · exact z1_small hfv (zb_s1 xs fv) z3_1
  · exact z1_small hfv (zb_s2 xs fv) z3_2
  · exact z1_small hfv (zb_s3 xs fv) z3_3
  · obtain ⟨m, hm, hop⟩ := z7_and (xs 0)
    have hc : m = 0 ∨ m = 1 ∨ m = 2 ∨ m = 3 ∨ m = 4 ∨ m = 5 ∨ m = 6 ∨ m = 7 ∨ m = 8 ∨ m = 9 ∨ m = 10 ∨ m = 11 ∨ m = 12 ∨ m = 13 ∨ m = 14 ∨ m = 15 ∨ m = 16 ∨ m = 17 ∨ m = 18 ∨ m = 19 ∨ m = 20 ∨ m = 21 ∨ m = 22 ∨ m = 23 ∨ m = 24 ∨ m = 25 ∨ m = 26 ∨ m = 27 ∨ m = 28 ∨ m = 29 ∨ m = 30 ∨ m = 31 := by omega
    rcases hc with rfl | rfl | rfl | rfl | rfl | rfl | rfl | rfl | rfl | rfl | rfl | rfl | rfl | rfl | rfl | rfl | rfl | rfl | rfl | rfl | rfl | rfl | rfl | rfl | rfl | rfl | rfl | rfl | rfl | rfl | rfl | rfl
    · exact z7_op hfv z2_0 hop
    · exact z7_op hfv z2_1 hop
    · exact z7_op hfv z2_2 hop
    · exact z7_op hfv z2_3 hop
    · exact z7_op hfv z2_4 hop
    · exact z7_op hfv z2_5 hop
    · exact z7_op hfv z2_6 hop
    · exact z7_op hfv z2_7 hop
    · exact z7_op hfv z2_8 hop
    · exact z7_op hfv z2_9 hop
    · exact z7_op hfv z2_10 hop
    · exact z7_op hfv z2_11 hop
    · exact z7_op hfv z2_12 hop
    · exact z7_op hfv z2_13 hop
    · exact z7_op hfv z2_14 hop
    · exact z7_op hfv z2_15 hop
    · exact z7_op hfv z2_16 hop
    · exact z7_op hfv z2_17 hop
    · exact z7_op hfv z2_18 hop
    · exact z7_op hfv z2_19 hop
    · exact z7_op hfv z2_20 hop
    · exact z7_op hfv z2_21 hop
    · exact z7_22 hfv hop
    · exact z7_op hfv z2_23 hop
    · exact z7_24 hfv hop
    · exact z7_op hfv z2_25 hop
    · exact z7_op hfv z2_26 hop
    · exact z7_op hfv z2_27 hop
    · exact z7_op hfv z2_28 hop
    · exact z7_op hfv z2_29 hop
    · exact z7_op hfv z2_30 hop
    · exact z7_op hfv z2_31 hop
