/-! ===== what the start gives: things outside ===== -/
def pt_tmL : List (Nat × Term) := [(0, (.arg 0)),
  (1, (.static "AssertionBench$Sequence" "NO_STEPS" "[J")),
  (2, (.static "AssertionBench$Classes" "NO_TABLE" "[I")),
  (3, (.static "AssertionBench$Hunt" "NO_ROWS" "[J")),
  (4, (.static "AssertionBench$PropertyReader" "LETTERS_WITH" "[J")),
  (5, (.static "java/lang/Integer" "DigitOnes" "[B")),
  (6, (.static "java/lang/Integer" "DigitTens" "[B")),
  (7, (.static "jdk/internal/util/Preconditions" "SIOOBE_FORMATTER" "Ljava/util/function/BiFunction;")),
  (10, (.string "AssertionBench$DesignReader" (105 : Nat))),
  (11, (.field (.string "AssertionBench$DesignReader" (105 : Nat)) "java/lang/String" "value" "[B")),
  (12, (.string "AssertionBench$DesignReader" (111 : Nat))),
  (13, (.field (.string "AssertionBench$DesignReader" (111 : Nat)) "java/lang/String" "value" "[B")),
  (14, (.string "AssertionBench$DesignReader" (113 : Nat))),
  (15, (.field (.string "AssertionBench$DesignReader" (113 : Nat)) "java/lang/String" "value" "[B")),
  (16, (.string "AssertionBench$DesignReader" (115 : Nat))),
  (17, (.field (.string "AssertionBench$DesignReader" (115 : Nat)) "java/lang/String" "value" "[B")),
  (18, (.string "AssertionBench$DesignReader" (117 : Nat))),
  (19, (.field (.string "AssertionBench$DesignReader" (117 : Nat)) "java/lang/String" "value" "[B")),
  (20, (.string "AssertionBench$NumbersReader" (78 : Nat))),
  (21, (.field (.string "AssertionBench$NumbersReader" (78 : Nat)) "java/lang/String" "value" "[B")),
  (22, (.string "AssertionBench$PropertyLexer" (95 : Nat))),
  (23, (.field (.string "AssertionBench$PropertyLexer" (95 : Nat)) "java/lang/String" "value" "[B")),
  (24, (.string "AssertionBench$PropertyLexer" (97 : Nat))),
  (25, (.field (.string "AssertionBench$PropertyLexer" (97 : Nat)) "java/lang/String" "value" "[B")),
  (26, (.string "AssertionBench$PropertyLexer" (99 : Nat))),
  (27, (.field (.string "AssertionBench$PropertyLexer" (99 : Nat)) "java/lang/String" "value" "[B")),
  (28, (.string "AssertionBench$PropertyLexer" (101 : Nat))),
  (29, (.field (.string "AssertionBench$PropertyLexer" (101 : Nat)) "java/lang/String" "value" "[B")),
  (30, (.string "AssertionBench$PropertyLexer" (109 : Nat))),
  (31, (.field (.string "AssertionBench$PropertyLexer" (109 : Nat)) "java/lang/String" "value" "[B")),
  (32, (.string "AssertionBench$PropertyLexer" (111 : Nat))),
  (33, (.field (.string "AssertionBench$PropertyLexer" (111 : Nat)) "java/lang/String" "value" "[B")),
  (34, (.string "AssertionBench$PropertyLexer" (62 : Nat))),
  (35, (.field (.string "AssertionBench$PropertyLexer" (62 : Nat)) "java/lang/String" "value" "[B")),
  (36, (.string "AssertionBench$PropertyLexer" (64 : Nat))),
  (37, (.field (.string "AssertionBench$PropertyLexer" (64 : Nat)) "java/lang/String" "value" "[B")),
  (38, (.string "AssertionBench$PropertyLexer" (66 : Nat))),
  (39, (.field (.string "AssertionBench$PropertyLexer" (66 : Nat)) "java/lang/String" "value" "[B")),
  (40, (.string "AssertionBench$PropertyLexer" (40 : Nat))),
  (41, (.field (.string "AssertionBench$PropertyLexer" (40 : Nat)) "java/lang/String" "value" "[B")),
  (42, (.string "AssertionBench$PropertyLexer" (50 : Nat))),
  (43, (.field (.string "AssertionBench$PropertyLexer" (50 : Nat)) "java/lang/String" "value" "[B")),
  (44, (.string "AssertionBench$PropertyLexer" (79 : Nat))),
  (45, (.field (.string "AssertionBench$PropertyLexer" (79 : Nat)) "java/lang/String" "value" "[B")),
  (46, (.string "AssertionBench$PropertyLexer" (85 : Nat))),
  (47, (.field (.string "AssertionBench$PropertyLexer" (85 : Nat)) "java/lang/String" "value" "[B")),
  (48, (.string "AssertionBench$PropertyLexer" (89 : Nat))),
  (49, (.field (.string "AssertionBench$PropertyLexer" (89 : Nat)) "java/lang/String" "value" "[B")),
  (50, (.string "AssertionBench$PropertyLexer" (91 : Nat))),
  (51, (.field (.string "AssertionBench$PropertyLexer" (91 : Nat)) "java/lang/String" "value" "[B")),
  (52, (.string "AssertionBench$PropertyLexer" (93 : Nat))),
  (53, (.field (.string "AssertionBench$PropertyLexer" (93 : Nat)) "java/lang/String" "value" "[B")),
  (54, (.string "java/lang/StringIndexOutOfBoundsException" (13 : Nat))),
  (55, (.field (.string "java/lang/StringIndexOutOfBoundsException" (13 : Nat)) "java/lang/String" "value" "[B")),
  (56, (.string "java/util/Arrays" (337 : Nat))),
  (57, (.field (.string "java/util/Arrays" (337 : Nat)) "java/lang/String" "value" "[B")),
  (58, (.string "java/util/Arrays" (48 : Nat))),
  (59, (.field (.string "java/util/Arrays" (48 : Nat)) "java/lang/String" "value" "[B")),
  (60, (.string "java/util/Arrays" (57 : Nat))),
  (61, (.field (.string "java/util/Arrays" (57 : Nat)) "java/lang/String" "value" "[B")),
  (62, (.string "java/util/Arrays" (59 : Nat))),
  (63, (.field (.string "java/util/Arrays" (59 : Nat)) "java/lang/String" "value" "[B")),
  (64, (.string "java/lang/ArrayIndexOutOfBoundsException" (13 : Nat))),
  (65, (.field (.string "java/lang/ArrayIndexOutOfBoundsException" (13 : Nat)) "java/lang/String" "value" "[B"))]
def pt_tm (i : Nat) : Term := (pt_look pt_tmL i).getD (.arg 0)
def pf_ol : List (Nat × List Nat) := [(1, [1793, 1153]),
  (2, [1409, 2945]),
  (3, [1601, 1345]),
  (4, [1057, 1569, 1313, 1825, 1185, 1697, 1441, 2977]),
  (5, [1121, 1633, 1377, 2913, 3937, 1249, 1761, 1505, 3041, 4065, 1041, 1553, 1297, 1809, 1169, 1681, 1425, 2961, 3985, 1105, 1617, 1361, 2897, 3921, 1233, 1745, 1489, 3025, 4049, 1073, 1585, 1329, 2865, 3889, 1201, 1713, 1457, 2993, 4017, 1137, 1649, 1393, 2929, 3953, 1265, 1777, 1521, 3057, 4081, 1033, 1545, 1289, 1801, 1161, 1673, 1417, 2953, 3977, 1097, 1609, 1353, 2889, 3913, 1225, 1737, 1481, 3017, 4041, 1065, 1577, 1321, 2857, 3881, 1193, 1705, 1449, 2985, 4009, 1129, 1641, 1385, 2921, 3945, 1257, 1769, 1513, 3049, 4073, 1049, 1561, 1305, 1817, 1177, 1689, 1433, 2969, 3993, 1113, 1625, 1369, 2905, 3929]),
  (6, [1753, 1497, 3033, 4057, 1081, 1593, 1337, 2873, 3897, 1209, 1721, 1465, 3001, 4025, 1145, 1657, 1401, 2937, 3961, 1273, 1785, 1529, 3065, 4089, 1029, 1541, 1285, 1797, 1157, 1669, 1413, 2949, 3973, 1093, 1605, 1349, 2885, 3909, 1221, 1733, 1477, 3013, 4037, 1061, 1573, 1317, 2853, 3877, 1189, 1701, 1445, 2981, 4005, 1125, 1637, 1381, 2917, 3941, 1253, 1765, 1509, 3045, 4069, 1045, 1557, 1301, 1813, 1173, 1685, 1429, 2965, 3989, 1109, 1621, 1365, 2901, 3925, 1237, 1749, 1493, 3029, 4053, 1077, 1589, 1333, 2869, 3893, 1205, 1717, 1461, 2997, 4021, 1141, 1653, 1397, 2933, 3957, 1269, 1781, 1525, 3061, 4085]),
  (10, [1699, 1443]),
  (11, [2979, 4003, 1123, 1635, 1379, 2915, 3939]),
  (12, [1251, 1763]),
  (13, [1507, 3043, 4067, 1043, 1555, 1299, 1811]),
  (14, [1171, 1683]),
  (15, [1427, 2963, 3987, 1107, 1619, 1363]),
  (16, [2899, 3923]),
  (17, [1235, 1747, 1491, 3027, 4051, 1075]),
  (18, [1587, 1331]),
  (19, [2867, 3891, 1203, 1715, 1459, 2995, 4019, 1139]),
  (20, [1651, 1395]),
  (21, [2931, 3955, 1267, 1779, 1523]),
  (22, [3059, 4083]),
  (23, [1035, 1547, 1291, 1803, 1163]),
  (24, [1675, 1419]),
  (25, [2955, 3979, 1099, 1611, 1355]),
  (26, [2891, 3915]),
  (27, [1227, 1739, 1483, 3019]),
  (28, [4043, 1067]),
  (29, [1579, 1323, 2859, 3883]),
  (30, [1195, 1707]),
  (31, [1451, 2987, 4011, 1131, 1643]),
  (32, [1387, 2923]),
  (33, [3947, 1259, 1771, 1515]),
  (34, [3051, 4075]),
  (35, [1051, 1563, 1307, 1819, 1179]),
  (36, [1691, 1435]),
  (37, [2971, 3995, 1115, 1627, 1371]),
  (38, [2907, 3931]),
  (39, [1243, 1755, 1499, 3035]),
  (40, [4059, 1083]),
  (41, [1595, 1339, 2875, 3899]),
  (42, [1211, 1723]),
  (43, [1467, 3003, 4027, 1147]),
  (44, [1659, 1403]),
  (45, [2939, 3963, 1275, 1787, 1531, 3067, 4091, 1031]),
  (46, [1543, 1287]),
  (47, [1799, 1159, 1671, 1415, 2951, 3975, 1095]),
  (48, [1063, 1575]),
  (49, [1319, 2855, 3879, 1191, 1703, 1447, 2983]),
  (50, [4007, 1127]),
  (51, [1639, 1383, 2919, 3943, 1255, 1767, 1511, 3047]),
  (52, [4071, 1047]),
  (53, [1559, 1303, 1815, 1175, 1687]),
  (54, [1431, 2967]),
  (55, [3991, 1111, 1623, 1367, 2903, 3927, 1239, 1751, 1495, 3031, 4055, 1079, 1591, 1335, 2871, 3895, 1207, 1719, 1463, 2999, 4023, 1143, 1655, 1399, 2935, 3959, 1271, 1783, 1527]),
  (56, [3063, 4087]),
  (57, [1039, 1551, 1295, 1807, 1167]),
  (58, [1679, 1423]),
  (59, [2959, 3983, 1103, 1615, 1359, 2895, 3919, 1231, 1743, 1487, 3023, 4047]),
  (60, [1071, 1583]),
  (61, [1327, 2863, 3887, 1199, 1711, 1455, 2991, 4015, 1135, 1647, 1391, 2927, 3951, 1263]),
  (62, [1775, 1519]),
  (63, [3055, 4079, 1055]),
  (64, [1567, 1311]),
  (65, [1823, 1183, 1695, 1439, 2975, 3999, 1119, 1631, 1375, 2911, 3935, 1247, 1759, 1503, 3039, 4063, 1087, 1599, 1343, 2879, 3903, 1215, 1727, 1471, 3007, 4031, 1151, 1663])]
def pf_o1 (i : Nat) : List Nat := (pt_look pf_ol i).getD []
/-- where a thing outside lies -/
def pt_ad (args : Array Value) (s : State) (i : Nat) : Nat := match (pt_tm i).eval args s none [] s with
  | some (.ref a) => a
  | _ => 0
theorem pt_ad_eq {args : Array Value} {s : State} {i a : Nat} (h : (pt_tm i).eval args s none [] s = some (.ref a)) : pt_ad args s i = a := by
  unfold pt_ad
  rw [h]
def pt_oad (args : Array Value) (s : State) (j : Nat) : Nat := pt_ad args s (j - 1099511627776)
theorem pt_oad_eq (args : Array Value) (s : State) (i : Nat) : pt_oad args s (1099511627776 + i) = pt_ad args s i := by
  unfold pt_oad
  rw [Nat.add_sub_cancel_left]
def pt_vt : Value → Term
  | .int y => .int y
  | .long y => .long y
  | _ => .arg 0
theorem pt_vt_ok {args : Array Value} {s : State} {t : Term} {k : Nat} {z : List (Nat × Value)} {j : Nat} (h : (Cond.eq t (pt_vt (pz_ov k z j))).before args s = true) : t.eval args s none [] s = some (pz_ov k z j) := by
  unfold pz_ov at h ⊢
  split at h
  · exact va_eqtl h
  · exact va_eqt h
def pt_cO (i : Nat) (c : pz_C) : Bool := match c with
  | .inl (k, n, z) => decide (k < 4) && decide (n < 2147483648) && z.all (fun q => match q.2 with | .ref _ => false | _ => true) && pt_is ((pf_o1 i).getD 0 0) (.arrayOf (pt_tm i) (pt_tk k)) && pt_is ((pf_o1 i).getD 1 0) (.eq (.length (pt_tm i)) (.int (Int32.ofNat n))) && (List.range n).all (fun j => pt_is ((pf_o1 i).getD (j + 2) 0) (.eq (.elem (pt_tm i) (.int (Int32.ofNat j))) (pt_vt (pz_ov k z j))))
  | .inr (ci, fs) => decide (ci = 14) && decide (fs = [.ref (1099511627776 + (i + 1)), .int 0]) && pt_is ((pf_o1 i).getD 0 0) (.exactly (pt_tm i) "java/lang/String") && pt_is ((pf_o1 i).getD 1 0) (.eq (.field (pt_tm i) "java/lang/String" "coder" "B") (.int 0)) && decide (pt_tm (i + 1) = .field (pt_tm i) "java/lang/String" "value" "[B") && (match pt_look pt_OTL (i + 1) with | some (.inl _) => true | _ => false)
set_option maxRecDepth 100000 in
theorem pt_O_0 : ((((pt_OTL).drop 0).take 8).all fun q => pt_cO q.1 q.2) = true := by decide +kernel
set_option maxRecDepth 100000 in
theorem pt_O_8 : ((((pt_OTL).drop 8).take 8).all fun q => pt_cO q.1 q.2) = true := by decide +kernel
set_option maxRecDepth 100000 in
theorem pt_O_16 : ((((pt_OTL).drop 16).take 8).all fun q => pt_cO q.1 q.2) = true := by decide +kernel
set_option maxRecDepth 100000 in
theorem pt_O_24 : ((((pt_OTL).drop 24).take 8).all fun q => pt_cO q.1 q.2) = true := by decide +kernel
set_option maxRecDepth 100000 in
theorem pt_O_32 : ((((pt_OTL).drop 32).take 8).all fun q => pt_cO q.1 q.2) = true := by decide +kernel
set_option maxRecDepth 100000 in
theorem pt_O_40 : ((((pt_OTL).drop 40).take 8).all fun q => pt_cO q.1 q.2) = true := by decide +kernel
set_option maxRecDepth 100000 in
theorem pt_O_48 : ((((pt_OTL).drop 48).take 8).all fun q => pt_cO q.1 q.2) = true := by decide +kernel
set_option maxRecDepth 100000 in
theorem pt_O_56 : ((((pt_OTL).drop 56).take 8).all fun q => pt_cO q.1 q.2) = true := by decide +kernel
theorem pt_O_all : ∀ q ∈ pt_OTL, pt_cO q.1 q.2 = true := by
  have h : ∀ q ∈ pt_OTL.drop 0, pt_cO q.1 q.2 = true := (pt_piece 0 8 (List.all_eq_true.mp pt_O_0) (pt_piece 8 8 (List.all_eq_true.mp pt_O_8) (pt_piece 16 8 (List.all_eq_true.mp pt_O_16) (pt_piece 24 8 (List.all_eq_true.mp pt_O_24) (pt_piece 32 8 (List.all_eq_true.mp pt_O_32) (pt_piece 40 8 (List.all_eq_true.mp pt_O_40) (pt_piece 48 8 (List.all_eq_true.mp pt_O_48) (pt_piece 56 8 (List.all_eq_true.mp pt_O_56) (fun r hr => by rw [List.drop_eq_nil_of_le (by decide +kernel)] at hr; cases hr)))))))))
  exact h
theorem pt_cl14 : pt_cl[14]? = some ("java/lang/String", pt_T14, 4) := rfl
theorem pt_OT_ok {args : Array Value} {s : State} {A : Nat → Prop} (hg : pt_G1.before args s = true) (hA : ∀ a : Nat, a < s.heap.size → ¬ A a) : ∀ (i : Nat) (c : pz_C), pt_look pt_OTL i = some c → (∃ a, (pt_tm i).eval args s none [] s = some (.ref a)) ∧ pz_od pt_cl pt_tk (pt_oad args s) A s s.heap (1099511627776 + i) c := by
  have harr : ∀ (i k n : Nat) (z : List (Nat × Value)), pt_look pt_OTL i = some (.inl (k, n, z)) → (∃ a, (pt_tm i).eval args s none [] s = some (.ref a)) ∧ pz_od pt_cl pt_tk (pt_oad args s) A s s.heap (1099511627776 + i) (.inl (k, n, z)) := by
    intro i k n z h
    have hc := pt_O_all _ (pt_look_mem h)
    unfold pt_cO at hc
    simp only [Bool.and_eq_true, decide_eq_true_eq] at hc
    obtain ⟨⟨⟨⟨⟨h1, h2⟩, h3⟩, h4⟩, h5⟩, h6⟩ := hc
    obtain ⟨t, ht, hT⟩ := va_Tof (f := pz_ov k z) (A := A) h2 (pt_is_ok hg h4) (va_eqt (pt_is_ok hg h5)) (fun j hj => pt_vt_ok (pt_is_ok hg (List.all_eq_true.mp h6 j (List.mem_range.mpr hj)))) hA
    refine ⟨⟨t, ht⟩, h1, fun q hq => ?_, ?_⟩
    · have := List.all_eq_true.mp h3 q hq
      intro y hy
      rw [hy] at this
      cases this
    · rw [pt_oad_eq, pt_ad_eq ht]
      exact hT
  intro i c h
  cases c with
  | inl y => exact harr i y.1 y.2.1 y.2.2 h
  | inr y =>
    obtain ⟨ci, fs⟩ := y
    have hc := pt_O_all _ (pt_look_mem h)
    unfold pt_cO at hc
    simp only [Bool.and_eq_true, decide_eq_true_eq] at hc
    obtain ⟨⟨⟨⟨⟨rfl, rfl⟩, h3⟩, h4⟩, h5⟩, h6⟩ := hc
    split at h6
    · rename_i y2 hy2
      obtain ⟨⟨a2, ha2⟩, -⟩ := harr (i + 1) y2.1 y2.2.1 y2.2.2 hy2
      obtain ⟨a, c, cA, kA, q1, q2, q3, q4, q5, q6, -⟩ := Cond.exactly_spec (args := args) (first := s) (o := none) (s := s) (idx := []) (t := pt_tm i) (cls := "java/lang/String") (pt_is_ok hg h3)
      refine ⟨⟨a, q1⟩, "java/lang/String", pt_T14, 4, pt_cl14, ?_, fun k v hk => ?_⟩
      · rw [pt_oad_eq, pt_ad_eq q1]
        exact ⟨cA, q3, q5, by rw [q6]; exact q2, hA a (Array.getElem?_eq_some_iff.mp q3).1⟩
      · rw [pt_oad_eq, pt_ad_eq q1]
        match k, hk with
        | 0, hk =>
          cases hk
          refine ⟨by decide, ?_, fun y hy => by cases hy; exact Or.inr (Nat.le_add_right _ _)⟩
          show va_OF "java/lang/String" "value" "[B" (.ref (pt_oad args s (1099511627776 + (i + 1)))) a A s s.heap
          rw [pt_oad_eq, pt_ad_eq ha2]
          rw [h5] at ha2
          exact vk_OFof q1 ha2 hA
        | 1, hk =>
          cases hk
          exact ⟨by decide, vk_OFof q1 (va_eqt (pt_is_ok hg h4)) hA, fun y hy => by cases hy⟩
        | k + 2, hk => simp at hk
    · cases h6
/-- statics and texts -/
def pf_SF : List (Nat × Nat × Nat) := [(429, 213, 0), (455, 214, 0), (535, 218, 3969), (602, 221, 0), (1268, 208, 0), (1898, 232, 0), (1900, 232, 0), (783, 230, 2881)]
def pt_cSF (q : String × String × String × Value) (p : Nat × Nat × Nat) : Bool := decide (pt_tbl[p.1]? = some (.laysStatic q.1 q.2.1 q.2.2.1)) && decide (pt_tbl[p.2.1]? = some (.initialized q.1)) && (match q.2.2.2 with
  | .ref j => if j = 1099511627783 then pt_is p.2.2 (.isRef (.static q.1 q.2.1 q.2.2.1)) && decide (pt_tm 7 = .static q.1 q.2.1 q.2.2.1) else decide (1099511627776 ≤ j) && decide (pt_tm (j - 1099511627776) = .static q.1 q.2.1 q.2.2.1) && (pt_look pt_OTL (j - 1099511627776)).isSome
  | .int y => pt_is p.2.2 (.eq (.static q.1 q.2.1 q.2.2.1) (.int y))
  | _ => false)
set_option maxRecDepth 100000 in
theorem pt_SF_all : ((pt_SF.zip pf_SF).all fun q => pt_cSF q.1 q.2) = true := by decide +kernel
theorem pt_zip {α β : Type} {l1 : List α} {l2 : List β} (hl : l2.length = l1.length) {f : α × β → Bool} (h : (l1.zip l2).all f = true) {a : α} (ha : a ∈ l1) : ∃ b, f (a, b) = true := by
  obtain ⟨i, hi, rfl⟩ := List.mem_iff_getElem.mp ha
  have hi2 : i < l2.length := by rw [hl]; exact hi
  have hz : (l1.zip l2)[i]? = some (l1[i], l2[i]) := by
    rw [List.getElem?_eq_getElem (by rw [List.length_zip, hl, Nat.min_self]; exact hi), List.getElem_zip]
  exact ⟨l2[i], List.all_eq_true.mp h _ (List.mem_of_getElem? hz)⟩
/-- what the unknown static holds -/
def pt_fvo (args : Array Value) (s : State) : Value := match (pt_tm 7).eval args s none [] s with
  | some (.ref _) => .ref 1099511627783
  | _ => .null
theorem pt_fvo_or (args : Array Value) (s : State) : pt_fvo args s = .null ∨ pt_fvo args s = .ref 1099511627783 := by
  unfold pt_fvo
  split
  · exact Or.inr rfl
  · exact Or.inl rfl
theorem pt_isRef {args : Array Value} {s : State} {t : Term} (h : (Cond.isRef t).before args s = true) : t.eval args s none [] s = some .null ∨ ∃ a, t.eval args s none [] s = some (.ref a) := by
  cases ht : t.eval args s none [] s with
  | none => simp [Cond.before, Cond.holds, Cond.value, ht] at h
  | some v =>
    cases v with
    | ref a => exact Or.inr ⟨a, rfl⟩
    | null => exact Or.inl rfl
    | _ => simp [Cond.before, Cond.holds, Cond.value, ht, Value.isRef] at h
theorem pt_SF_ok {args : Array Value} {s : State} {A : Nat → Prop} (hts : ∀ w ∈ pt_tbl, w.before args s = true) (hg : pt_G1.before args s = true) (hA : ∀ a : Nat, a < s.heap.size → ¬ A a) : ∀ q ∈ pt_SFf (pt_fvo args s), va_Z q.1 q.2.1 q.2.2.1 (pz_v (pt_oad args s) q.2.2.2) A s s.heap := by
  intro q0 hq0
  obtain ⟨q, hq, rfl⟩ := List.mem_map.mp hq0
  dsimp only
  obtain ⟨p, hp⟩ := pt_zip (by decide +kernel) pt_SF_all hq
  unfold pt_cSF at hp
  simp only [Bool.and_eq_true, decide_eq_true_eq] at hp
  obtain ⟨⟨h1, h2⟩, h3⟩ := hp
  refine va_Zof (hts _ (List.mem_of_getElem? h1)) (hts _ (List.mem_of_getElem? h2)) ?_ hA
  split at h3
  · rename_i j hj
    rw [hj]
    split at h3
    · rename_i hj7
      subst hj7
      simp only [Bool.and_eq_true, decide_eq_true_eq] at h3
      rw [show pt_fv (pt_fvo args s) (.ref 1099511627783) = pt_fvo args s from if_pos rfl]
      have h4 := pt_isRef (pt_is_ok hg h3.1)
      rw [← h3.2] at h4 ⊢
      rcases h4 with h4 | ⟨a, h4⟩
      · rw [h4]
        unfold pt_fvo
        rw [h4]
        rfl
      · rw [h4]
        unfold pt_fvo
        rw [h4]
        show some (Value.ref a) = some (Value.ref (pt_oad args s (1099511627776 + 7)))
        rw [pt_oad_eq, pt_ad_eq h4]
    · rename_i hj7
      rw [show pt_fv (pt_fvo args s) (.ref j) = .ref j from if_neg (fun z => hj7 (Value.ref.inj z))]
      simp only [Bool.and_eq_true, decide_eq_true_eq] at h3
      obtain ⟨⟨h4, h5⟩, h6⟩ := h3
      obtain ⟨c, hc⟩ := Option.isSome_iff_exists.mp h6
      obtain ⟨⟨a, ha⟩, -⟩ := pt_OT_ok hg hA _ _ hc
      have e1 := pt_ad_eq ha
      rw [h5] at ha
      show _ = some (Value.ref (pt_oad args s j))
      unfold pt_oad
      rw [e1]
      exact ha
  · rename_i y hy
    rw [hy]
    exact va_eqt (pt_is_ok hg h3)
  · cases h3
def pf_RS : List (Nat × Nat) := [(750, 0), (806, 0), (807, 0), (808, 0), (809, 0), (972, 0), (1180, 0), (1181, 0), (1154, 0), (1157, 0), (1158, 0), (1159, 0), (1171, 0), (1172, 0), (1177, 0), (1178, 0), (1179, 0), (1192, 0), (1194, 0), (1195, 8078), (1196, 0), (1197, 0), (1198, 0), (2031, 8190), (1788, 0), (2005, 0), (2006, 0), (2007, 0), (2015, 0)]
def pt_cRS (q : String × Nat × String × Nat) (p : Nat × Nat) : Bool := decide (pt_tbl[p.1]? = some (.stringRef q.1 q.2.1 q.2.2.1)) && (pt_look pt_OTL q.2.2.2).isSome && (if p.2 = 0 then decide (pt_tm q.2.2.2 = .string q.1 q.2.1) else (if p.2 % 2 = 0 then pt_is (p.2 / 2) (.eq (pt_tm q.2.2.2) (.string q.1 q.2.1)) else pt_is (p.2 / 2) (.eq (.string q.1 q.2.1) (pt_tm q.2.2.2))))
set_option maxRecDepth 100000 in
theorem pt_RS_all : ((pt_RS.zip pf_RS).all fun q => pt_cRS q.1 q.2) = true := by decide +kernel
theorem pt_eqe {args : Array Value} {s : State} {t u : Term} {v : Value} (h : (Cond.eq t u).before args s = true) (ht : t.eval args s none [] s = some v) : u.eval args s none [] s = some v := by
  obtain ⟨w, h1, h2⟩ := Cond.eq_one (show (Cond.eq t u).holds args s none s [] = true from h)
  rw [h2]
  exact h1.symm.trans ht
theorem pt_eqe' {args : Array Value} {s : State} {t u : Term} {v : Value} (h : (Cond.eq u t).before args s = true) (ht : t.eval args s none [] s = some v) : u.eval args s none [] s = some v := by
  obtain ⟨w, h1, h2⟩ := Cond.eq_one (show (Cond.eq u t).holds args s none s [] = true from h)
  rw [h1]
  exact h2.symm.trans ht
theorem pt_RS_ok {args : Array Value} {s : State} {A : Nat → Prop} (hts : ∀ w ∈ pt_tbl, w.before args s = true) (hg : pt_G1.before args s = true) (hA : ∀ a : Nat, a < s.heap.size → ¬ A a) : ∀ q ∈ pt_RS, vk_R q.1 q.2.1 q.2.2.1 (pt_oad args s (1099511627776 + q.2.2.2)) s := by
  intro q hq
  obtain ⟨p, hp⟩ := pt_zip (by decide +kernel) pt_RS_all hq
  unfold pt_cRS at hp
  simp only [Bool.and_eq_true, decide_eq_true_eq] at hp
  obtain ⟨⟨h1, h2⟩, h3⟩ := hp
  obtain ⟨c, hc⟩ := Option.isSome_iff_exists.mp h2
  obtain ⟨⟨a, ha⟩, -⟩ := pt_OT_ok hg hA _ _ hc
  rw [pt_oad_eq, pt_ad_eq ha]
  refine vk_R.of (A := args) (hts _ (List.mem_of_getElem? h1)) ?_
  split at h3
  · rw [← of_decide_eq_true h3]
    exact ha
  · split at h3
    · exact pt_eqe (pt_is_ok hg h3) ha
    · exact pt_eqe' (pt_is_ok hg h3) ha
def pt_cTh : Bool := decide (pt_tbl[1045]? = some (.laysStatic Bundle.tN "UNASSIGNED_STACK" Bundle.steD)) && decide (pt_tbl[1047]? = some (.laysStatic Bundle.tN "SUPPRESSED_SENTINEL" Bundle.listD)) && decide (pt_tbl[223]? = some (.initialized Bundle.tN)) && pt_is 1473 (.isRef (.static Bundle.tN "UNASSIGNED_STACK" Bundle.steD)) && pt_is 3009 (.isRef (.static Bundle.tN "SUPPRESSED_SENTINEL" Bundle.listD))
set_option maxRecDepth 100000 in
theorem pt_Th : pt_cTh = true := by decide +kernel
theorem pt_Th_ok {args : Array Value} {s : State} {A : Nat → Prop} (hts : ∀ w ∈ pt_tbl, w.before args s = true) (hg : pt_G1.before args s = true) (hA : ∀ a : Nat, a < s.heap.size → ¬ A a) : vx_Zq Bundle.tN "UNASSIGNED_STACK" Bundle.steD A s s.heap ∧ vx_Zq Bundle.tN "SUPPRESSED_SENTINEL" Bundle.listD A s s.heap := by
  have h := pt_Th
  unfold pt_cTh at h
  simp only [Bool.and_eq_true, decide_eq_true_eq] at h
  obtain ⟨⟨⟨⟨h1, h2⟩, h3⟩, h4⟩, h5⟩ := h
  exact ⟨vx_Zqof (hts _ (List.mem_of_getElem? h1)) (hts _ (List.mem_of_getElem? h3)) (pt_is_ok hg h4) hA, vx_Zqof (hts _ (List.mem_of_getElem? h2)) (hts _ (List.mem_of_getElem? h3)) (pt_is_ok hg h5) hA⟩
