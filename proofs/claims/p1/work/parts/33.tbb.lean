/-- words beside the good ones -/
def pt_E : List Cond := [.methodLinkNest "AssertionBench" 9 ⟨"AssertionBench$Tokens", "<init>", "()V"⟩ "AssertionBench",
  .methodLinkNest "AssertionBench$PropertyReader" 11 ⟨"AssertionBench$Weaver", "<init>", "()V"⟩ "AssertionBench",
  .methodLinkNest "AssertionBench$Property" 43 ⟨"AssertionBench$Sequence", "<init>", "()V"⟩ "AssertionBench",
  .methodLinkNest "AssertionBench$Property" 44 ⟨"AssertionBench$Classes", "<init>", "()V"⟩ "AssertionBench",
  .methodLinkNest "AssertionBench" 66 ⟨"AssertionBench$Hunt", "<init>", "()V"⟩ "AssertionBench",
  .arrayOver (.object "AssertionBench$Property"),
  .arrayOver (.object "AssertionBench$Sequence"),
  .arrayOver (.object "AssertionBench$Classes"),
  .arrayOver (.array .long),
  .declares ⟨"java/lang/RuntimeException", "<init>", "()V"⟩,
  .declares ⟨"java/lang/Exception", "<init>", "()V"⟩,
  .declares ⟨"java/lang/Throwable", "<init>", "()V"⟩,
  .castable "java/lang/IllegalArgumentException" "java/lang/IllegalArgumentException",
  .castable "java/lang/UnsupportedOperationException" "java/lang/UnsupportedOperationException",
  .castable "java/lang/IndexOutOfBoundsException" "java/lang/IndexOutOfBoundsException",
  .castable "java/lang/IllegalStateException" "java/lang/IllegalStateException",
  .castable "java/util/NoSuchElementException" "java/util/NoSuchElementException",
  .not (.castable "java/lang/IllegalArgumentException" "java/lang/UnsupportedOperationException"),
  .not (.castable "java/lang/IllegalArgumentException" "java/lang/IndexOutOfBoundsException"),
  .not (.castable "java/lang/IllegalArgumentException" "java/lang/IllegalStateException"),
  .not (.castable "java/lang/IllegalArgumentException" "java/util/NoSuchElementException"),
  .not (.castable "java/lang/UnsupportedOperationException" "java/lang/IllegalArgumentException"),
  .not (.castable "java/lang/UnsupportedOperationException" "java/lang/IndexOutOfBoundsException"),
  .not (.castable "java/lang/UnsupportedOperationException" "java/lang/IllegalStateException"),
  .not (.castable "java/lang/UnsupportedOperationException" "java/util/NoSuchElementException"),
  .not (.castable "java/lang/IndexOutOfBoundsException" "java/lang/IllegalArgumentException"),
  .not (.castable "java/lang/IndexOutOfBoundsException" "java/lang/UnsupportedOperationException"),
  .not (.castable "java/lang/IndexOutOfBoundsException" "java/lang/IllegalStateException"),
  .not (.castable "java/lang/IndexOutOfBoundsException" "java/util/NoSuchElementException"),
  .not (.castable "java/lang/IllegalStateException" "java/lang/IllegalArgumentException"),
  .not (.castable "java/lang/IllegalStateException" "java/lang/UnsupportedOperationException"),
  .not (.castable "java/lang/IllegalStateException" "java/lang/IndexOutOfBoundsException"),
  .not (.castable "java/lang/IllegalStateException" "java/util/NoSuchElementException"),
  .not (.castable "java/util/NoSuchElementException" "java/lang/IllegalArgumentException"),
  .not (.castable "java/util/NoSuchElementException" "java/lang/UnsupportedOperationException"),
  .not (.castable "java/util/NoSuchElementException" "java/lang/IndexOutOfBoundsException"),
  .not (.castable "java/util/NoSuchElementException" "java/lang/IllegalStateException")]
/-- statics and what they hold -/
def pt_SF : List (String × String × String × Value) := [("AssertionBench$Sequence", "NO_STEPS", "[J", .ref 1099511627777),
  ("AssertionBench$Classes", "NO_TABLE", "[I", .ref 1099511627778),
  ("java/lang/String", "COMPACT_STRINGS", "Z", .int 1),
  ("AssertionBench$Hunt", "NO_ROWS", "[J", .ref 1099511627779),
  ("AssertionBench$PropertyReader", "LETTERS_WITH", "[J", .ref 1099511627780),
  ("java/lang/Integer", "DigitOnes", "[B", .ref 1099511627781),
  ("java/lang/Integer", "DigitTens", "[B", .ref 1099511627782),
  ("jdk/internal/util/Preconditions", "SIOOBE_FORMATTER", "Ljava/util/function/BiFunction;", .ref 1099511627783)]
def pt_SFf (fv : Value) : List (String × String × String × Value) := pt_SF.map fun q => (q.1, q.2.1, q.2.2.1, pt_fv fv q.2.2.2)
/-- texts -/
def pt_RS : List (String × Nat × String × Nat) := [("AssertionBench$DesignReader", 105, "input", 10),
  ("AssertionBench$DesignReader", 111, "latch", 12),
  ("AssertionBench$DesignReader", 113, "wire", 14),
  ("AssertionBench$DesignReader", 115, "next", 16),
  ("AssertionBench$DesignReader", 117, "signal", 18),
  ("AssertionBench$NumbersReader", 78, "aag", 20),
  ("AssertionBench$PropertyLexer", 40, "&&", 40),
  ("AssertionBench$PropertyLexer", 50, "->", 42),
  ("AssertionBench$PropertyLexer", 95, "[*]", 22),
  ("AssertionBench$PropertyLexer", 97, "[+]", 24),
  ("AssertionBench$PropertyLexer", 99, "[*", 26),
  ("AssertionBench$PropertyLexer", 101, "..", 28),
  ("AssertionBench$PropertyLexer", 109, "[->", 30),
  ("AssertionBench$PropertyLexer", 111, "[=", 32),
  ("AssertionBench$PropertyLexer", 62, "|->", 34),
  ("AssertionBench$PropertyLexer", 64, "|=>", 36),
  ("AssertionBench$PropertyLexer", 66, "||", 38),
  ("AssertionBench$PropertyLexer", 79, "always", 44),
  ("AssertionBench$PropertyLexer", 85, "never", 46),
  ("AssertionBench$PropertyLexer", 87, "next", 16),
  ("AssertionBench$PropertyLexer", 89, "until", 48),
  ("AssertionBench$PropertyLexer", 91, "before", 50),
  ("AssertionBench$PropertyLexer", 93, "and", 52),
  ("AssertionBench$Design", 89, "aag", 20),
  ("java/lang/StringIndexOutOfBoundsException", 13, "String index out of range: ", 54),
  ("java/util/Arrays", 48, "fromIndex(", 58),
  ("java/util/Arrays", 57, ") > toIndex(", 60),
  ("java/util/Arrays", 59, ")", 62),
  ("java/lang/ArrayIndexOutOfBoundsException", 13, "Array index out of range: ", 64)]
theorem pt_C_ok : ∀ (ci : Nat) (C : String) (T : u_T) (N : Nat), pt_cl[ci]? = some (C, T, N) → (∀ w ∈ u_ws C T N, w ∈ pt_U) ∧ (∃ ty0 : Nat → FieldType, (∀ k, k < N → parseFieldDescriptor (T k).2.2.1 = some (ty0 k)) ∧ ∀ j, j < N → defaultValue (ty0 j) = vp_V (pt_fz ci) j) ∧ (∀ a, a < N → ∀ b, b < N → a ≠ b → (T a).2.1 ≠ (T b).2.1) ∧ (pt_fz ci).length = N ∧ ∀ v ∈ pt_fz ci, ∀ i, v ≠ .ref i := by
  intro ci C T N h
  have hc := List.all_eq_true.mp pt_C_all ((C, T, N), ci) (List.mem_zipIdx_iff_getElem?.mpr h)
  dsimp only at hc
  unfold pt_cC at hc
  split at hc
  · rename_i p1 p2 ps hp
    dsimp only at hc
    simp only [Bool.and_eq_true, decide_eq_true_eq] at hc
    obtain ⟨⟨⟨⟨⟨h1, h2⟩, h3⟩, h4⟩, h5⟩, h6⟩ := hc
    refine ⟨fun w hw => ?_, ⟨fun k => (parseFieldDescriptor (T k).2.2.1).getD .int, fun k hk => ?_, fun j hj => ?_⟩, fun a ha b hb hab => ?_, h5, fun v hv i z => ?_⟩
    · obtain ⟨k, hk, rfl⟩ := List.mem_map.mp hw
      exact pt_w_ok (List.all_eq_true.mp h2 k hk)
    · have := List.all_eq_true.mp h3 k (List.mem_range.mpr hk)
      split at this
      · rename_i ty hty
        show parseFieldDescriptor (T k).2.2.1 = some ((parseFieldDescriptor (T k).2.2.1).getD .int)
        rw [hty]
        rfl
      · cases this
    · have := List.all_eq_true.mp h3 j (List.mem_range.mpr hj)
      split at this
      · rename_i ty hty
        show defaultValue ((parseFieldDescriptor (T j).2.2.1).getD .int) = _
        rw [hty]
        exact of_decide_eq_true this
      · cases this
    · have := List.all_eq_true.mp (List.all_eq_true.mp h4 a (List.mem_range.mpr ha)) b (List.mem_range.mpr hb)
      simp only [Bool.or_eq_true, decide_eq_true_eq] at this
      exact this.elim (fun z => absurd z hab) id
    · have := List.all_eq_true.mp h6 v hv
      rw [z] at this
      cases this
  · cases hc
/-- arrays of things -/
def pt_cKA (o i : Nat) (v : Nat) : Bool := if i < 65536 then (match pt_tk (v + 4) with
  | .object C => decide (v + 4 < 8) && pt_w (pt_p pf_KA o i) (.classLink (pt_nm o) i C) && decide (Cond.arrayOver (.object C) ∈ pt_E)
  | _ => false) else decide (v + 4 < 8) && decide (pt_tk (v + 4) = .array .long) && pt_w (pt_p pf_KA o i) (.classLink (pt_nm o) (i - 65536) "[[J") && decide (Cond.arrayOver (.array .long) ∈ pt_E)
set_option maxRecDepth 100000 in
theorem pt_KA_all : pt_all pt_cKA pt_KAL = true := by decide +kernel
theorem pt_KA_ok : ∀ o idx k, pt_KA o idx = some k → idx < 65536 → k + 4 < 8 ∧ ∃ C : String, pt_tk (k + 4) = .object C ∧ Cond.classLink (pt_nm o) idx C ∈ pt_U ++ pt_E ∧ Cond.arrayOver (.object C) ∈ pt_U ++ pt_E := by
  intro o idx k h hi
  have hc := pt_all_ok pt_KA_all h
  unfold pt_cKA at hc
  rw [if_pos hi] at hc
  split at hc
  · rename_i C hC
    simp only [Bool.and_eq_true, decide_eq_true_eq] at hc
    exact ⟨hc.1.1, C, hC, List.mem_append_left _ (pt_w_ok hc.1.2), List.mem_append_right _ hc.2⟩
  · cases hc
theorem pt_KA2_ok : ∀ o idx k, pt_KA o (idx + 65536) = some k → k + 4 < 8 ∧ pt_tk (k + 4) = .array .long ∧ Cond.classLink (pt_nm o) idx "[[J" ∈ pt_U ++ pt_E ∧ Cond.arrayOver (.array .long) ∈ pt_U ++ pt_E := by
  intro o idx k h
  have hc := pt_all_ok pt_KA_all h
  unfold pt_cKA at hc
  rw [if_neg (by omega), Nat.add_sub_cancel] at hc
  simp only [Bool.and_eq_true, decide_eq_true_eq] at hc
  exact ⟨hc.1.1.1, hc.1.1.2, List.mem_append_left _ (pt_w_ok hc.1.2), List.mem_append_right _ hc.2⟩
def pt_cST (o i : Nat) (v : Value) : Bool := (match v with | .ref j => decide (1099511627776 ≤ j) | _ => true) && pt_SF.any (fun q => decide (q.2.2.2 = v) && pt_w (pt_p pf_ST o i) (.fieldLink (pt_nm o) i q.1 q.2.1 q.2.2.1))
set_option maxRecDepth 100000 in
theorem pt_ST_all : pt_all pt_cST pt_STL = true := by decide +kernel
theorem pt_ST_ok : ∀ o idx v, pt_ST o idx = some v → pz_o 0 v ∧ ∃ (C n d : String), (C, n, d, v) ∈ pt_SF ∧ Cond.fieldLink (pt_nm o) idx C n d ∈ pt_U ++ pt_E := by
  intro o idx v h
  have hc := pt_all_ok pt_ST_all h
  unfold pt_cST at hc
  rw [Bool.and_eq_true] at hc
  obtain ⟨h1, h2⟩ := hc
  obtain ⟨q, hq, h3⟩ := List.any_eq_true.mp h2
  rw [Bool.and_eq_true, decide_eq_true_eq] at h3
  refine ⟨fun j hj => ?_, q.1, q.2.1, q.2.2.1, ?_, List.mem_append_left _ (pt_w_ok h3.2)⟩
  · rw [hj] at h1
    exact Or.inr (of_decide_eq_true h1)
  · rw [← h3.1]
    exact hq
theorem pt_STf_ok {fv : Value} (hf : pz_o 0 fv) : ∀ o idx v, pt_STf fv o idx = some v → pz_o 0 v ∧ ∃ (C n d : String), (C, n, d, v) ∈ pt_SFf fv ∧ Cond.fieldLink (pt_nm o) idx C n d ∈ pt_U ++ pt_E := by
  intro o idx v h
  unfold pt_STf at h
  obtain ⟨v0, h0, rfl⟩ := Option.map_eq_some_iff.mp h
  obtain ⟨a1, C, n, d, a2, a3⟩ := pt_ST_ok o idx v0 h0
  refine ⟨?_, C, n, d, List.mem_map.mpr ⟨_, a2, rfl⟩, a3⟩
  unfold pt_fv
  split
  · exact hf
  · exact a1
def pt_cLS (o i : Nat) (v : Nat) : Bool := pt_RS.any (fun q => decide (q.1 = pt_nm o ∧ q.2.1 = i ∧ q.2.2.2 = v))
set_option maxRecDepth 100000 in
theorem pt_LS_all : pt_all pt_cLS pt_LSL = true := by decide +kernel
theorem pt_LS_ok : ∀ o idx i, pt_LS o idx = some i → ∃ tx : String, (pt_nm o, idx, tx, i) ∈ pt_RS := by
  intro o idx i h
  obtain ⟨⟨q1, q2, q3, q4⟩, hq, h3⟩ := List.any_eq_true.mp (pt_all_ok pt_LS_all h)
  obtain ⟨h4, h5, h6⟩ := of_decide_eq_true h3
  dsimp only at h4 h5 h6
  subst h4
  subst h5
  subst h6
  exact ⟨q3, hq⟩
