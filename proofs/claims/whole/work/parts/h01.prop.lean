/-! ===== the class: properties ===== -/
/-- a property of the class lies so -/
def pp_D (T : wv_T) (R : Nat → Nat → Option Nat) (C : Nat) : Prop := T C = some (.inl 7) ∧ (R C 0 = some (C + 1) ∧ R C 1 = some (C + 2) ∧ R C 2 = some (C + 3) ∧ R C 3 = some (C + 4) ∧ R C 4 = some (C + 5) ∧ R C 5 = some (C + 6) ∧ R C 6 = some (C + 7) ∧ R C 7 = some (C + 8)) ∧ (T (C + 1) = some (.inr (0, 155)) ∧ T (C + 2) = some (.inr (1, 155)) ∧ T (C + 3) = some (.inr (1, 155)) ∧ T (C + 4) = some (.inr (0, 155)) ∧ T (C + 5) = some (.inr (0, 155)) ∧ T (C + 6) = some (.inr (0, 155))) ∧ (∃ k, T (C + 7) = some (.inr (k + 4, 67))) ∧ (∃ k, T (C + 8) = some (.inr (k + 4, 4))) ∧ (∀ k, k < 67 → R (C + 7) k = some (C + 9 + k) ∧ T (C + 9 + k) = some (.inl 8)) ∧ ∀ k, k < 4 → R (C + 8) k = some (C + 76 + 5 * k) ∧ T (C + 76 + 5 * k) = some (.inl 9)
def pp_ad (I : Nat → Nat → Int32) (C m : Nat) (k : Int32) : Nat → Nat → Int32 := wv_u (wv_u (wv_u (wv_u I (C + 1) m k) (C + 4) m (Int32.ofInt 1)) (C + 5) m (Int32.ofInt 0)) C 8 (Int32.ofNat (m + 1))
def pp_al (L : Nat → Nat → Int64) (C m : Nat) : Nat → Nat → Int64 := wv_u (wv_u L (C + 2) m (Int64.ofNat 0)) (C + 3) m (Int64.ofNat 0)
theorem pp_b {m c : Nat} (h : m < c) (hc : c < 1000000) : 0 ≤ Int32.ofNat m ∧ (Int32.ofNat m).toInt < (c : Int) := ⟨by rw [wi_le, wi_on (by omega), wi_0]; omega, by rw [wi_on (by omega)]; omega⟩
def pp_c115 : wv_c1 := fun as T N I L R q => ∃ (C m : Nat) (k : Int32), as = [.ref C, .int k] ∧ pp_D T R C ∧ C < 1000000 ∧ I C 8 = Int32.ofNat m ∧ m < 155 ∧ q (.inl (some (.int (Int32.ofNat m)))) T N (pp_ad I C m k) (pp_al L C m) R 0 0
set_option maxRecDepth 100000 in
theorem wM_115 : ∃ cb ci np, pt_mt 115 = some (8, cb, 3, false, some .int, ci, np) := ⟨_, _, _, rfl⟩
set_option maxRecDepth 100000 in
set_option maxHeartbeats 4000000 in
theorem pp_add {sc : pt_Sc} {d : Nat} : wv_C wm_fx sc (d + 1) 115 pp_c115 := by
  rintro as T N I L R q ⟨C, m0, k, rfl, ⟨d0, ⟨r0, r1, r2, r3, r4, r5, r6, r7⟩, ⟨t1, t2, t3, t4, t5, t6⟩, ⟨k7, t7⟩, ⟨k8, t8⟩, ds, dc⟩, hC, h8, hm0, h⟩ w0 HR
  obtain ⟨cb, ci, np, hm⟩ := wM_115
  have k0 : C < 1099511627776 := by omega
  have k1 : C + 1 < 1099511627776 := by omega
  have k2 : C + 2 < 1099511627776 := by omega
  have k3 : C + 3 < 1099511627776 := by omega
  have k4 : C + 4 < 1099511627776 := by omega
  have k5 : C + 5 < 1099511627776 := by omega
  have k6 : C + 6 < 1099511627776 := by omega
  refine wv_meth (hh := none) rfl (sp := fun _ _ _ _ _ _ _ _ => False) (hd := fun _ => none) (n := 0) (n1 := 300) hm zc_115 rfl (fun k as T N I L R q h => by cases h) ?_ (fun pc P h => by cases h) HR
  have em := wi_on (n := m0) (by omega)
  have emn := wi_onn (n := m0) (by omega)
  have bd := pp_b hm0 (by omega)
  have emin : (if (Int16.ofInt 154).toInt32 < I C 8 then (Int16.ofInt 154).toInt32 else I C 8) = Int32.ofNat m0 := by
    rw [h8]
    refine if_neg (fun z => ?_)
    have e : ((Int16.ofInt 154).toInt32).toInt = 154 := rfl
    rw [wi_lt, em, e] at z
    omega
  refine ⟨d0, d0, _, r0, _, t1, by rw [emin]; exact bd, k1, ?_⟩
  rw [emin, emn]
  refine ⟨d0, _, r1, _, t2, bd, k2, ?_⟩
  rw [emn]
  refine ⟨d0, _, r2, _, t3, bd, k3, ?_⟩
  rw [emn]
  refine ⟨d0, _, r3, _, t4, bd, k4, ?_⟩
  rw [emn]
  refine ⟨d0, _, r4, _, t5, bd, k5, ?_⟩
  rw [emn]
  refine ⟨⟨d0, k0⟩, ?_⟩
  have h2 := h
  unfold pp_ad pp_al at h2
  rw [← wq_4s m0] at h2
  exact h2
def pp_c121 : wv_c1 := fun as T N I L R q => ∃ (C m : Nat) (k : Int32), as = [.ref C, .int (Int32.ofNat m), .int k] ∧ pp_D T R C ∧ C < 1000000 ∧ m < 155 ∧ q (.inl none) T N (wv_u I (C + 4) m k) L R 0 0
set_option maxRecDepth 100000 in
theorem wM_121 : ∃ cb ci np, pt_mt 121 = some (8, cb, 3, false, none, ci, np) := ⟨_, _, _, rfl⟩
set_option maxRecDepth 100000 in
set_option maxHeartbeats 4000000 in
theorem pp_setCount {sc : pt_Sc} {d : Nat} : wv_C wm_fx sc (d + 1) 121 pp_c121 := by
  rintro as T N I L R q ⟨C, m0, k, rfl, ⟨d0, ⟨r0, r1, r2, r3, r4, r5, r6, r7⟩, ⟨t1, t2, t3, t4, t5, t6⟩, ⟨k7, t7⟩, ⟨k8, t8⟩, ds, dc⟩, hC, hm0, h⟩ w0 HR
  obtain ⟨cb, ci, np, hm⟩ := wM_121
  have k0 : C < 1099511627776 := by omega
  have k1 : C + 1 < 1099511627776 := by omega
  have k2 : C + 2 < 1099511627776 := by omega
  have k3 : C + 3 < 1099511627776 := by omega
  have k4 : C + 4 < 1099511627776 := by omega
  have k5 : C + 5 < 1099511627776 := by omega
  have k6 : C + 6 < 1099511627776 := by omega
  refine wv_meth (hh := none) rfl (sp := fun _ _ _ _ _ _ _ _ => False) (hd := fun _ => none) (n := 0) (n1 := 300) hm zc_121 rfl (fun k as T N I L R q h => by cases h) ?_ (fun pc P h => by cases h) HR
  have emn := wi_onn (n := m0) (by omega)
  have bd := pp_b hm0 (by omega)
  refine ⟨d0, _, r3, _, t4, bd, k4, ?_⟩
  rw [emn]
  exact h
def pp_c130 : wv_c1 := fun as T N I L R q => ∃ (C m : Nat) (k : Int32), as = [.ref C, .int (Int32.ofNat m), .int k] ∧ pp_D T R C ∧ C < 1000000 ∧ m < 155 ∧ q (.inl none) T N (wv_u I (C + 1) m k) L R 0 0
set_option maxRecDepth 100000 in
theorem wM_130 : ∃ cb ci np, pt_mt 130 = some (8, cb, 3, false, none, ci, np) := ⟨_, _, _, rfl⟩
set_option maxRecDepth 100000 in
set_option maxHeartbeats 4000000 in
theorem pp_setKind {sc : pt_Sc} {d : Nat} : wv_C wm_fx sc (d + 1) 130 pp_c130 := by
  rintro as T N I L R q ⟨C, m0, k, rfl, ⟨d0, ⟨r0, r1, r2, r3, r4, r5, r6, r7⟩, ⟨t1, t2, t3, t4, t5, t6⟩, ⟨k7, t7⟩, ⟨k8, t8⟩, ds, dc⟩, hC, hm0, h⟩ w0 HR
  obtain ⟨cb, ci, np, hm⟩ := wM_130
  have k0 : C < 1099511627776 := by omega
  have k1 : C + 1 < 1099511627776 := by omega
  have k2 : C + 2 < 1099511627776 := by omega
  have k3 : C + 3 < 1099511627776 := by omega
  have k4 : C + 4 < 1099511627776 := by omega
  have k5 : C + 5 < 1099511627776 := by omega
  have k6 : C + 6 < 1099511627776 := by omega
  refine wv_meth (hh := none) rfl (sp := fun _ _ _ _ _ _ _ _ => False) (hd := fun _ => none) (n := 0) (n1 := 300) hm zc_130 rfl (fun k as T N I L R q h => by cases h) ?_ (fun pc P h => by cases h) HR
  have emn := wi_onn (n := m0) (by omega)
  have bd := pp_b hm0 (by omega)
  refine ⟨d0, _, r0, _, t1, bd, k1, ?_⟩
  rw [emn]
  exact h
def pp_c129 : wv_c1 := fun as T N I L R q => ∃ (C m : Nat), as = [.ref C, .int (Int32.ofNat m)] ∧ pp_D T R C ∧ C < 1000000 ∧ m < 155 ∧ q (.inl none) T N (wv_u I (C + 5) m (I C 8)) L R 0 0
set_option maxRecDepth 100000 in
theorem wM_129 : ∃ cb ci np, pt_mt 129 = some (8, cb, 2, false, none, ci, np) := ⟨_, _, _, rfl⟩
set_option maxRecDepth 100000 in
set_option maxHeartbeats 4000000 in
theorem pp_setRight {sc : pt_Sc} {d : Nat} : wv_C wm_fx sc (d + 1) 129 pp_c129 := by
  rintro as T N I L R q ⟨C, m0, rfl, ⟨d0, ⟨r0, r1, r2, r3, r4, r5, r6, r7⟩, ⟨t1, t2, t3, t4, t5, t6⟩, ⟨k7, t7⟩, ⟨k8, t8⟩, ds, dc⟩, hC, hm0, h⟩ w0 HR
  obtain ⟨cb, ci, np, hm⟩ := wM_129
  have k0 : C < 1099511627776 := by omega
  have k1 : C + 1 < 1099511627776 := by omega
  have k2 : C + 2 < 1099511627776 := by omega
  have k3 : C + 3 < 1099511627776 := by omega
  have k4 : C + 4 < 1099511627776 := by omega
  have k5 : C + 5 < 1099511627776 := by omega
  have k6 : C + 6 < 1099511627776 := by omega
  refine wv_meth (hh := none) rfl (sp := fun _ _ _ _ _ _ _ _ => False) (hd := fun _ => none) (n := 0) (n1 := 300) hm zc_129 rfl (fun k as T N I L R q h => by cases h) ?_ (fun pc P h => by cases h) HR
  have emn := wi_onn (n := m0) (by omega)
  have bd := pp_b hm0 (by omega)
  refine ⟨d0, _, r4, d0, _, t5, bd, k5, ?_⟩
  rw [emn]
  exact h
def pp_c170 : wv_c1 := fun as T N I L R q => ∃ (C m : Nat), as = [.ref C, .int (Int32.ofNat m)] ∧ pp_D T R C ∧ C < 1000000 ∧ m < 155 ∧ q (.inl (some (.int (I (C + 1) m)))) T N I L R 0 0
set_option maxRecDepth 100000 in
theorem wM_170 : ∃ cb ci np, pt_mt 170 = some (8, cb, 2, false, some .int, ci, np) := ⟨_, _, _, rfl⟩
set_option maxRecDepth 100000 in
set_option maxHeartbeats 4000000 in
theorem pp_kindOf {sc : pt_Sc} {d : Nat} : wv_C wm_fx sc (d + 1) 170 pp_c170 := by
  rintro as T N I L R q ⟨C, m0, rfl, ⟨d0, ⟨r0, r1, r2, r3, r4, r5, r6, r7⟩, ⟨t1, t2, t3, t4, t5, t6⟩, ⟨k7, t7⟩, ⟨k8, t8⟩, ds, dc⟩, hC, hm0, h⟩ w0 HR
  obtain ⟨cb, ci, np, hm⟩ := wM_170
  have k0 : C < 1099511627776 := by omega
  have k1 : C + 1 < 1099511627776 := by omega
  have k2 : C + 2 < 1099511627776 := by omega
  have k3 : C + 3 < 1099511627776 := by omega
  have k4 : C + 4 < 1099511627776 := by omega
  have k5 : C + 5 < 1099511627776 := by omega
  have k6 : C + 6 < 1099511627776 := by omega
  refine wv_meth (hh := none) rfl (sp := fun _ _ _ _ _ _ _ _ => False) (hd := fun _ => none) (n := 0) (n1 := 300) hm zc_170 rfl (fun k as T N I L R q h => by cases h) ?_ (fun pc P h => by cases h) HR
  have emn := wi_onn (n := m0) (by omega)
  have bd := pp_b hm0 (by omega)
  refine ⟨d0, _, r0, _, t1, bd, ?_⟩
  rw [emn]
  exact h
def pp_c126 : wv_c1 := fun as T N I L R q => ∃ (C m : Nat) (x y : Int64), as = [.ref C, .int (Int32.ofNat m), .long x, .long y] ∧ pp_D T R C ∧ C < 1000000 ∧ m < 155 ∧ q (.inl none) T N I (wv_u (wv_u L (C + 2) m x) (C + 3) m y) R 0 0
set_option maxRecDepth 100000 in
theorem wM_126 : ∃ cb ci np, pt_mt 126 = some (8, cb, 6, false, none, ci, np) := ⟨_, _, _, rfl⟩
set_option maxRecDepth 100000 in
set_option maxHeartbeats 4000000 in
theorem pp_setConditions {sc : pt_Sc} {d : Nat} : wv_C wm_fx sc (d + 1) 126 pp_c126 := by
  rintro as T N I L R q ⟨C, m0, x, y, rfl, ⟨d0, ⟨r0, r1, r2, r3, r4, r5, r6, r7⟩, ⟨t1, t2, t3, t4, t5, t6⟩, ⟨k7, t7⟩, ⟨k8, t8⟩, ds, dc⟩, hC, hm0, h⟩ w0 HR
  obtain ⟨cb, ci, np, hm⟩ := wM_126
  have k0 : C < 1099511627776 := by omega
  have k1 : C + 1 < 1099511627776 := by omega
  have k2 : C + 2 < 1099511627776 := by omega
  have k3 : C + 3 < 1099511627776 := by omega
  have k4 : C + 4 < 1099511627776 := by omega
  have k5 : C + 5 < 1099511627776 := by omega
  have k6 : C + 6 < 1099511627776 := by omega
  refine wv_meth (hh := none) rfl (sp := fun _ _ _ _ _ _ _ _ => False) (hd := fun _ => none) (n := 0) (n1 := 300) hm zc_126 rfl (fun k as T N I L R q h => by cases h) ?_ (fun pc P h => by cases h) HR
  have emn := wi_onn (n := m0) (by omega)
  have bd := pp_b hm0 (by omega)
  refine ⟨d0, _, r1, _, t2, bd, k2, ?_⟩
  rw [emn]
  refine ⟨d0, _, r2, _, t3, bd, k3, ?_⟩
  rw [emn]
  exact h
def pp_c132 : wv_c1 := fun as T N I L R q => ∃ (C m j : Nat), as = [.ref C, .int (Int32.ofNat j)] ∧ pp_D T R C ∧ C < 1000000 ∧ I C 8 = Int32.ofNat m ∧ 1 ≤ m ∧ m ≤ 155 ∧ j ≤ 155 ∧ (j + 1 = m ∧ I (C + 1) j = 0 → q (.inl (some (.int (Int32.ofInt 1)))) T N I L R 0 0) ∧ (¬ (j + 1 = m ∧ I (C + 1) j = 0) → q (.inl (some (.int (Int32.ofInt 0)))) T N I L R 0 0)
set_option maxRecDepth 100000 in
theorem wM_132 : ∃ cb ci np, pt_mt 132 = some (8, cb, 2, false, some .boolean, ci, np) := ⟨_, _, _, rfl⟩
set_option maxRecDepth 100000 in
set_option maxHeartbeats 4000000 in
theorem pp_endsWith {sc : pt_Sc} {d : Nat} : wv_C wm_fx sc (d + 1) 132 pp_c132 := by
  rintro as T N I L R q ⟨C, m0, j, rfl, ⟨d0, ⟨r0, r1, r2, r3, r4, r5, r6, r7⟩, ⟨t1, t2, t3, t4, t5, t6⟩, ⟨k7, t7⟩, ⟨k8, t8⟩, ds, dc⟩, hC, h8, hm1, hm0, hj, hy, hn⟩ w0 HR
  obtain ⟨cb, ci, np, hm⟩ := wM_132
  have k0 : C < 1099511627776 := by omega
  have k1 : C + 1 < 1099511627776 := by omega
  have k2 : C + 2 < 1099511627776 := by omega
  have k3 : C + 3 < 1099511627776 := by omega
  have k4 : C + 4 < 1099511627776 := by omega
  have k5 : C + 5 < 1099511627776 := by omega
  have k6 : C + 6 < 1099511627776 := by omega
  refine wv_meth (hh := none) rfl (sp := fun _ _ _ _ _ _ _ _ => False) (hd := fun _ => none) (n := 0) (n1 := 300) hm zc_132 rfl (fun k as T N I L R q h => by cases h) ?_ (fun pc P h => by cases h) HR
  have em : I C 8 - Int32.ofInt 1 = Int32.ofNat (m0 - 1) := by
    rw [h8]
    apply wi_eq.mpr
    rw [wi_sub, wi_on (by omega), wi_of, wi_on (by omega), wr_id (x := 1) (by omega) (by omega), wr_id (by omega) (by omega)]
    omega
  have ej := wi_on (n := j) (by omega)
  have ejn := wi_onn (n := j) (by omega)
  refine ⟨d0, fun z => ?_, fun z => ?_⟩
  · refine ⟨⟨rfl, rfl⟩, hn (fun w => z ?_)⟩
    rw [em, show m0 - 1 = j by omega]
  · have z := Decidable.not_not.mp z
    rw [em] at z
    have z : j = m0 - 1 := by
      have := wi_eq.mp z
      rw [ej, wi_on (by omega)] at this
      omega
    have bd := pp_b (m := j) (c := 155) (by omega) (by omega)
    refine ⟨d0, _, r0, _, t1, bd, ?_⟩
    rw [ejn]
    refine ⟨fun w => ?_, fun w => ?_⟩
    · exact ⟨⟨rfl, rfl⟩, hn (fun v => w v.2)⟩
    · exact ⟨⟨rfl, rfl⟩, hy ⟨by omega, Decidable.not_not.mp w⟩⟩
def pp_c133 : wv_c1 := fun as T N I L R q => ∃ (C m : Nat), as = [.ref C] ∧ pp_D T R C ∧ C < 1000000 ∧ I C 8 = Int32.ofNat (m + 1) ∧ m < 155 ∧ q (.inl (some (.long (L (C + 2) m)))) T N (wv_u I C 8 (Int32.ofNat m)) L R 0 0
set_option maxRecDepth 100000 in
theorem wM_133 : ∃ cb ci np, pt_mt 133 = some (8, cb, 1, false, some .long, ci, np) := ⟨_, _, _, rfl⟩
set_option maxRecDepth 100000 in
set_option maxHeartbeats 4000000 in
theorem pp_dropCondition {sc : pt_Sc} {d : Nat} : wv_C wm_fx sc (d + 1) 133 pp_c133 := by
  rintro as T N I L R q ⟨C, m0, rfl, ⟨d0, ⟨r0, r1, r2, r3, r4, r5, r6, r7⟩, ⟨t1, t2, t3, t4, t5, t6⟩, ⟨k7, t7⟩, ⟨k8, t8⟩, ds, dc⟩, hC, h8, hm0, h⟩ w0 HR
  obtain ⟨cb, ci, np, hm⟩ := wM_133
  have k0 : C < 1099511627776 := by omega
  have k1 : C + 1 < 1099511627776 := by omega
  have k2 : C + 2 < 1099511627776 := by omega
  have k3 : C + 3 < 1099511627776 := by omega
  have k4 : C + 4 < 1099511627776 := by omega
  have k5 : C + 5 < 1099511627776 := by omega
  have k6 : C + 6 < 1099511627776 := by omega
  refine wv_meth (hh := none) rfl (sp := fun _ _ _ _ _ _ _ _ => False) (hd := fun _ => none) (n := 0) (n1 := 300) hm zc_133 rfl (fun k as T N I L R q h => by cases h) ?_ (fun pc P h => by cases h) HR
  have em : I C 8 - Int32.ofInt 1 = Int32.ofNat m0 := by
    rw [h8]
    apply wi_eq.mpr
    rw [wi_sub, wi_on (by omega), wi_of, wi_on (by omega), wr_id (x := 1) (by omega) (by omega), wr_id (by omega) (by omega)]
    omega
  have emn := wi_onn (n := m0) (by omega)
  have bd := pp_b hm0 (by omega)
  have u : wv_u I C 8 (Int32.ofNat m0) C 8 = Int32.ofNat m0 := wv_u_at _ _ _ _
  refine ⟨d0, ⟨d0, k0⟩, d0, _, r1, d0, _, t2, by rw [em, u]; exact bd, ?_⟩
  rw [em, u, emn]
  exact h
def pp_c161 : wv_c1 := fun as T N I L R q => ∃ (C c m : Nat), as = [.ref C, .int (Int32.ofNat m)] ∧ pp_D T R C ∧ C < 1000000 ∧ I C 9 = Int32.ofNat c ∧ c < 67 ∧ m < 155 ∧ q (.inl (some (.ref (C + 9 + c)))) T N (wv_u (wv_u I (C + 5) m (Int32.ofNat c)) C 9 (Int32.ofNat (c + 1))) L R 0 0
set_option maxRecDepth 100000 in
theorem wM_161 : ∃ cb ci np, pt_mt 161 = some (8, cb, 3, false, some (.object "AssertionBench$Sequence"), ci, np) := ⟨_, _, _, rfl⟩
set_option maxRecDepth 100000 in
set_option maxHeartbeats 4000000 in
theorem pp_addSequence {sc : pt_Sc} {d : Nat} : wv_C wm_fx sc (d + 1) 161 pp_c161 := by
  rintro as T N I L R q ⟨C, c, m0, rfl, ⟨d0, ⟨r0, r1, r2, r3, r4, r5, r6, r7⟩, ⟨t1, t2, t3, t4, t5, t6⟩, ⟨k7, t7⟩, ⟨k8, t8⟩, ds, dc⟩, hC, h9, hc, hm0, h⟩ w0 HR
  obtain ⟨cb, ci, np, hm⟩ := wM_161
  have k0 : C < 1099511627776 := by omega
  have k1 : C + 1 < 1099511627776 := by omega
  have k2 : C + 2 < 1099511627776 := by omega
  have k3 : C + 3 < 1099511627776 := by omega
  have k4 : C + 4 < 1099511627776 := by omega
  have k5 : C + 5 < 1099511627776 := by omega
  have k6 : C + 6 < 1099511627776 := by omega
  refine wv_meth (hh := none) rfl (sp := fun _ _ _ _ _ _ _ _ => False) (hd := fun _ => none) (n := 0) (n1 := 300) hm zc_161 rfl (fun k as T N I L R q h => by cases h) ?_ (fun pc P h => by cases h) HR
  have em := wi_on (n := c) (by omega)
  have ecn := wi_onn (n := c) (by omega)
  have emn := wi_onn (n := m0) (by omega)
  have bd := pp_b hm0 (by omega)
  have emin : (if (Int8.ofInt 66).toInt32 < I C 9 then (Int8.ofInt 66).toInt32 else I C 9) = Int32.ofNat c := by
    rw [h9]
    refine if_neg (fun z => ?_)
    have e : ((Int8.ofInt 66).toInt32).toInt = 66 := rfl
    rw [wi_lt, em, e] at z
    omega
  refine ⟨d0, d0, _, r4, _, t5, bd, k5, ?_⟩
  rw [emin, emn]
  refine ⟨⟨d0, k0⟩, d0, _, r6, _, _, _, t7, pp_b hc (by omega), by rw [ecn]; exact (ds c hc).1, ?_⟩
  rw [wq_4s c]
  exact h
def pp_c113 : wv_c1 := fun as T N I L R q => ∃ D : Nat, as = [.ref D] ∧ T D = some (.inl 9) ∧ D < 2000000 ∧ q (.inl none) T N (wv_u I D 8 (Int32.ofInt 0)) L R 0 0
set_option maxRecDepth 100000 in
theorem wM_113 : ∃ cb ci np, pt_mt 113 = some (10, cb, 1, false, none, ci, np) := ⟨_, _, _, rfl⟩
set_option maxRecDepth 100000 in
set_option maxHeartbeats 4000000 in
theorem pp_forget {sc : pt_Sc} {d : Nat} : wv_C wm_fx sc (d + 1) 113 pp_c113 := by
  rintro as T N I L R q ⟨D, rfl, d0, hD, h⟩ w0 HR
  obtain ⟨cb, ci, np, hm⟩ := wM_113
  refine wv_meth (hh := none) rfl (sp := fun _ _ _ _ _ _ _ _ => False) (hd := fun _ => none) (n := 0) (n1 := 300) hm zc_113 rfl (fun k as T N I L R q h => by cases h) ?_ (fun pc P h => by cases h) HR
  have k0 : D < 1099511627776 := by omega
  exact ⟨⟨d0, k0⟩, h⟩
/-- a property begun anew -/
def pp_F (C : Nat) (I I1 : Nat → Nat → Int32) : Prop := ∀ c j, ¬ (c = C ∧ (j = 8 ∨ j = 9)) → ¬ (j = 8 ∧ ∃ k, k < 4 ∧ c = C + 76 + 5 * k) → I1 c j = I c j
def pp_h112 (C : Nat) (T : wv_T) (N : Nat) (I : Nat → Nat → Int32) (L : Nat → Nat → Int64) (R : Nat → Nat → Option Nat) : Nat → Option (Nat → wv_P) := fun pc =>
  if pc = 12 then some (fun m lv st T1 N1 I1 L1 R1 nc ns => ∃ k : Nat, k ≤ 4 ∧ m + k = 4 ∧ lv = [some (.ref C), some (.int (Int32.ofNat k)), none] ∧ st = [] ∧ T1 = T ∧ N1 = N ∧ L1 = L ∧ R1 = R ∧ nc = 0 ∧ ns = 0 ∧ I1 C 8 = 0 ∧ I1 C 9 = 0 ∧ (∀ i, i < k → I1 (C + 76 + 5 * i) 8 = 0) ∧ pp_F C I I1) else none
def pp_c112 : wv_c1 := fun as T N I L R q => ∃ C : Nat, as = [.ref C] ∧ pp_D T R C ∧ C < 1000000 ∧ ∀ I1, I1 C 8 = 0 → I1 C 9 = 0 → (∀ i, i < 4 → I1 (C + 76 + 5 * i) 8 = 0) → pp_F C I I1 → q (.inl none) T N I1 L R 0 0
set_option maxRecDepth 100000 in
theorem wM_112 : ∃ cb ci np, pt_mt 112 = some (8, cb, 2, false, none, ci, np) := ⟨_, _, _, rfl⟩
set_option maxRecDepth 100000 in
set_option maxHeartbeats 4000000 in
theorem pp_reset {sc : pt_Sc} {d : Nat} : wv_C wm_fx sc (d + 1 + 1) 112 pp_c112 := by
  rintro as T N I L R q ⟨C, rfl, ⟨d0, ⟨r0, r1, r2, r3, r4, r5, r6, r7⟩, ⟨t1, t2, t3, t4, t5, t6⟩, ⟨k7, t7⟩, ⟨k8, t8⟩, ds, dc⟩, hC, h⟩ w0 HR
  obtain ⟨cb, ci, np, hm⟩ := wM_112
  have k0 : C < 1099511627776 := by omega
  have k1 : C + 1 < 1099511627776 := by omega
  have k2 : C + 2 < 1099511627776 := by omega
  have k3 : C + 3 < 1099511627776 := by omega
  have k4 : C + 4 < 1099511627776 := by omega
  have k5 : C + 5 < 1099511627776 := by omega
  have k6 : C + 6 < 1099511627776 := by omega
  have hc113 : wv_C wm_fx sc (d + 1) 113 pp_c113 := wv_C_deep (by omega) (pp_forget (d := d))
  refine wv_meth (hh := none) rfl (sp := wv_sp [(113, pp_c113)]) (hd := pp_h112 C T N I L R) (n := 300) (n1 := 300) hm zc_112 rfl (wv_sp_ok (fun q hq => by rw [List.mem_singleton.mp hq]; exact hc113)) ?_ ?_ HR
  · refine ⟨⟨d0, k0⟩, ⟨d0, k0⟩, ?_⟩
    refine ⟨4, 0, by omega, rfl, rfl, rfl, rfl, rfl, rfl, rfl, rfl, rfl, ?_, wv_u_at _ _ _ _, fun i hi => absurd hi (by omega), fun c j a b => ?_⟩
    · rw [wv_u_no _ _ (by omega)]; exact wv_u_at _ _ _ _
    · rw [wv_u_no _ _ (by omega), wv_u_no _ _ (by omega)]
  · intro pc P hP m lv st T1 N1 I1 L1 R1 nc ns hh
    unfold pp_h112 at hP
    split at hP
    · cases hP
      rename_i hpc
      subst hpc
      obtain ⟨k, hk, hm, rfl, rfl, rfl, rfl, rfl, rfl, rfl, rfl, a8, a9, ai, aF⟩ := hh
      have ek := wi_on (n := k) (by omega)
      have ekn := wi_onn (n := k) (by omega)
      have e4 : (Int32.ofInt 4).toInt = 4 := rfl
      refine ⟨fun w => ?_, fun w => ?_⟩
      · rw [wi_le, ek, e4] at w
        exact h I1 a8 a9 (fun i hi => ai i (by omega)) aF
      · rw [wi_le, ek, e4] at w
        refine ⟨d0, _, r7, _, _, _, t8, pp_b (m := k) (c := 4) (by omega) (by omega), by rw [ekn]; exact (dc k (by omega)).1, (dc k (by omega)).2, C + 76 + 5 * k, rfl, (dc k (by omega)).2, by omega, ?_⟩
        refine ⟨m - 1, by omega, k + 1, by omega, by omega, by rw [← wq_4s k]; rfl, rfl, rfl, rfl, rfl, rfl, rfl, rfl, ?_, ?_, fun i hi => ?_, fun c j a b => ?_⟩
        · rw [wv_u_no _ _ (by omega)]; exact a8
        · rw [wv_u_no _ _ (by omega)]; exact a9
        · by_cases e : i = k
          · rw [e]; exact wv_u_at _ _ _ _
          · rw [wv_u_no _ _ (by omega)]; exact ai i (by omega)
        · rw [wv_u_no _ _ (fun z => b ⟨z.2, k, by omega, z.1⟩)]; exact aF c j a b
    · cases hP
