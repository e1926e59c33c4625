/-! ===== word ===== -/
/-- the word's length, or where it failed -/
def ww (a k b : Nat) (I : Nat → Nat → Int32) (n : Int32) : Int32 := if n = 0 then I a k else I b (n - Int32.ofInt 1).toNatClampNeg
theorem ww_in {n : Int32} (h1 : ¬ n < 0) (h2 : n ≤ Int32.ofInt 2) (h3 : ¬ n = 0) : 0 ≤ n - Int32.ofInt 1 ∧ (n - Int32.ofInt 1).toInt < (2 : Nat) := by
  have a1 : 0 ≤ n.toInt := by rw [wi_lt, wi_0] at h1; omega
  have a2 : n.toInt ≤ 2 := by rw [wi_le, wi_of, wr_id (by omega) (by omega)] at h2; exact h2
  have a3 : ¬ n.toInt = 0 := fun z => h3 (wi_eq.mpr (by rw [z]; rfl))
  have e : (n - Int32.ofInt 1).toInt = n.toInt - 1 := by rw [wi_sub, wi_of, wr_id (x := 1) (by omega) (by omega), wr_id (by omega) (by omega)]
  exact ⟨by rw [wi_le, e, wi_0]; omega, by rw [e]; omega⟩
def wp_c411 : wv_c1 := fun as T N I L R q => ∃ n : Int32, as = [.ref 460, .int n] ∧ wm_T T ∧ (if n < 0 ∨ Int32.ofInt 2 < n then q (.inl (some (.int 0))) T N (wv_u I 460 0 1) L R 0 0 else q (.inl (some (.int (ww 460 46 490 (wv_u I 460 0 0) n)))) T N (wv_u I 460 0 0) L R 0 0)
set_option maxRecDepth 100000 in
theorem wp_m411 : ∃ cb ci np, pt_mt 411 = some (32, cb, 2, false, some .int, ci, np) := ⟨_, _, _, rfl⟩
set_option maxRecDepth 100000 in
theorem wp_word {sc : pt_Sc} {d : Nat} : wv_C wm_fx sc (d + 1 + 1) 411 wp_c411 := by
  rintro as T N I L R q ⟨n, rfl, hT, h⟩ w HR
  obtain ⟨cb, ci, np, hm⟩ := wp_m411
  have n10 : ¬ (1 : Int32) = 0 := by decide
  refine wv_meth (hh := none) rfl (sp := wv_sp [(345, wp_c345)]) (hd := fun _ => none) (n := 0) (n1 := 100) hm zc_411 rfl (wv_sp_ok (fun q hq => by rw [List.mem_singleton.mp hq]; exact wp_refuse)) ?_ (fun pc P h => by cases h) HR
  refine ⟨?_, ?_⟩
  · intro h1
    rw [if_pos (Or.inl h1)] at h
    refine ⟨_, _, rfl, ?_⟩
    rw [if_neg (by decide)]
    exact ⟨fun z => (n10 z).elim, fun _ => h⟩
  · intro h1
    refine ⟨?_, ?_⟩
    · intro h2
      rw [if_neg (fun z => z.elim h1 (fun y => Int32.not_lt.mpr h2 y))] at h
      refine ⟨_, _, rfl, ?_⟩
      rw [if_pos (by decide), if_pos (by decide)]
      refine ⟨fun _ => ?_, fun z => (z rfl).elim⟩
      unfold ww at h
      refine ⟨?_, ?_⟩
      · intro h3
        rw [if_neg h3] at h
        exact ⟨_, wm_t hT rfl, ww_in h1 h2 h3, h⟩
      · intro h3
        rw [if_pos (Decidable.not_not.mp h3)] at h
        exact h
    · intro h2
      rw [if_pos (Or.inr (Int32.not_le.mp h2))] at h
      refine ⟨_, _, rfl, ?_⟩
      rw [if_neg (by decide)]
      exact ⟨fun z => (n10 z).elim, fun _ => h⟩
def wq_c187 : wv_c1 := fun as T N I L R q => ∃ n : Int32, as = [.ref 0, .int n] ∧ wm_T T ∧ (if n < 0 ∨ Int32.ofInt 2 < n then q (.inr 0) T N I L R 1 6 else q (.inl (some (.int (ww 0 16 345 I n)))) T N I L R 0 0)
set_option maxRecDepth 100000 in
theorem wq_m187 : ∃ cb ci np, pt_mt 187 = some (1, cb, 2, false, some .int, ci, np) := ⟨_, _, _, rfl⟩
set_option maxRecDepth 100000 in
theorem wq_word {sc : pt_Sc} {d : Nat} : wv_C wm_fx sc (d + 1) 187 wq_c187 := by
  rintro as T N I L R q ⟨n, rfl, hT, h⟩ w HR
  obtain ⟨cb, ci, np, hm⟩ := wq_m187
  refine wv_meth (hh := none) rfl (sp := fun _ _ _ _ _ _ _ _ => False) (hd := fun _ => none) (n := 0) (n1 := 100) hm zc_187 rfl (fun k as T N I L R q h => by cases h) ?_ (fun pc P h => by cases h) HR
  refine ⟨?_, ?_⟩
  · intro h1
    rw [if_pos (Or.inl h1)] at h
    exact h
  · intro h1
    refine ⟨?_, ?_⟩
    · intro h2
      rw [if_neg (fun z => z.elim h1 (fun y => Int32.not_lt.mpr h2 y))] at h
      unfold ww at h
      refine ⟨?_, ?_⟩
      · intro h3
        rw [if_neg h3] at h
        exact ⟨_, wm_t hT rfl, ww_in h1 h2 h3, h⟩
      · intro h3
        rw [if_pos (Decidable.not_not.mp h3)] at h
        exact h
    · intro h2
      rw [if_pos (Or.inr (Int32.not_le.mp h2))] at h
      exact h
set_option maxRecDepth 100000 in
theorem wl_186 : wl_ok 186 4 [(0, 1)] = true := by decide +kernel
def wl_c186 : wv_c1 := fun as T N I L R q => ∃ n : Int32, as = [.ref 0, .int n, .ref 536] ∧ T 536 = some (.inr (1, 1)) ∧ wm_T T ∧ (if n < 0 ∨ Int32.ofInt 2 < n then q (.inl (some (.int 1))) T N I L R 1 6 else q (.inl (some (.int 0))) T N I (wv_u L 536 0 (ww 0 16 345 I n).toInt64) R 0 0)
set_option maxRecDepth 100000 in
theorem wl_m186 : ∃ cb ci np, pt_mt 186 = some (0, cb, 4, false, some .int, ci, np) := ⟨_, _, _, rfl⟩
set_option maxRecDepth 100000 in
theorem wl_word {sc : pt_Sc} {d : Nat} : wv_C wm_fx sc (d + 1 + 1) 186 wl_c186 := by
  rintro as T N I L R q ⟨n, rfl, h537, hT, h⟩ w HR
  obtain ⟨cb, ci, np, hm⟩ := wl_m186
  refine wv_meth (hh := some (wl_f 4 [(0, 1)])) rfl (sp := wv_sp [(187, wq_c187)]) (hd := fun _ => none) (n := 0) (n1 := 100) hm zc_186 (wl_HH hm wl_186) (wv_sp_ok (fun q hq => by rw [List.mem_singleton.mp hq]; exact wq_word)) ?_ (fun pc P h => by cases h) HR
  refine ⟨_, rfl, hT, ?_⟩
  split
  · rename_i h1
    rw [if_pos h1] at h
    exact ⟨Or.inl rfl, h⟩
  · rename_i h1
    rw [if_neg h1] at h
    exact ⟨_, h537, ⟨by decide, by decide⟩, by decide, h⟩
