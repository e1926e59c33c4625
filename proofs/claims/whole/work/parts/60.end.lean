/-! ===== end ===== -/
def wp_c346 : wv_c1 := fun as T N I L R q => ∃ n : Int32, as = [.ref 460, .int n] ∧ (if n < 0 ∨ I 460 2 < n then q (.inl none) T N (wv_u I 460 0 1) L R 0 0 else q (.inl none) T N (wv_u (wv_u I 460 0 0) 460 2 n) L R 0 0)
set_option maxRecDepth 100000 in
theorem wp_m346 : ∃ cb ci np, pt_mt 346 = some (32, cb, 2, false, none, ci, np) := ⟨_, _, _, rfl⟩
set_option maxRecDepth 100000 in
theorem wp_end {sc : pt_Sc} {d : Nat} : wv_C wm_fx sc (d + 1 + 1) 346 wp_c346 := by
  rintro as T N I L R q ⟨n, rfl, h⟩ w HR
  obtain ⟨cb, ci, np, hm⟩ := wp_m346
  have n10 : ¬ (1 : Int32) = 0 := by decide
  refine wv_meth (hh := none) rfl (sp := wv_sp [(345, wp_c345)]) (hd := fun _ => none) (n := 0) (n1 := 100) hm zc_346 rfl (wv_sp_ok (fun q hq => by rw [List.mem_singleton.mp hq]; exact wp_refuse)) ?_ (fun pc P h => by cases h) HR
  refine ⟨?_, ?_⟩
  · intro h1
    rw [if_pos (Or.inl h1)] at h
    refine ⟨_, _, rfl, ?_⟩
    rw [if_neg (by decide)]
    exact ⟨fun _ => h, fun z => (z n10).elim⟩
  · intro h1
    refine ⟨?_, ?_⟩
    · intro h2
      rw [if_neg (fun z => z.elim h1 (fun y => Int32.not_lt.mpr h2 y))] at h
      refine ⟨_, _, rfl, ?_⟩
      rw [if_pos (by decide), if_pos (by decide)]
      exact ⟨fun z => (z rfl).elim, fun _ => h⟩
    · intro h2
      rw [if_pos (Or.inr (Int32.not_le.mp h2))] at h
      refine ⟨_, _, rfl, ?_⟩
      rw [if_neg (by decide)]
      exact ⟨fun _ => h, fun z => (z n10).elim⟩
def wp_c79 : wv_c1 := fun as T N I L R q => ∃ n : Int32, as = [.ref 1, .int n] ∧ q (.inl none) T N (wv_u I 1 6 n) L R 0 0
set_option maxRecDepth 100000 in
theorem wp_m79 : ∃ cb ci np, pt_mt 79 = some (2, cb, 2, false, none, ci, np) := ⟨_, _, _, rfl⟩
set_option maxRecDepth 100000 in
theorem wp_cut {sc : pt_Sc} {d : Nat} : wv_C wm_fx sc (d + 1) 79 wp_c79 := by
  rintro as T N I L R q ⟨n, rfl, h⟩ w HR
  obtain ⟨cb, ci, np, hm⟩ := wp_m79
  refine wv_meth (hh := none) rfl (sp := fun _ _ _ _ _ _ _ _ => False) (hd := fun _ => none) (n := 0) (n1 := 100) hm zc_79 rfl (fun k as T N I L R q h => by cases h) ?_ (fun pc P h => by cases h) HR
  exact h
def wq_c98 : wv_c1 := fun as T N I L R q => ∃ n : Int32, as = [.ref 0, .int n] ∧ (if n < 0 ∨ I 1 6 < n then q (.inr 0) T N I L R 1 6 else q (.inl none) T N (wv_u I 1 6 n) L R 0 0)
set_option maxRecDepth 100000 in
theorem wq_m98 : ∃ cb ci np, pt_mt 98 = some (1, cb, 2, false, none, ci, np) := ⟨_, _, _, rfl⟩
set_option maxRecDepth 100000 in
theorem wq_end {sc : pt_Sc} {d : Nat} : wv_C wm_fx sc (d + 1 + 1) 98 wq_c98 := by
  rintro as T N I L R q ⟨n, rfl, h⟩ w HR
  obtain ⟨cb, ci, np, hm⟩ := wq_m98
  refine wv_meth (hh := none) rfl (sp := wv_sp [(24, wp_c24), (79, wp_c79)]) (hd := fun _ => none) (n := 0) (n1 := 100) hm zc_98 rfl (wv_sp_ok (fun q hq => by rcases List.mem_cons.mp hq with h | h; rw [h]; exact wp_count; rw [List.mem_singleton.mp h]; exact wp_cut)) ?_ (fun pc P h => by cases h) HR
  refine ⟨?_, ?_⟩
  · intro h1
    rw [if_pos (Or.inl h1)] at h
    exact h
  · intro h1
    refine ⟨rfl, ?_⟩
    refine ⟨?_, ?_⟩
    · intro h2
      rw [if_neg (fun z => z.elim h1 (fun y => Int32.not_lt.mpr h2 y))] at h
      exact ⟨_, rfl, h⟩
    · intro h2
      rw [if_pos (Or.inr (Int32.not_le.mp h2))] at h
      exact h
set_option maxRecDepth 100000 in
theorem wl_97 : wl_ok 97 2 [(0, 1)] = true := by decide +kernel
def wl_c97 : wv_c1 := fun as T N I L R q => ∃ n : Int32, as = [.ref 0, .int n] ∧ (if n < 0 ∨ I 1 6 < n then q (.inl (some (.int 1))) T N I L R 1 6 else q (.inl (some (.int 0))) T N (wv_u I 1 6 n) L R 0 0)
set_option maxRecDepth 100000 in
theorem wl_m97 : ∃ cb ci np, pt_mt 97 = some (0, cb, 3, false, some .int, ci, np) := ⟨_, _, _, rfl⟩
set_option maxRecDepth 100000 in
theorem wl_end {sc : pt_Sc} {d : Nat} : wv_C wm_fx sc (d + 1 + 1 + 1) 97 wl_c97 := by
  rintro as T N I L R q ⟨n, rfl, h⟩ w HR
  obtain ⟨cb, ci, np, hm⟩ := wl_m97
  refine wv_meth (hh := some (wl_f 2 [(0, 1)])) rfl (sp := wv_sp [(98, wq_c98)]) (hd := fun _ => none) (n := 0) (n1 := 100) hm zc_97 (wl_HH hm wl_97) (wv_sp_ok (fun q hq => by rw [List.mem_singleton.mp hq]; exact wq_end)) ?_ (fun pc P h => by cases h) HR
  refine ⟨_, rfl, ?_⟩
  split
  · rename_i h1
    rw [if_pos h1] at h
    exact ⟨Or.inl rfl, h⟩
  · rename_i h1
    rw [if_neg h1] at h
    exact h
