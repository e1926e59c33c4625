/-! ===== design: the class's own call, the law ===== -/
def wh_c80 : wv_c1 := fun as T N I L R q => ∃ r : Nat, as = [.ref r] ∧ T r = some (.inl 11) ∧ r < 1099511627776 ∧ q (.inl none) T N (wv_u I r 8 (Int32.ofInt 0)) L R 0 0
set_option maxRecDepth 100000 in
theorem wh_m80 : ∃ cb ci np, pt_mt 80 = some (16, cb, 1, false, none, ci, np) := ⟨_, _, _, rfl⟩
set_option maxRecDepth 100000 in
theorem wh_forget {sc : pt_Sc} {d : Nat} : wv_C wm_fx sc (d + 1) 80 wh_c80 := by
  rintro as T N I L R q ⟨r, rfl, hT, hr, h⟩ w HR
  obtain ⟨cb, ci, np, hm⟩ := wh_m80
  refine wv_meth (hh := none) rfl (sp := fun _ _ _ _ _ _ _ _ => False) (hd := fun _ => none) (n := 0) (n1 := 100) hm zc_80 rfl (fun k as T N I L R q h => by cases h) ?_ (fun pc P h => by cases h) HR
  exact ⟨⟨hT, hr⟩, h⟩
def wq_c311 : wv_c1 := fun as T N I L R q => ∃ (a b : Int32) (C : Nat), as = [.ref 0, .int a, .int b] ∧ R 0 14 = some C ∧ wd_D T R C ∧ C < 1099511000000 ∧ T 325 = some (.inl 11) ∧ (wg_bad a b → q (.inr 0) T N I L R 1 6) ∧ (¬ wg_bad a b → q (.inl none) T N (wv_u (wd_new C a b I) 325 8 (Int32.ofInt 0)) L R 0 0)
set_option maxRecDepth 100000 in
theorem wq_m311 : ∃ cb ci np, pt_mt 311 = some (1, cb, 3, false, none, ci, np) := ⟨_, _, _, rfl⟩
set_option maxRecDepth 100000 in
theorem wq_design {sc : pt_Sc} {d : Nat} : wv_C wm_fx sc (d + 1 + 1 + 1) 311 wq_c311 := by
  rintro as T N I L R q ⟨a, b, C, rfl, hC, hD, hC0, h325, hb, hg⟩ w HR
  obtain ⟨cb, ci, np, hm⟩ := wq_m311
  have e0 : wv_C wm_fx sc (d + 1 + 1) 80 wh_c80 := wv_C_deep (by omega) (wh_forget (d := d))
  refine wv_meth (hh := none) rfl (sp := wv_sp [(58, wd_c58), (80, wh_c80)]) (hd := fun _ => none) (n := 0) (n1 := 100) hm zc_311 rfl (wv_sp_ok (fun q hq => by rcases List.mem_cons.mp hq with h | h; rw [h]; exact wd_reset; rw [List.mem_singleton.mp h]; exact e0)) ?_ (fun pc P h => by cases h) HR
  refine ⟨fun h1 => hb (Or.inl h1), fun h1 => ?_⟩
  refine ⟨fun h2 => hb (Or.inr (Or.inl h2)), fun h2 => ?_⟩
  refine ⟨fun h3 => hb (Or.inr (Or.inr (Or.inl h3))), fun h3 => ?_⟩
  refine ⟨fun h4 => ?_, fun h4 => hb (Or.inr (Or.inr (Or.inr (Int32.not_le.mp h4))))⟩
  have hnb : ¬ wg_bad a b := fun z => z.elim h1 (fun z => z.elim h2 (fun z => z.elim h3 (fun z => Int32.not_lt.mpr h4 z)))
  have b0 : 0 ≤ b.toInt := by rw [wi_lt, wi_0] at h3; omega
  have b5 : b.toInt ≤ 5 := by rw [wi_le, wi_of, wr_id (by omega) (by omega)] at h4; exact h4
  refine ⟨C, hC, hD.1, C, a, b, rfl, hD, hC0, b0, b5, ?_⟩
  exact ⟨h325, 325, rfl, h325, by decide, hg hnb⟩
set_option maxRecDepth 100000 in
theorem wl_310 : wl_ok 310 3 [(0, 1)] = true := by decide +kernel
def wl_c310 : wv_c1 := fun as T N I L R q => ∃ (a b : Int32) (C : Nat), as = [.ref 0, .int a, .int b] ∧ R 0 14 = some C ∧ wd_D T R C ∧ C < 1099511000000 ∧ T 325 = some (.inl 11) ∧ (wg_bad a b → q (.inl (some (.int 1))) T N I L R 1 6) ∧ (¬ wg_bad a b → q (.inl (some (.int 0))) T N (wv_u (wd_new C a b I) 325 8 (Int32.ofInt 0)) L R 0 0)
set_option maxRecDepth 100000 in
theorem wl_m310 : ∃ cb ci np, pt_mt 310 = some (0, cb, 4, false, some .int, ci, np) := ⟨_, _, _, rfl⟩
set_option maxRecDepth 100000 in
theorem wl_design {sc : pt_Sc} {d : Nat} : wv_C wm_fx sc (d + 1 + 1 + 1 + 1) 310 wl_c310 := by
  rintro as T N I L R q ⟨a, b, C, rfl, hC, hD, hC0, h325, hb, hg⟩ w HR
  obtain ⟨cb, ci, np, hm⟩ := wl_m310
  refine wv_meth (hh := some (wl_f 3 [(0, 1)])) rfl (sp := wv_sp [(311, wq_c311)]) (hd := fun _ => none) (n := 0) (n1 := 100) hm zc_310 (wl_HH hm wl_310) (wv_sp_ok (fun q hq => by rw [List.mem_singleton.mp hq]; exact wq_design)) ?_ (fun pc P h => by cases h) HR
  exact ⟨a, b, C, rfl, hC, hD, hC0, h325, fun h => ⟨Or.inl rfl, hb h⟩, fun h => hg h⟩
