/-! ===== the class: which sequences have classes ===== -/
def kk_s : Int32 := (Int8.ofInt 6).toInt32
def kc_c201 : wv_c1 := fun as T N I L R q => ∃ (pi : Int32) (C : Nat → Nat), as = [.ref 0, .int pi] ∧ (∃ k1, T 27 = some (.inr (k1 + 4, 2))) ∧ (∀ p, p < 2 → R 27 p = some (C p) ∧ pp_D T R (C p)) ∧ (rw_bp pi → q (.inr 2) T N I L R 1 6) ∧ ∀ p, p < 2 → pi = Int32.ofNat p → (I (C p) 9 = 0 → q (.inr 3) T N I L R 1 6) ∧ (¬ I (C p) 9 = 0 → (¬ I (C p + 9 + 0) 2 ≤ kk_s → q (.inr 1) T N I L R 1 6) ∧ (I (C p + 9 + 0) 2 ≤ kk_s → q (.inl none) T N I L R 0 0))
set_option maxRecDepth 100000 in
theorem wM_201 : ∃ cb ci np, pt_mt 201 = some (1, cb, 2, false, none, ci, np) := ⟨_, _, _, rfl⟩
set_option maxRecDepth 100000 in
set_option maxHeartbeats 4000000 in
theorem kc_checkClasses {sc : pt_Sc} {d : Nat} : wv_C wm_fx sc (d + 1 + 1 + 1) 201 kc_c201 := by
  rintro as T N I L R q ⟨pi, C, rfl, t27, hR, hb, h⟩ w0 HR
  obtain ⟨cb, ci, np, hm⟩ := wM_201
  have hc101 : wv_C wm_fx sc (d + 1 + 1) 101 wq_c101 := wv_C_deep (by omega) (wq_checkP (d := d))
  have hc191 : wv_C wm_fx sc (d + 1 + 1) 191 rw_c191 := wv_C_deep (by omega) (rw_checkSeq (d := d))
  have hc194 : wv_C wm_fx sc (d + 1 + 1) 194 rw_c194 := wv_C_deep (by omega) (rw_sequence (d := d))
  have hc202 : wv_C wm_fx sc (d + 1 + 1) 202 sq_c202 := wv_C_deep (by omega) (sq_weight (d := d))
  refine wv_meth (hh := none) rfl (sp := wv_sp [(101, wq_c101), (191, rw_c191), (194, rw_c194), (202, sq_c202)]) (hd := fun _ => none) (n := 0) (n1 := 300) hm zc_201 rfl (wv_sp_ok (fun q hq => by
    rcases List.mem_cons.mp hq with h | h
    · rw [h]; exact hc101
    rcases List.mem_cons.mp h with h | h
    · rw [h]; exact hc191
    rcases List.mem_cons.mp h with h | h
    · rw [h]; exact hc194
    rw [List.mem_singleton.mp h]; exact hc202)) ?_ (fun pc P h => by cases h) HR
  refine ⟨pi, rfl, fun z => ⟨Or.inr rfl, hb z⟩, fun z => ?_⟩
  obtain ⟨p, hp, e⟩ := rw_bp_n z
  obtain ⟨h1, h2⟩ := h p hp e
  obtain ⟨q1, q2⟩ := hR p hp
  refine ⟨p, C p, by rw [e]; rfl, hp, t27, q1, q2.1, fun y => ⟨Or.inl rfl, h1 y⟩, fun y => ?_⟩
  obtain ⟨h3, h4⟩ := h2 y
  obtain ⟨k1, t27⟩ := t27
  have hQ := (q2.2.2.2.2.2.1 0 (by omega)).2
  refine ⟨_, _, _, t27, by rw [e]; exact pp_b (c := 2) hp (by omega), by rw [e, wi_onn (by omega)]; exact q1, ?_⟩
  refine ⟨q2.1, C p, 0, rfl, q2, by omega, ?_⟩
  refine ⟨hQ, C p + 9 + 0, rfl, hQ, ?_⟩
  exact ⟨fun w => h4 w, fun w => h3 w⟩
