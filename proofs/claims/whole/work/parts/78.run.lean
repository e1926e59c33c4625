/-! ===== run and witness ===== -/
/-- a hunt of the class lies so -/
def wh_H (T : wv_T) (R : Nat → Nat → Option Nat) (H : Nat) : Prop := T H = some (.inl 11) ∧ (∀ k, k < 7 → R H k = some (H + 1 + k)) ∧ T (H + 1) = some (.inr (0, 13)) ∧ T (H + 2) = some (.inr (0, 13)) ∧ T (H + 3) = some (.inr (0, 13)) ∧ T (H + 4) = some (.inr (0, 12)) ∧ T (H + 5) = some (.inr (0, 12)) ∧ T (H + 6) = some (.inr (0, 12)) ∧ T (H + 7) = some (.inr (0, 256))
def wh_c334 : wv_c1 := fun as T N I L R q => ∃ H : Nat, as = [.ref H] ∧ T H = some (.inl 11) ∧ q (.inl (some (.int (I H 8)))) T N I L R 0 0
set_option maxRecDepth 100000 in
theorem wM_334 : ∃ cb ci np, pt_mt 334 = some (16, cb, 1, false, some .int, ci, np) := ⟨_, _, _, rfl⟩
set_option maxRecDepth 100000 in
set_option maxHeartbeats 4000000 in
theorem wh_found {sc : pt_Sc} {d : Nat} : wv_C wm_fx sc (d + 1) 334 wh_c334 := by
  rintro as T N I L R q ⟨H, rfl, hH, h⟩ w HR
  obtain ⟨cb, ci, np, hm⟩ := wM_334
  refine wv_meth (hh := none) rfl (sp := fun _ _ _ _ _ _ _ _ => False) (hd := fun _ => none) (n := 0) (n1 := 300) hm zc_334 rfl (fun k as T N I L R q h => by cases h) ?_ (fun pc P h => by cases h) HR
  exact ⟨hH, h⟩
def wh_c335 : wv_c1 := fun as T N I L R q => ∃ (H : Nat) (t : Int32), as = [.ref H, .int t] ∧ wh_H T R H ∧ (0 ≤ t ∧ t.toInt < (12 : Nat)) ∧ q (.inl (some (.int (I (H + 4) t.toNatClampNeg)))) T N I L R 0 0
set_option maxRecDepth 100000 in
theorem wM_335 : ∃ cb ci np, pt_mt 335 = some (16, cb, 2, false, some .int, ci, np) := ⟨_, _, _, rfl⟩
set_option maxRecDepth 100000 in
set_option maxHeartbeats 4000000 in
theorem wh_inputsAt {sc : pt_Sc} {d : Nat} : wv_C wm_fx sc (d + 1) 335 wh_c335 := by
  rintro as T N I L R q ⟨H, t, rfl, hH, ht, h⟩ w HR
  obtain ⟨cb, ci, np, hm⟩ := wM_335
  refine wv_meth (hh := none) rfl (sp := fun _ _ _ _ _ _ _ _ => False) (hd := fun _ => none) (n := 0) (n1 := 300) hm zc_335 rfl (fun k as T N I L R q h => by cases h) ?_ (fun pc P h => by cases h) HR
  exact ⟨hH.1, _, hH.2.1 3 (by decide), _, hH.2.2.2.2.2.1, ht, h⟩
def wh_c336 : wv_c1 := fun as T N I L R q => ∃ (H : Nat) (t : Int32), as = [.ref H, .int t] ∧ wh_H T R H ∧ (0 ≤ t ∧ t.toInt < (12 : Nat)) ∧ q (.inl (some (.int (I (H + 5) t.toNatClampNeg)))) T N I L R 0 0
set_option maxRecDepth 100000 in
theorem wM_336 : ∃ cb ci np, pt_mt 336 = some (16, cb, 2, false, some .int, ci, np) := ⟨_, _, _, rfl⟩
set_option maxRecDepth 100000 in
set_option maxHeartbeats 4000000 in
theorem wh_letterAt {sc : pt_Sc} {d : Nat} : wv_C wm_fx sc (d + 1) 336 wh_c336 := by
  rintro as T N I L R q ⟨H, t, rfl, hH, ht, h⟩ w HR
  obtain ⟨cb, ci, np, hm⟩ := wM_336
  refine wv_meth (hh := none) rfl (sp := fun _ _ _ _ _ _ _ _ => False) (hd := fun _ => none) (n := 0) (n1 := 300) hm zc_336 rfl (fun k as T N I L R q h => by cases h) ?_ (fun pc P h => by cases h) HR
  exact ⟨hH.1, _, hH.2.1 4 (by decide), _, hH.2.2.2.2.2.2.1, ht, h⟩
def wh_c337 : wv_c1 := fun as T N I L R q => ∃ (H : Nat) (t : Int32), as = [.ref H, .int t] ∧ wh_H T R H ∧ (0 ≤ t ∧ t.toInt < (12 : Nat)) ∧ q (.inl (some (.int (I (H + 6) t.toNatClampNeg)))) T N I L R 0 0
set_option maxRecDepth 100000 in
theorem wM_337 : ∃ cb ci np, pt_mt 337 = some (16, cb, 2, false, some .int, ci, np) := ⟨_, _, _, rfl⟩
set_option maxRecDepth 100000 in
set_option maxHeartbeats 4000000 in
theorem wh_latchesAt {sc : pt_Sc} {d : Nat} : wv_C wm_fx sc (d + 1) 337 wh_c337 := by
  rintro as T N I L R q ⟨H, t, rfl, hH, ht, h⟩ w HR
  obtain ⟨cb, ci, np, hm⟩ := wM_337
  refine wv_meth (hh := none) rfl (sp := fun _ _ _ _ _ _ _ _ => False) (hd := fun _ => none) (n := 0) (n1 := 300) hm zc_337 rfl (fun k as T N I L R q h => by cases h) ?_ (fun pc P h => by cases h) HR
  exact ⟨hH.1, _, hH.2.1 5 (by decide), _, hH.2.2.2.2.2.2.2.1, ht, h⟩
def wq_c333 : wv_c1 := fun as T N I L R q => ∃ (H : Nat) (t : Int32), as = [.ref H, .int t] ∧ T H = some (.inl 11) ∧ (if I H 8 = 0 then q (.inr 3) T N I L R 1 6 else if t < 0 ∨ I H 8 ≤ t then q (.inr 2) T N I L R 1 6 else q (.inl none) T N I L R 0 0)
set_option maxRecDepth 100000 in
theorem wM_333 : ∃ cb ci np, pt_mt 333 = some (1, cb, 2, false, none, ci, np) := ⟨_, _, _, rfl⟩
set_option maxRecDepth 100000 in
set_option maxHeartbeats 4000000 in
theorem wq_checkFound {sc : pt_Sc} {d : Nat} : wv_C wm_fx sc (d + 1 + 1) 333 wq_c333 := by
  rintro as T N I L R q ⟨H, t, rfl, hH, h⟩ w HR
  obtain ⟨cb, ci, np, hm⟩ := wM_333
  have hc334 : wv_C wm_fx sc (d + 1) 334 wh_c334 := wv_C_deep (by omega) (wh_found (d := d))
  refine wv_meth (hh := none) rfl (sp := wv_sp [(334, wh_c334)]) (hd := fun _ => none) (n := 0) (n1 := 300) hm zc_333 rfl (wv_sp_ok (fun q hq => by rw [List.mem_singleton.mp hq]; exact hc334)) ?_ (fun pc P h => by cases h) HR
  refine ⟨hH, H, rfl, hH, ?_⟩
  refine ⟨fun h1 => ?_, fun h1 => ?_⟩
  · rw [if_neg h1] at h
    refine ⟨fun h2 => ?_, fun h2 => ?_⟩
    · rw [if_pos (Or.inl h2)] at h
      exact h
    · refine ⟨hH, H, rfl, hH, ?_⟩
      refine ⟨fun h3 => ?_, fun h3 => ?_⟩
      · rw [if_neg (fun z => z.elim h2 (fun z => Int32.not_lt.mpr z h3))] at h
        exact h
      · rw [if_pos (Or.inr (Int32.not_lt.mp h3))] at h
        exact h
  · rw [if_pos (Decidable.not_not.mp h1)] at h
    exact h
/-- what run tells -/
def wh_run (i0 i1 i2 : Int32) (n : Int32) : Int32 := if n = 0 then i0 else if n = 1 then i1 else i2
theorem wh_b {t f : Int32} (h : ¬ (t < 0 ∨ f ≤ t)) (hf : f.toInt ≤ 12) : 0 ≤ t ∧ t.toInt < (12 : Nat) := by
  have h1 : ¬ t < 0 := fun z => h (Or.inl z)
  have h2 : ¬ f ≤ t := fun z => h (Or.inr z)
  rw [wi_lt, wi_0] at h1
  rw [wi_le] at h2
  exact ⟨by rw [wi_le, wi_0]; omega, by omega⟩
def wh_bw (n : Int32) : Prop := n < 0 ∨ 2 < n.toInt
def wq_c332 : wv_c1 := fun as T N I L R q => ∃ t n : Int32, as = [.ref 0, .int t, .int n] ∧ wh_H T R 325 ∧ (I 325 8).toInt ≤ 12 ∧ (I 325 8 = 0 → q (.inr 3) T N I L R 1 6) ∧ (¬ I 325 8 = 0 → (t < 0 ∨ I 325 8 ≤ t) → q (.inr 2) T N I L R 1 6) ∧ (¬ I 325 8 = 0 → ¬ (t < 0 ∨ I 325 8 ≤ t) → wh_bw n → q (.inr 0) T N I L R 1 6) ∧ (¬ I 325 8 = 0 → ¬ (t < 0 ∨ I 325 8 ≤ t) → ¬ wh_bw n → q (.inl (some (.int (wh_run (I 329 t.toNatClampNeg) (I 330 t.toNatClampNeg) (I 331 t.toNatClampNeg) n)))) T N I L R 0 0)
set_option maxRecDepth 100000 in
theorem wM_332 : ∃ cb ci np, pt_mt 332 = some (1, cb, 3, false, some .int, ci, np) := ⟨_, _, _, rfl⟩
set_option maxRecDepth 100000 in
set_option maxHeartbeats 4000000 in
theorem wq_run {sc : pt_Sc} {d : Nat} : wv_C wm_fx sc (d + 1 + 1 + 1) 332 wq_c332 := by
  rintro as T N I L R q ⟨t, n, rfl, hH, hf, q1, q2, q3, q4⟩ w HR
  obtain ⟨cb, ci, np, hm⟩ := wM_332
  have hc333 : wv_C wm_fx sc (d + 1 + 1) 333 wq_c333 := wv_C_deep (by omega) (wq_checkFound (d := d))
  have hc335 : wv_C wm_fx sc (d + 1 + 1) 335 wh_c335 := wv_C_deep (by omega) (wh_inputsAt (d := d))
  have hc336 : wv_C wm_fx sc (d + 1 + 1) 336 wh_c336 := wv_C_deep (by omega) (wh_letterAt (d := d))
  have hc337 : wv_C wm_fx sc (d + 1 + 1) 337 wh_c337 := wv_C_deep (by omega) (wh_latchesAt (d := d))
  refine wv_meth (hh := none) rfl (sp := wv_sp [(333, wq_c333), (335, wh_c335), (336, wh_c336), (337, wh_c337)]) (hd := fun _ => none) (n := 0) (n1 := 300) hm zc_332 rfl (wv_sp_ok (fun q hq => by
    rcases List.mem_cons.mp hq with h | h
    · rw [h]; exact hc333
    rcases List.mem_cons.mp h with h | h
    · rw [h]; exact hc335
    rcases List.mem_cons.mp h with h | h
    · rw [h]; exact hc336
    rw [List.mem_singleton.mp h]; exact hc337)) ?_ (fun pc P h => by cases h) HR
  have e2 : (Int32.ofInt 2).toInt = 2 := rfl
  refine ⟨325, t, rfl, hH.1, ?_⟩
  by_cases h0 : I 325 8 = 0
  · rw [if_pos h0]
    exact ⟨Or.inr rfl, q1 h0⟩
  rw [if_neg h0]
  by_cases h1 : t < 0 ∨ I 325 8 ≤ t
  · rw [if_pos h1]
    exact ⟨Or.inr rfl, q2 h0 h1⟩
  rw [if_neg h1]
  have bt := wh_b h1 hf
  refine ⟨fun h2 => q3 h0 h1 (Or.inl h2), fun h2 => ?_⟩
  refine ⟨fun h3 => ?_, fun h3 => ?_⟩
  · have h4 := q4 h0 h1 (fun z => z.elim h2 (fun z => by rw [wi_le, e2] at h3; omega))
    unfold wh_run at h4
    refine ⟨fun h5 => ?_, fun h5 => ?_⟩
    · rw [if_neg h5] at h4
      refine ⟨fun h6 => ?_, fun h6 => ?_⟩
      · rw [if_neg (show ¬ n = 1 from h6)] at h4
        exact ⟨hH.1, 325, t, rfl, hH, bt, h4⟩
      · rw [if_pos (show n = 1 from Decidable.not_not.mp h6)] at h4
        exact ⟨hH.1, 325, t, rfl, hH, bt, h4⟩
    · rw [if_pos (Decidable.not_not.mp h5)] at h4
      exact ⟨hH.1, 325, t, rfl, hH, bt, h4⟩
  · exact q3 h0 h1 (Or.inr (by rw [wi_le, e2] at h3; omega))
def wl_c331 : wv_c1 := fun as T N I L R q => ∃ t n : Int32, as = [.ref 0, .int t, .int n, .ref 536] ∧ T 536 = some (.inr (1, 1)) ∧ wh_H T R 325 ∧ (I 325 8).toInt ≤ 12 ∧ (I 325 8 = 0 → q (.inl (some (.int 1))) T N I L R 1 6) ∧ (¬ I 325 8 = 0 → (t < 0 ∨ I 325 8 ≤ t) → q (.inl (some (.int 2))) T N I L R 1 6) ∧ (¬ I 325 8 = 0 → ¬ (t < 0 ∨ I 325 8 ≤ t) → wh_bw n → q (.inl (some (.int 3))) T N I L R 1 6) ∧ (¬ I 325 8 = 0 → ¬ (t < 0 ∨ I 325 8 ≤ t) → ¬ wh_bw n → q (.inl (some (.int 0))) T N I (wv_u L 536 0 (wh_run (I 329 t.toNatClampNeg) (I 330 t.toNatClampNeg) (I 331 t.toNatClampNeg) n).toInt64) R 0 0)
set_option maxRecDepth 100000 in
theorem wM_331 : ∃ cb ci np, pt_mt 331 = some (0, cb, 5, false, some .int, ci, np) := ⟨_, _, _, rfl⟩
set_option maxRecDepth 100000 in
theorem wl_331 : wl_ok 331 5 [(3, 1), (2, 2), (0, 3)] = true := by decide +kernel
set_option maxRecDepth 100000 in
set_option maxHeartbeats 4000000 in
theorem wl_run {sc : pt_Sc} {d : Nat} : wv_C wm_fx sc (d + 1 + 1 + 1 + 1) 331 wl_c331 := by
  rintro as T N I L R q ⟨t, n, rfl, h537, hH, hf, q1, q2, q3, q4⟩ w HR
  obtain ⟨cb, ci, np, hm⟩ := wM_331
  have hc332 : wv_C wm_fx sc (d + 1 + 1 + 1) 332 wq_c332 := wv_C_deep (by omega) (wq_run (d := d))
  refine wv_meth (hh := some (wl_f 5 [(3, 1), (2, 2), (0, 3)])) rfl (sp := wv_sp [(332, wq_c332)]) (hd := fun _ => none) (n := 0) (n1 := 300) hm zc_331 (wl_HH hm wl_331) (wv_sp_ok (fun q hq => by rw [List.mem_singleton.mp hq]; exact hc332)) ?_ (fun pc P h => by cases h) HR
  exact ⟨t, n, rfl, hH, hf, fun a => ⟨Or.inl rfl, q1 a⟩, fun a b => ⟨Or.inl rfl, q2 a b⟩, fun a b c => ⟨Or.inl rfl, q3 a b c⟩, fun a b c => ⟨_, h537, ⟨by decide, by decide⟩, by decide, q4 a b c⟩⟩
def wq_c341 : wv_c1 := fun as T N I L R q => ∃ t : Int32, as = [.ref 0, .int t] ∧ wh_H T R 333 ∧ (I 333 8).toInt ≤ 12 ∧ (I 333 8 = 0 → q (.inr 3) T N I L R 1 6) ∧ (¬ I 333 8 = 0 → (t < 0 ∨ I 333 8 ≤ t) → q (.inr 2) T N I L R 1 6) ∧ (¬ I 333 8 = 0 → ¬ (t < 0 ∨ I 333 8 ≤ t) → q (.inl (some (.int (I 338 t.toNatClampNeg)))) T N I L R 0 0)
set_option maxRecDepth 100000 in
theorem wM_341 : ∃ cb ci np, pt_mt 341 = some (1, cb, 2, false, some .int, ci, np) := ⟨_, _, _, rfl⟩
set_option maxRecDepth 100000 in
set_option maxHeartbeats 4000000 in
theorem wq_witness {sc : pt_Sc} {d : Nat} : wv_C wm_fx sc (d + 1 + 1 + 1) 341 wq_c341 := by
  rintro as T N I L R q ⟨t, rfl, hH, hf, q1, q2, q3⟩ w HR
  obtain ⟨cb, ci, np, hm⟩ := wM_341
  have hc333 : wv_C wm_fx sc (d + 1 + 1) 333 wq_c333 := wv_C_deep (by omega) (wq_checkFound (d := d))
  have hc336 : wv_C wm_fx sc (d + 1 + 1) 336 wh_c336 := wv_C_deep (by omega) (wh_letterAt (d := d))
  refine wv_meth (hh := none) rfl (sp := wv_sp [(333, wq_c333), (336, wh_c336)]) (hd := fun _ => none) (n := 0) (n1 := 300) hm zc_341 rfl (wv_sp_ok (fun q hq => by
    rcases List.mem_cons.mp hq with h | h
    · rw [h]; exact hc333
    rw [List.mem_singleton.mp h]; exact hc336)) ?_ (fun pc P h => by cases h) HR
  refine ⟨333, t, rfl, hH.1, ?_⟩
  by_cases h0 : I 333 8 = 0
  · rw [if_pos h0]
    exact ⟨Or.inr rfl, q1 h0⟩
  rw [if_neg h0]
  by_cases h1 : t < 0 ∨ I 333 8 ≤ t
  · rw [if_pos h1]
    exact ⟨Or.inr rfl, q2 h0 h1⟩
  rw [if_neg h1]
  exact ⟨hH.1, 333, t, rfl, hH, wh_b h1 hf, q3 h0 h1⟩
def wl_c340 : wv_c1 := fun as T N I L R q => ∃ t : Int32, as = [.ref 0, .int t, .ref 536] ∧ T 536 = some (.inr (1, 1)) ∧ wh_H T R 333 ∧ (I 333 8).toInt ≤ 12 ∧ (I 333 8 = 0 → q (.inl (some (.int 1))) T N I L R 1 6) ∧ (¬ I 333 8 = 0 → (t < 0 ∨ I 333 8 ≤ t) → q (.inl (some (.int 2))) T N I L R 1 6) ∧ (¬ I 333 8 = 0 → ¬ (t < 0 ∨ I 333 8 ≤ t) → q (.inl (some (.int 0))) T N I (wv_u L 536 0 (I 338 t.toNatClampNeg).toInt64) R 0 0)
set_option maxRecDepth 100000 in
theorem wM_340 : ∃ cb ci np, pt_mt 340 = some (0, cb, 4, false, some .int, ci, np) := ⟨_, _, _, rfl⟩
set_option maxRecDepth 100000 in
theorem wl_340 : wl_ok 340 4 [(3, 1), (2, 2)] = true := by decide +kernel
set_option maxRecDepth 100000 in
set_option maxHeartbeats 4000000 in
theorem wl_witness {sc : pt_Sc} {d : Nat} : wv_C wm_fx sc (d + 1 + 1 + 1 + 1) 340 wl_c340 := by
  rintro as T N I L R q ⟨t, rfl, h537, hH, hf, q1, q2, q3⟩ w HR
  obtain ⟨cb, ci, np, hm⟩ := wM_340
  have hc341 : wv_C wm_fx sc (d + 1 + 1 + 1) 341 wq_c341 := wv_C_deep (by omega) (wq_witness (d := d))
  refine wv_meth (hh := some (wl_f 4 [(3, 1), (2, 2)])) rfl (sp := wv_sp [(341, wq_c341)]) (hd := fun _ => none) (n := 0) (n1 := 300) hm zc_340 (wl_HH hm wl_340) (wv_sp_ok (fun q hq => by rw [List.mem_singleton.mp hq]; exact hc341)) ?_ (fun pc P h => by cases h) HR
  exact ⟨t, rfl, hH, hf, fun a => ⟨Or.inl rfl, q1 a⟩, fun a b => ⟨Or.inl rfl, q2 a b⟩, fun a b => ⟨_, h537, ⟨by decide, by decide⟩, by decide, q3 a b⟩⟩
def wp_c462 : wv_c1 := fun as T N I L R q => ∃ t n : Int32, as = [.ref 460, .int t, .int n] ∧ wm_T T ∧ (I 460 66).toInt ≤ 12 ∧ (I 460 66 = 0 → q (.inl (some (.int 0))) T N (wv_u I 460 0 1) L R 0 0) ∧ (¬ I 460 66 = 0 → (t < 0 ∨ I 460 66 ≤ t) → q (.inl (some (.int 0))) T N (wv_u I 460 0 2) L R 0 0) ∧ (¬ I 460 66 = 0 → ¬ (t < 0 ∨ I 460 66 ≤ t) → wh_bw n → q (.inl (some (.int 0))) T N (wv_u (wv_u I 460 0 0) 460 0 (Int32.ofInt 3)) L R 0 0) ∧ (¬ I 460 66 = 0 → ¬ (t < 0 ∨ I 460 66 ≤ t) → ¬ wh_bw n → q (.inl (some (.int (wh_run (I 502 t.toNatClampNeg) (I 503 t.toNatClampNeg) (I 504 t.toNatClampNeg) n)))) T N (wv_u I 460 0 0) L R 0 0)
set_option maxRecDepth 100000 in
theorem wM_462 : ∃ cb ci np, pt_mt 462 = some (32, cb, 3, false, some .int, ci, np) := ⟨_, _, _, rfl⟩
set_option maxRecDepth 100000 in
set_option maxHeartbeats 4000000 in
theorem wp_run {sc : pt_Sc} {d : Nat} : wv_C wm_fx sc (d + 1 + 1) 462 wp_c462 := by
  rintro as T N I L R q ⟨t, n, rfl, hT, hf, q1, q2, q3, q4⟩ w HR
  obtain ⟨cb, ci, np, hm⟩ := wM_462
  have hc345 : wv_C wm_fx sc (d + 1) 345 wp_c345 := wv_C_deep (by omega) (wp_refuse (d := d))
  refine wv_meth (hh := none) rfl (sp := wv_sp [(345, wp_c345)]) (hd := fun _ => none) (n := 0) (n1 := 300) hm zc_462 rfl (wv_sp_ok (fun q hq => by rw [List.mem_singleton.mp hq]; exact hc345)) ?_ (fun pc P h => by cases h) HR
  have n10 : ¬ (1 : Int32) = 0 := by decide

  have e2 : (Int32.ofInt 2).toInt = 2 := rfl
  refine ⟨fun h0 => ?_, fun h0 => ?_⟩
  · refine ⟨fun h1 => ?_, fun h1 => ?_⟩
    · refine ⟨_, _, rfl, ?_⟩
      rw [if_pos (by decide), if_neg (by decide)]
      exact ⟨fun z => (n10 z).elim, fun _ => q2 h0 (Or.inl h1)⟩
    · refine ⟨fun h2 => ?_, fun h2 => ?_⟩
      · have h3 : ¬ (t < 0 ∨ I 460 66 ≤ t) := fun z => z.elim h1 (fun z => Int32.not_lt.mpr z h2)
        have bt := wh_b h3 hf
        refine ⟨_, _, rfl, ?_⟩
        rw [if_pos (by decide), if_pos (by decide)]
        refine ⟨fun _ => ?_, fun z => (z rfl).elim⟩
        refine ⟨fun h4 => q3 h0 h3 (Or.inl h4), fun h4 => ?_⟩
        refine ⟨fun h5 => ?_, fun h5 => q3 h0 h3 (Or.inr (by rw [wi_le, e2] at h5; omega))⟩
        have h6 := q4 h0 h3 (fun z => z.elim h4 (fun z => by rw [wi_le, e2] at h5; omega))
        unfold wh_run at h6
        have u : ∀ c, ¬ c = 460 → I c t.toNatClampNeg = wv_u I 460 0 0 c t.toNatClampNeg := fun c hc => (wv_u_no _ _ (fun z => hc z.1)).symm
        refine ⟨fun h7 => ?_, fun h7 => ?_⟩
        · rw [if_neg h7] at h6
          refine ⟨fun h8 => ?_, fun h8 => ?_⟩
          · rw [if_neg (show ¬ n = 1 from h8), u 504 (by decide)] at h6
            exact ⟨_, wm_t hT rfl, bt, h6⟩
          · rw [if_pos (show n = 1 from Decidable.not_not.mp h8), u 503 (by decide)] at h6
            exact ⟨_, wm_t hT rfl, bt, h6⟩
        · rw [if_pos (Decidable.not_not.mp h7), u 502 (by decide)] at h6
          exact ⟨_, wm_t hT rfl, bt, h6⟩
      · refine ⟨_, _, rfl, ?_⟩
        rw [if_pos (by decide), if_neg (by decide)]
        exact ⟨fun z => (n10 z).elim, fun _ => q2 h0 (Or.inr (Int32.not_lt.mp h2))⟩
  · have h0' := Decidable.not_not.mp h0
    refine ⟨fun h1 => ?_, fun h1 => ?_⟩
    · refine ⟨_, _, rfl, ?_⟩
      rw [if_neg (by decide)]
      exact ⟨fun z => (n10 z).elim, fun _ => q1 h0'⟩
    · refine ⟨fun h2 => ?_, fun h2 => ?_⟩
      · refine ⟨_, _, rfl, ?_⟩
        rw [if_neg (by decide)]
        exact ⟨fun z => (n10 z).elim, fun _ => q1 h0'⟩
      · refine ⟨_, _, rfl, ?_⟩
        rw [if_neg (by decide)]
        exact ⟨fun z => (n10 z).elim, fun _ => q1 h0'⟩
def wp_c464 : wv_c1 := fun as T N I L R q => ∃ t : Int32, as = [.ref 460, .int t] ∧ wm_T T ∧ (I 460 70).toInt ≤ 12 ∧ (I 460 70 = 0 → q (.inl (some (.int 0))) T N (wv_u I 460 0 1) L R 0 0) ∧ (¬ I 460 70 = 0 → (t < 0 ∨ I 460 70 ≤ t) → q (.inl (some (.int 0))) T N (wv_u I 460 0 2) L R 0 0) ∧ (¬ I 460 70 = 0 → ¬ (t < 0 ∨ I 460 70 ≤ t) → q (.inl (some (.int (I 505 t.toNatClampNeg)))) T N (wv_u I 460 0 0) L R 0 0)
set_option maxRecDepth 100000 in
theorem wM_464 : ∃ cb ci np, pt_mt 464 = some (32, cb, 2, false, some .int, ci, np) := ⟨_, _, _, rfl⟩
set_option maxRecDepth 100000 in
set_option maxHeartbeats 4000000 in
theorem wp_witness {sc : pt_Sc} {d : Nat} : wv_C wm_fx sc (d + 1 + 1) 464 wp_c464 := by
  rintro as T N I L R q ⟨t, rfl, hT, hf, q1, q2, q4⟩ w HR
  obtain ⟨cb, ci, np, hm⟩ := wM_464
  have hc345 : wv_C wm_fx sc (d + 1) 345 wp_c345 := wv_C_deep (by omega) (wp_refuse (d := d))
  refine wv_meth (hh := none) rfl (sp := wv_sp [(345, wp_c345)]) (hd := fun _ => none) (n := 0) (n1 := 300) hm zc_464 rfl (wv_sp_ok (fun q hq => by rw [List.mem_singleton.mp hq]; exact hc345)) ?_ (fun pc P h => by cases h) HR
  have n10 : ¬ (1 : Int32) = 0 := by decide

  refine ⟨fun h0 => ?_, fun h0 => ?_⟩
  · refine ⟨fun h1 => ?_, fun h1 => ?_⟩
    · refine ⟨_, _, rfl, ?_⟩
      rw [if_pos (by decide), if_neg (by decide)]
      exact ⟨fun z => (n10 z).elim, fun _ => q2 h0 (Or.inl h1)⟩
    · refine ⟨fun h2 => ?_, fun h2 => ?_⟩
      · have h3 : ¬ (t < 0 ∨ I 460 70 ≤ t) := fun z => z.elim h1 (fun z => Int32.not_lt.mpr z h2)
        have bt := wh_b h3 hf
        refine ⟨_, _, rfl, ?_⟩
        rw [if_pos (by decide), if_pos (by decide)]
        refine ⟨fun _ => ?_, fun z => (z rfl).elim⟩
        have h6 := q4 h0 h3
        have u : ∀ c, ¬ c = 460 → I c t.toNatClampNeg = wv_u I 460 0 0 c t.toNatClampNeg := fun c hc => (wv_u_no _ _ (fun z => hc z.1)).symm
        rw [u 505 (by decide)] at h6
        exact ⟨_, wm_t hT rfl, bt, h6⟩
      · refine ⟨_, _, rfl, ?_⟩
        rw [if_pos (by decide), if_neg (by decide)]
        exact ⟨fun z => (n10 z).elim, fun _ => q2 h0 (Or.inr (Int32.not_lt.mp h2))⟩
  · have h0' := Decidable.not_not.mp h0
    refine ⟨fun h1 => ?_, fun h1 => ?_⟩
    · refine ⟨_, _, rfl, ?_⟩
      rw [if_neg (by decide)]
      exact ⟨fun z => (n10 z).elim, fun _ => q1 h0'⟩
    · refine ⟨fun h2 => ?_, fun h2 => ?_⟩
      · refine ⟨_, _, rfl, ?_⟩
        rw [if_neg (by decide)]
        exact ⟨fun z => (n10 z).elim, fun _ => q1 h0'⟩
      · refine ⟨_, _, rfl, ?_⟩
        rw [if_neg (by decide)]
        exact ⟨fun z => (n10 z).elim, fun _ => q1 h0'⟩
