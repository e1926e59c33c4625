/-! ===== the class: gate ===== -/
/-- no literal of a design of so many inputs, latches, gates -/
def wo_no (a b c l : Int32) : Bool := decide (l < 0 ∨ Int32.ofInt 2 * (Int32.ofInt 1 + a + b + c) ≤ l)
def wd_c72 : wv_c1 := fun as T N I L R q => ∃ (C : Nat) (k : Int32), as = [.ref C, .int k] ∧ T C = some (.inl 10) ∧ q (.inl (some (.int (Int32.ofInt 2 * (Int32.ofInt 1 + I C 8 + I C 9 + k))))) T N I L R 0 0
set_option maxRecDepth 100000 in
theorem wM_72 : ∃ cb ci np, pt_mt 72 = some (11, cb, 2, false, some .int, ci, np) := ⟨_, _, _, rfl⟩
set_option maxRecDepth 100000 in
set_option maxHeartbeats 4000000 in
theorem wd_gateLiteral {sc : pt_Sc} {d : Nat} : wv_C wm_fx sc (d + 1) 72 wd_c72 := by
  rintro as T N I L R q ⟨C, k, rfl, hC, h⟩ w HR
  obtain ⟨cb, ci, np, hm⟩ := wM_72
  refine wv_meth (hh := none) rfl (sp := fun _ _ _ _ _ _ _ _ => False) (hd := fun _ => none) (n := 0) (n1 := 300) hm zc_72 rfl (fun k as T N I L R q h => by cases h) ?_ (fun pc P h => by cases h) HR
  exact ⟨hC, hC, h⟩
def wd_c314 : wv_c1 := fun as T N I L R q => ∃ (C : Nat) (l : Int32), as = [.ref C, .int l] ∧ T C = some (.inl 10) ∧ q (.inl (some (.int (wp_b (!wo_no (I C 8) (I C 9) (I C 10) l))))) T N I L R 0 0
set_option maxRecDepth 100000 in
theorem wM_314 : ∃ cb ci np, pt_mt 314 = some (11, cb, 2, false, some .boolean, ci, np) := ⟨_, _, _, rfl⟩
set_option maxRecDepth 100000 in
set_option maxHeartbeats 4000000 in
theorem wd_isLiteral {sc : pt_Sc} {d : Nat} : wv_C wm_fx sc (d + 1 + 1) 314 wd_c314 := by
  rintro as T N I L R q ⟨C, l, rfl, hC, h⟩ w HR
  obtain ⟨cb, ci, np, hm⟩ := wM_314
  have hc72 : wv_C wm_fx sc (d + 1) 72 wd_c72 := wv_C_deep (by omega) (wd_gateLiteral (d := d))
  refine wv_meth (hh := none) rfl (sp := wv_sp [(72, wd_c72)]) (hd := fun _ => none) (n := 0) (n1 := 300) hm zc_314 rfl (wv_sp_ok (fun q hq => by rw [List.mem_singleton.mp hq]; exact hc72)) ?_ (fun pc P h => by cases h) HR
  refine ⟨fun h1 => ?_, fun h1 => ?_⟩
  · rw [show wo_no (I C 8) (I C 9) (I C 10) l = true from decide_eq_true (Or.inl h1)] at h
    exact ⟨⟨rfl, rfl⟩, h⟩
  · refine ⟨hC, hC, C, _, rfl, hC, ?_⟩
    refine ⟨fun h2 => ?_, fun h2 => ?_⟩
    · rw [show wo_no (I C 8) (I C 9) (I C 10) l = true from decide_eq_true (Or.inr h2)] at h
      exact ⟨⟨rfl, rfl⟩, h⟩
    · rw [show wo_no (I C 8) (I C 9) (I C 10) l = false from decide_eq_false (fun z => z.elim h1 h2)] at h
      exact ⟨⟨rfl, rfl⟩, h⟩
/-- one gate more, at place g -/
def wd_add (C : Nat) (a b g : Int32) (I : Nat → Nat → Int32) : Nat → Nat → Int32 := wv_u (wv_u (wv_u (wv_u I (C + 1) g.toNatClampNeg a) (C + 2) g.toNatClampNeg b) C 10 (g + Int32.ofInt 1)) C 7 (Int32.ofInt 0)
def wd_c71 : wv_c1 := fun as T N I L R q => ∃ (C : Nat) (a b : Int32), as = [.ref C, .int a, .int b] ∧ wd_D T R C ∧ C < 1099511000000 ∧ 0 ≤ (I C 10).toInt ∧ (I C 10).toInt < 60 ∧ q (.inl (some (.int (Int32.ofInt 2 * (Int32.ofInt 1 + I C 8 + I C 9 + I C 10) / Int32.ofInt 2)))) T N (wd_add C a b (I C 10) I) L R 0 0
set_option maxRecDepth 100000 in
theorem wM_71 : ∃ cb ci np, pt_mt 71 = some (11, cb, 4, false, some .int, ci, np) := ⟨_, _, _, rfl⟩
set_option maxRecDepth 100000 in
set_option maxHeartbeats 4000000 in
theorem wd_addGate {sc : pt_Sc} {d : Nat} : wv_C wm_fx sc (d + 1 + 1) 71 wd_c71 := by
  rintro as T N I L R q ⟨C, a, b, rfl, hD, hC, g0, g1, h⟩ w HR
  obtain ⟨cb, ci, np, hm⟩ := wM_71
  have hc72 : wv_C wm_fx sc (d + 1) 72 wd_c72 := wv_C_deep (by omega) (wd_gateLiteral (d := d))
  refine wv_meth (hh := none) rfl (sp := wv_sp [(72, wd_c72)]) (hd := fun _ => none) (n := 0) (n1 := 300) hm zc_71 rfl (wv_sp_ok (fun q hq => by rw [List.mem_singleton.mp hq]; exact hc72)) ?_ (fun pc P h => by cases h) HR
  have k0 : C < 1099511627776 := by omega
  have k1 : C + 1 + 0 < 1099511627776 := by omega
  have k2 : C + 1 + 1 < 1099511627776 := by omega
  have e59 : ((Int8.ofInt 59).toInt32).toInt = 59 := rfl
  have e : (if (Int8.ofInt 59).toInt32 < I C 10 then (Int8.ofInt 59).toInt32 else I C 10) = I C 10 := if_neg (by rw [wi_lt, e59]; omega)
  have hX : ∀ g, g = I C 10 → (0 ≤ g ∧ g.toInt < (60 : Nat)) ∧ q (.inl (some (.int (Int32.ofInt 2 * (Int32.ofInt 1 + wd_add C a b g I C 8 + wd_add C a b g I C 9 + g) / Int32.ofInt 2)))) T N (wd_add C a b g I) L R 0 0 := by
    rintro g rfl
    refine ⟨⟨by rw [wi_le, wi_0]; exact g0, by omega⟩, ?_⟩
    have u : ∀ k, ¬ k = 10 → ¬ k = 7 → wd_add C a b (I C 10) I C k = I C k := by
      intro k k0 k1
      unfold wd_add
      rw [wv_u_no _ _ (fun z => k1 z.2), wv_u_no _ _ (fun z => k0 z.2), wv_u_no _ _ (by omega), wv_u_no _ _ (by omega)]
    rw [u 8 (by decide) (by decide), u 9 (by decide) (by decide)]
    exact h
  obtain ⟨bd, h1⟩ := hX _ e
  refine ⟨hD.1, hD.1, _, hD.2.1 0 (by decide), ?_⟩
  refine ⟨60, hD.2.2.1, bd, k1, ?_⟩
  refine ⟨hD.1, _, hD.2.1 1 (by decide), ?_⟩
  refine ⟨60, hD.2.2.2.1, bd, k2, ?_⟩
  refine ⟨⟨hD.1, k0⟩, ⟨hD.1, k0⟩, ⟨rfl, rfl⟩, hD.1, C, _, rfl, hD.1, ?_⟩
  exact ⟨by decide, h1⟩
def wq_c313 : wv_c1 := fun as T N I L R q => ∃ (a b : Int32) (C : Nat), as = [.ref 0, .int a, .int b] ∧ R 0 14 = some C ∧ wd_D T R C ∧ C < 1099511000000 ∧ T 325 = some (.inl 11) ∧ 0 ≤ (I C 10).toInt ∧ (I C 10).toInt ≤ 60 ∧ (if (wo_no (I C 8) (I C 9) (I C 10) a || wo_no (I C 8) (I C 9) (I C 10) b) = true then q (.inr 0) T N I L R 1 6 else if (I C 10).toInt = 60 then q (.inr 1) T N I L R 1 6 else q (.inl (some (.int (Int32.ofInt 2 * (Int32.ofInt 1 + I C 8 + I C 9 + I C 10) / Int32.ofInt 2)))) T N (wd_add C a b (I C 10) (wv_u I 325 8 (Int32.ofInt 0))) L R 0 0)
set_option maxRecDepth 100000 in
theorem wM_313 : ∃ cb ci np, pt_mt 313 = some (1, cb, 3, false, some .int, ci, np) := ⟨_, _, _, rfl⟩
set_option maxRecDepth 100000 in
set_option maxHeartbeats 4000000 in
theorem wq_gate {sc : pt_Sc} {d : Nat} : wv_C wm_fx sc (d + 1 + 1 + 1) 313 wq_c313 := by
  rintro as T N I L R q ⟨a, b, C, rfl, hC, hD, hC0, h325, g0, g1, h⟩ w HR
  obtain ⟨cb, ci, np, hm⟩ := wM_313
  have hc314 : wv_C wm_fx sc (d + 1 + 1) 314 wd_c314 := wv_C_deep (by omega) (wd_isLiteral (d := d))
  have hc69 : wv_C wm_fx sc (d + 1 + 1) 69 (wd_g 10) := wv_C_deep (by omega) (wd_gates (d := d))
  have hc80 : wv_C wm_fx sc (d + 1 + 1) 80 wh_c80 := wv_C_deep (by omega) (wh_forget (d := d))
  have hc71 : wv_C wm_fx sc (d + 1 + 1) 71 wd_c71 := wv_C_deep (by omega) (wd_addGate (d := d))
  refine wv_meth (hh := none) rfl (sp := wv_sp [(314, wd_c314), (69, wd_g 10), (80, wh_c80), (71, wd_c71)]) (hd := fun _ => none) (n := 0) (n1 := 300) hm zc_313 rfl (wv_sp_ok (fun q hq => by
    rcases List.mem_cons.mp hq with h | h
    · rw [h]; exact hc314
    rcases List.mem_cons.mp h with h | h
    · rw [h]; exact hc69
    rcases List.mem_cons.mp h with h | h
    · rw [h]; exact hc80
    rw [List.mem_singleton.mp h]; exact hc71)) ?_ (fun pc P h => by cases h) HR
  have e60 : ((Int8.ofInt 60).toInt32).toInt = 60 := rfl
  have wb1 : ∀ x : Bool, ¬ wp_b (!x) = 0 → x = false := by decide
  have wb2 : ∀ x : Bool, wp_b (!x) = 0 → x = true := by decide
  have wb3 : ∀ x : Bool, ¬ ¬ wp_b (!x) = 0 → x = true := by decide
  have hne : ¬ C = 325 := fun z => by have := hD.1; rw [z, h325] at this; cases this
  refine ⟨C, hC, hD.1, C, a, rfl, hD.1, ?_⟩
  refine ⟨fun h1 => ?_, fun h1 => ?_⟩
  · rw [if_pos (by rw [wb2 _ h1]; rfl)] at h
    exact h
  · refine ⟨C, hC, hD.1, C, b, rfl, hD.1, ?_⟩
    refine ⟨fun h2 => ?_, fun h2 => ?_⟩
    · rw [if_neg (by rw [wb1 _ h1, wb1 _ h2]; decide)] at h
      refine ⟨C, hC, hD.1, C, rfl, hD.1, ?_⟩
      refine ⟨fun h3 => ?_, fun h3 => ?_⟩
      · have h4 : (I C 10).toInt < 60 := by rw [wi_lt, e60] at h3; exact h3
        rw [if_neg (by omega)] at h
        refine ⟨h325, 325, rfl, h325, by decide, ?_⟩
        have u : ∀ k, wv_u I 325 8 (Int32.ofInt 0) C k = I C k := fun k => wv_u_no _ _ (fun z => hne z.1)
        refine ⟨C, hC, hD.1, C, a, b, rfl, hD, hC0, by rw [u]; exact g0, by rw [u]; exact h4, ?_⟩
        rw [u, u, u]
        exact h
      · have h4 : (I C 10).toInt = 60 := by rw [wi_lt, e60] at h3; omega
        rw [if_pos h4] at h
        exact h
    · rw [if_pos (by rw [wb3 _ h2, Bool.or_true])] at h
      exact h
def wl_c312 : wv_c1 := fun as T N I L R q => ∃ (a b : Int32) (C : Nat), as = [.ref 0, .int a, .int b, .ref 536] ∧ T 536 = some (.inr (1, 1)) ∧ R 0 14 = some C ∧ wd_D T R C ∧ C < 1099511000000 ∧ T 325 = some (.inl 11) ∧ 0 ≤ (I C 10).toInt ∧ (I C 10).toInt ≤ 60 ∧ (if (wo_no (I C 8) (I C 9) (I C 10) a || wo_no (I C 8) (I C 9) (I C 10) b) = true then q (.inl (some (.int 1))) T N I L R 1 6 else if (I C 10).toInt = 60 then q (.inl (some (.int 2))) T N I L R 1 6 else q (.inl (some (.int 0))) T N (wd_add C a b (I C 10) (wv_u I 325 8 (Int32.ofInt 0))) (wv_u L 536 0 (Int32.ofInt 2 * (Int32.ofInt 1 + I C 8 + I C 9 + I C 10) / Int32.ofInt 2).toInt64) R 0 0)
set_option maxRecDepth 100000 in
theorem wM_312 : ∃ cb ci np, pt_mt 312 = some (0, cb, 5, false, some .int, ci, np) := ⟨_, _, _, rfl⟩
set_option maxRecDepth 100000 in
theorem wl_312 : wl_ok 312 5 [(0, 1), (1, 2)] = true := by decide +kernel
set_option maxRecDepth 100000 in
set_option maxHeartbeats 4000000 in
theorem wl_gate {sc : pt_Sc} {d : Nat} : wv_C wm_fx sc (d + 1 + 1 + 1 + 1) 312 wl_c312 := by
  rintro as T N I L R q ⟨a, b, C, rfl, h537, hC, hD, hC0, h325, g0, g1, h⟩ w HR
  obtain ⟨cb, ci, np, hm⟩ := wM_312
  have hc313 : wv_C wm_fx sc (d + 1 + 1 + 1) 313 wq_c313 := wv_C_deep (by omega) (wq_gate (d := d))
  refine wv_meth (hh := some (wl_f 5 [(0, 1), (1, 2)])) rfl (sp := wv_sp [(313, wq_c313)]) (hd := fun _ => none) (n := 0) (n1 := 300) hm zc_312 (wl_HH hm wl_312) (wv_sp_ok (fun q hq => by rw [List.mem_singleton.mp hq]; exact hc313)) ?_ (fun pc P h => by cases h) HR
  refine ⟨a, b, C, rfl, hC, hD, hC0, h325, g0, g1, ?_⟩
  split
  · rename_i h1
    rw [if_pos h1] at h
    exact ⟨Or.inl rfl, h⟩
  · rename_i h1
    rw [if_neg h1] at h
    split
    · rename_i h2
      rw [if_pos h2] at h
      exact ⟨Or.inl rfl, h⟩
    · rename_i h2
      rw [if_neg h2] at h
      exact ⟨_, h537, ⟨by decide, by decide⟩, by decide, h⟩
