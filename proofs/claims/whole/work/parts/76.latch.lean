/-! ===== latch and signal: the class ===== -/
def wd_c75 : wv_c1 := fun as T N I L R q => ∃ (C : Nat) (k v : Int32), as = [.ref C, .int k, .int v] ∧ wd_D T R C ∧ C < 1099511000000 ∧ (0 ≤ k ∧ k.toInt < (5 : Nat)) ∧ q (.inl none) T N (wv_u (wv_u I (C + 3) k.toNatClampNeg v) C 7 (Int32.ofInt 0)) L R 0 0
set_option maxRecDepth 100000 in
theorem wM_75 : ∃ cb ci np, pt_mt 75 = some (11, cb, 3, false, none, ci, np) := ⟨_, _, _, rfl⟩
set_option maxRecDepth 100000 in
set_option maxHeartbeats 4000000 in
theorem wd_setNext {sc : pt_Sc} {d : Nat} : wv_C wm_fx sc (d + 1) 75 wd_c75 := by
  rintro as T N I L R q ⟨C, k, v, rfl, hD, hC, hk, h⟩ w HR
  obtain ⟨cb, ci, np, hm⟩ := wM_75
  refine wv_meth (hh := none) rfl (sp := fun _ _ _ _ _ _ _ _ => False) (hd := fun _ => none) (n := 0) (n1 := 300) hm zc_75 rfl (fun k as T N I L R q h => by cases h) ?_ (fun pc P h => by cases h) HR
  have k0 : C < 1099511627776 := by omega
  have k3 : C + 1 + 2 < 1099511627776 := by omega
  exact ⟨hD.1, _, hD.2.1 2 (by decide), _, hD.2.2.2.2.1, hk, k3, ⟨hD.1, k0⟩, ⟨rfl, rfl⟩, h⟩
def wd_c76 : wv_c1 := fun as T N I L R q => ∃ (C : Nat) (k v : Int32), as = [.ref C, .int k, .int v] ∧ wd_D T R C ∧ C < 1099511000000 ∧ (0 ≤ k ∧ k.toInt < (6 : Nat)) ∧ q (.inl none) T N (wv_u (wv_u I (C + 5) k.toNatClampNeg v) C 7 (Int32.ofInt 0)) L R 0 0
set_option maxRecDepth 100000 in
theorem wM_76 : ∃ cb ci np, pt_mt 76 = some (11, cb, 3, false, none, ci, np) := ⟨_, _, _, rfl⟩
set_option maxRecDepth 100000 in
set_option maxHeartbeats 4000000 in
theorem wd_setSignal {sc : pt_Sc} {d : Nat} : wv_C wm_fx sc (d + 1) 76 wd_c76 := by
  rintro as T N I L R q ⟨C, k, v, rfl, hD, hC, hk, h⟩ w HR
  obtain ⟨cb, ci, np, hm⟩ := wM_76
  refine wv_meth (hh := none) rfl (sp := fun _ _ _ _ _ _ _ _ => False) (hd := fun _ => none) (n := 0) (n1 := 300) hm zc_76 rfl (fun k as T N I L R q h => by cases h) ?_ (fun pc P h => by cases h) HR
  have k0 : C < 1099511627776 := by omega
  have k3 : C + 1 + 4 < 1099511627776 := by omega
  exact ⟨hD.1, _, hD.2.1 4 (by decide), _, hD.2.2.2.2.2.2.1, hk, k3, ⟨hD.1, k0⟩, ⟨rfl, rfl⟩, h⟩
def wd_c60 : wv_c1 := fun as T N I L R q => ∃ (C : Nat) (k v : Int32), as = [.ref C, .int k, .int v] ∧ wd_D T R C ∧ C < 1099511000000 ∧ (0 ≤ k ∧ k.toInt < (5 : Nat)) ∧ q (.inl none) T N (wv_u (wv_u I (C + 4) k.toNatClampNeg (vp_nar .boolean v)) C 7 (Int32.ofInt 0)) L R 0 0
set_option maxRecDepth 100000 in
theorem wM_60 : ∃ cb ci np, pt_mt 60 = some (11, cb, 3, false, none, ci, np) := ⟨_, _, _, rfl⟩
set_option maxRecDepth 100000 in
set_option maxHeartbeats 4000000 in
theorem wd_setFirst {sc : pt_Sc} {d : Nat} : wv_C wm_fx sc (d + 1) 60 wd_c60 := by
  rintro as T N I L R q ⟨C, k, v, rfl, hD, hC, hk, h⟩ w HR
  obtain ⟨cb, ci, np, hm⟩ := wM_60
  refine wv_meth (hh := none) rfl (sp := fun _ _ _ _ _ _ _ _ => False) (hd := fun _ => none) (n := 0) (n1 := 300) hm zc_60 rfl (fun k as T N I L R q h => by cases h) ?_ (fun pc P h => by cases h) HR
  have k0 : C < 1099511627776 := by omega
  have k3 : C + 1 + 3 < 1099511627776 := by omega
  exact ⟨hD.1, _, hD.2.1 3 (by decide), _, hD.2.2.2.2.2.1, hk, k3, ⟨hD.1, k0⟩, ⟨rfl, rfl⟩, h⟩
def wk_bl (a b c k l : Int32) : Prop := k < 0 ∨ b ≤ k ∨ wo_no a b c l = true
def wk_bs (a b c k l : Int32) : Prop := k < 0 ∨ 5 < k.toInt ∨ wo_no a b c l = true
/-- a latch of the class is set -/
def wd_lat (C : Nat) (k l f : Int32) (I : Nat → Nat → Int32) : Nat → Nat → Int32 := wv_u (wv_u (wv_u (wv_u (wv_u I (C + 3) k.toNatClampNeg l) C 7 (Int32.ofInt 0)) (C + 4) k.toNatClampNeg (vp_nar .boolean f)) C 7 (Int32.ofInt 0)) 325 8 (Int32.ofInt 0)
def wd_sig (C : Nat) (k l : Int32) (I : Nat → Nat → Int32) : Nat → Nat → Int32 := wv_u (wv_u (wv_u I (C + 5) k.toNatClampNeg l) C 7 (Int32.ofInt 0)) 325 8 (Int32.ofInt 0)
def wq_c316 : wv_c1 := fun as T N I L R q => ∃ (k l f : Int32) (C : Nat), as = [.ref 0, .int k, .int l, .int f] ∧ R 0 14 = some C ∧ wd_D T R C ∧ C < 1099511000000 ∧ T 325 = some (.inl 11) ∧ (I C 9).toInt ≤ 5 ∧ (wk_bl (I C 8) (I C 9) (I C 10) k l → q (.inr 0) T N I L R 1 6) ∧ (¬ wk_bl (I C 8) (I C 9) (I C 10) k l → q (.inl none) T N (wd_lat C k l f I) L R 0 0)
set_option maxRecDepth 100000 in
theorem wM_316 : ∃ cb ci np, pt_mt 316 = some (1, cb, 4, false, none, ci, np) := ⟨_, _, _, rfl⟩
set_option maxRecDepth 100000 in
set_option maxHeartbeats 4000000 in
theorem wq_latch {sc : pt_Sc} {d : Nat} : wv_C wm_fx sc (d + 1 + 1 + 1) 316 wq_c316 := by
  rintro as T N I L R q ⟨k, l, f, C, rfl, hC, hD, hC0, h325, g1, hb, hg⟩ w HR
  obtain ⟨cb, ci, np, hm⟩ := wM_316
  have hc309 : wv_C wm_fx sc (d + 1 + 1) 309 (wd_g 9) := wv_C_deep (by omega) (wd_latches (d := d))
  have hc314 : wv_C wm_fx sc (d + 1 + 1) 314 wd_c314 := wv_C_deep (by omega) (wd_isLiteral (d := d))
  have hc75 : wv_C wm_fx sc (d + 1 + 1) 75 wd_c75 := wv_C_deep (by omega) (wd_setNext (d := d))
  have hc60 : wv_C wm_fx sc (d + 1 + 1) 60 wd_c60 := wv_C_deep (by omega) (wd_setFirst (d := d))
  have hc80 : wv_C wm_fx sc (d + 1 + 1) 80 wh_c80 := wv_C_deep (by omega) (wh_forget (d := d))
  refine wv_meth (hh := none) rfl (sp := wv_sp [(309, wd_g 9), (314, wd_c314), (75, wd_c75), (60, wd_c60), (80, wh_c80)]) (hd := fun _ => none) (n := 0) (n1 := 300) hm zc_316 rfl (wv_sp_ok (fun q hq => by
    rcases List.mem_cons.mp hq with h | h
    · rw [h]; exact hc309
    rcases List.mem_cons.mp h with h | h
    · rw [h]; exact hc314
    rcases List.mem_cons.mp h with h | h
    · rw [h]; exact hc75
    rcases List.mem_cons.mp h with h | h
    · rw [h]; exact hc60
    rw [List.mem_singleton.mp h]; exact hc80)) ?_ (fun pc P h => by cases h) HR
  have wb1 : ∀ x : Bool, ¬ wp_b (!x) = 0 → x = false := by decide
  have wb3 : ∀ x : Bool, ¬ ¬ wp_b (!x) = 0 → x = true := by decide

  refine ⟨fun h1 => hb (Or.inl h1), fun h1 => ?_⟩
  refine ⟨C, hC, hD.1, C, rfl, hD.1, ?_⟩
  refine ⟨fun h2 => hb (Or.inr (Or.inl h2)), fun h2 => ?_⟩
  refine ⟨C, hC, hD.1, C, _, rfl, hD.1, ?_⟩
  refine ⟨fun h3 => ?_, fun h3 => hb (Or.inr (Or.inr (wb3 _ h3)))⟩
  have hn : ¬ wk_bl (I C 8) (I C 9) (I C 10) k l := fun z => z.elim h1 (fun z => z.elim h2 (fun z => by rw [wb1 _ h3] at z; cases z))
  have bk : 0 ≤ k ∧ k.toInt < (5 : Nat) := by
    rw [wi_le] at h2
    rw [wi_lt, wi_0] at h1
    exact ⟨by rw [wi_le, wi_0]; omega, by omega⟩
  refine ⟨C, hC, hD.1, C, _, _, rfl, hD, hC0, bk, ?_⟩
  refine ⟨C, hC, hD.1, C, _, _, rfl, hD, hC0, bk, ?_⟩
  exact ⟨h325, 325, rfl, h325, by decide, hg hn⟩
def wq_c318 : wv_c1 := fun as T N I L R q => ∃ (k l : Int32) (C : Nat), as = [.ref 0, .int k, .int l] ∧ R 0 14 = some C ∧ wd_D T R C ∧ C < 1099511000000 ∧ T 325 = some (.inl 11) ∧ (wk_bs (I C 8) (I C 9) (I C 10) k l → q (.inr 0) T N I L R 1 6) ∧ (¬ wk_bs (I C 8) (I C 9) (I C 10) k l → q (.inl none) T N (wd_sig C k l I) L R 0 0)
set_option maxRecDepth 100000 in
theorem wM_318 : ∃ cb ci np, pt_mt 318 = some (1, cb, 3, false, none, ci, np) := ⟨_, _, _, rfl⟩
set_option maxRecDepth 100000 in
set_option maxHeartbeats 4000000 in
theorem wq_signal {sc : pt_Sc} {d : Nat} : wv_C wm_fx sc (d + 1 + 1 + 1) 318 wq_c318 := by
  rintro as T N I L R q ⟨k, l, C, rfl, hC, hD, hC0, h325, hb, hg⟩ w HR
  obtain ⟨cb, ci, np, hm⟩ := wM_318
  have hc314 : wv_C wm_fx sc (d + 1 + 1) 314 wd_c314 := wv_C_deep (by omega) (wd_isLiteral (d := d))
  have hc76 : wv_C wm_fx sc (d + 1 + 1) 76 wd_c76 := wv_C_deep (by omega) (wd_setSignal (d := d))
  have hc80 : wv_C wm_fx sc (d + 1 + 1) 80 wh_c80 := wv_C_deep (by omega) (wh_forget (d := d))
  refine wv_meth (hh := none) rfl (sp := wv_sp [(314, wd_c314), (76, wd_c76), (80, wh_c80)]) (hd := fun _ => none) (n := 0) (n1 := 300) hm zc_318 rfl (wv_sp_ok (fun q hq => by
    rcases List.mem_cons.mp hq with h | h
    · rw [h]; exact hc314
    rcases List.mem_cons.mp h with h | h
    · rw [h]; exact hc76
    rw [List.mem_singleton.mp h]; exact hc80)) ?_ (fun pc P h => by cases h) HR
  have wb1 : ∀ x : Bool, ¬ wp_b (!x) = 0 → x = false := by decide
  have wb3 : ∀ x : Bool, ¬ ¬ wp_b (!x) = 0 → x = true := by decide

  have e6 : ((Int8.ofInt 6).toInt32).toInt = 6 := rfl
  refine ⟨fun h1 => hb (Or.inl h1), fun h1 => ?_⟩
  refine ⟨fun h2 => hb (Or.inr (Or.inl (by rw [wi_le, e6] at h2; omega))), fun h2 => ?_⟩
  refine ⟨C, hC, hD.1, C, _, rfl, hD.1, ?_⟩
  refine ⟨fun h3 => ?_, fun h3 => hb (Or.inr (Or.inr (wb3 _ h3)))⟩
  have h4 : ¬ 5 < k.toInt := by rw [wi_le, e6] at h2; omega
  have hn : ¬ wk_bs (I C 8) (I C 9) (I C 10) k l := fun z => z.elim h1 (fun z => z.elim h4 (fun z => by rw [wb1 _ h3] at z; cases z))
  have bk : 0 ≤ k ∧ k.toInt < (6 : Nat) := by
    rw [wi_lt, wi_0] at h1
    exact ⟨by rw [wi_le, wi_0]; omega, by omega⟩
  refine ⟨C, hC, hD.1, C, _, _, rfl, hD, hC0, bk, ?_⟩
  exact ⟨h325, 325, rfl, h325, by decide, hg hn⟩
def wl_c315 : wv_c1 := fun as T N I L R q => ∃ (k l f : Int32) (C : Nat), as = [.ref 0, .int k, .int l, .int f] ∧ R 0 14 = some C ∧ wd_D T R C ∧ C < 1099511000000 ∧ T 325 = some (.inl 11) ∧ (I C 9).toInt ≤ 5 ∧ (wk_bl (I C 8) (I C 9) (I C 10) k l → q (.inl (some (.int 1))) T N I L R 1 6) ∧ (¬ wk_bl (I C 8) (I C 9) (I C 10) k l → q (.inl (some (.int 0))) T N (wd_lat C k l f I) L R 0 0)
set_option maxRecDepth 100000 in
theorem wM_315 : ∃ cb ci np, pt_mt 315 = some (0, cb, 5, false, some .int, ci, np) := ⟨_, _, _, rfl⟩
set_option maxRecDepth 100000 in
theorem wl_315 : wl_ok 315 4 [(0, 1)] = true := by decide +kernel
set_option maxRecDepth 100000 in
set_option maxHeartbeats 4000000 in
theorem wl_latch {sc : pt_Sc} {d : Nat} : wv_C wm_fx sc (d + 1 + 1 + 1 + 1) 315 wl_c315 := by
  rintro as T N I L R q ⟨k, l, f, C, rfl, hC, hD, hC0, h325, g1, hb, hg⟩ w HR
  obtain ⟨cb, ci, np, hm⟩ := wM_315
  have hc316 : wv_C wm_fx sc (d + 1 + 1 + 1) 316 wq_c316 := wv_C_deep (by omega) (wq_latch (d := d))
  refine wv_meth (hh := some (wl_f 4 [(0, 1)])) rfl (sp := wv_sp [(316, wq_c316)]) (hd := fun _ => none) (n := 0) (n1 := 300) hm zc_315 (wl_HH hm wl_315) (wv_sp_ok (fun q hq => by rw [List.mem_singleton.mp hq]; exact hc316)) ?_ (fun pc P h => by cases h) HR
  exact ⟨k, l, f, C, rfl, hC, hD, hC0, h325, g1, fun h => ⟨Or.inl rfl, hb h⟩, fun h => hg h⟩
def wl_c317 : wv_c1 := fun as T N I L R q => ∃ (k l : Int32) (C : Nat), as = [.ref 0, .int k, .int l] ∧ R 0 14 = some C ∧ wd_D T R C ∧ C < 1099511000000 ∧ T 325 = some (.inl 11) ∧ (wk_bs (I C 8) (I C 9) (I C 10) k l → q (.inl (some (.int 1))) T N I L R 1 6) ∧ (¬ wk_bs (I C 8) (I C 9) (I C 10) k l → q (.inl (some (.int 0))) T N (wd_sig C k l I) L R 0 0)
set_option maxRecDepth 100000 in
theorem wM_317 : ∃ cb ci np, pt_mt 317 = some (0, cb, 4, false, some .int, ci, np) := ⟨_, _, _, rfl⟩
set_option maxRecDepth 100000 in
theorem wl_317 : wl_ok 317 3 [(0, 1)] = true := by decide +kernel
set_option maxRecDepth 100000 in
set_option maxHeartbeats 4000000 in
theorem wl_signal {sc : pt_Sc} {d : Nat} : wv_C wm_fx sc (d + 1 + 1 + 1 + 1) 317 wl_c317 := by
  rintro as T N I L R q ⟨k, l, C, rfl, hC, hD, hC0, h325, hb, hg⟩ w HR
  obtain ⟨cb, ci, np, hm⟩ := wM_317
  have hc318 : wv_C wm_fx sc (d + 1 + 1 + 1) 318 wq_c318 := wv_C_deep (by omega) (wq_signal (d := d))
  refine wv_meth (hh := some (wl_f 3 [(0, 1)])) rfl (sp := wv_sp [(318, wq_c318)]) (hd := fun _ => none) (n := 0) (n1 := 300) hm zc_317 (wl_HH hm wl_317) (wv_sp_ok (fun q hq => by rw [List.mem_singleton.mp hq]; exact hc318)) ?_ (fun pc P h => by cases h) HR
  exact ⟨k, l, C, rfl, hC, hD, hC0, h325, fun h => ⟨Or.inl rfl, hb h⟩, fun h => hg h⟩
