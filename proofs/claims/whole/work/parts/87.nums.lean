/-! ===== readNumbers: the class ===== -/
/-- behind a text of a design: C is the design, D the spare one -/
def wd_tI (f : Option Nat) (I : Nat → Nat → Int32) : Nat → Nat → Int32 := if f = none then wv_u (wv_u I 1 6 (Int32.ofInt 0)) 325 8 (Int32.ofInt 0) else wv_u I 1 6 (Int32.ofInt 0)
def wd_tR (f : Option Nat) (C D : Nat) (R : Nat → Nat → Option Nat) : Nat → Nat → Option Nat := if f = none then wv_u (wv_u R 0 14 (some D)) 0 15 (some C) else R
def wq_c78 : wv_c1 := fun as T N I L R q => ∃ (f : Option Nat) (C D : Nat), as = [.ref 0, .int (wt_f f)] ∧ (∀ z, f = some z → z ≤ 400) ∧ R 0 14 = some C ∧ R 0 15 = some D ∧ T 325 = some (.inl 11) ∧ q (.inl none) T N (wd_tI f I) L (wd_tR f C D R) 0 0
set_option maxRecDepth 100000 in
theorem wM_78 : ∃ cb ci np, pt_mt 78 = some (1, cb, 3, false, none, ci, np) := ⟨_, _, _, rfl⟩
set_option maxRecDepth 100000 in
set_option maxHeartbeats 4000000 in
theorem wq_takeSpare {sc : pt_Sc} {d : Nat} : wv_C wm_fx sc (d + 1 + 1) 78 wq_c78 := by
  rintro as T N I L R q ⟨f, C, D, rfl, hf, hC, hD, h325, h⟩ w HR
  obtain ⟨cb, ci, np, hm⟩ := wM_78
  have hc79 : wv_C wm_fx sc (d + 1) 79 wp_c79 := wv_C_deep (by omega) (wp_cut (d := d))
  have hc80 : wv_C wm_fx sc (d + 1) 80 wh_c80 := wv_C_deep (by omega) (wh_forget (d := d))
  refine wv_meth (hh := none) rfl (sp := wv_sp [(79, wp_c79), (80, wh_c80)]) (hd := fun _ => none) (n := 0) (n1 := 300) hm zc_78 rfl (wv_sp_ok (fun q hq => by
    rcases List.mem_cons.mp hq with h | h
    · rw [h]; exact hc79
    rw [List.mem_singleton.mp h]; exact hc80)) ?_ (fun pc P h => by cases h) HR
  refine ⟨_, rfl, ?_⟩
  refine ⟨fun h1 => ?_, fun h1 => ?_⟩
  · have hn : ¬ f = none := fun z => h1 ((wt_fn f hf).mpr z)
    unfold wd_tI wd_tR at h
    rw [if_neg hn, if_neg hn] at h
    exact h
  · have hn : f = none := (wt_fn f hf).mp (Decidable.not_not.mp h1)
    unfold wd_tI wd_tR at h
    rw [if_pos hn, if_pos hn] at h
    refine ⟨C, hC, D, hD, ?_⟩
    exact ⟨h325, 325, rfl, h325, by decide, h⟩
def wq_c81 : wv_c1 := fun as T N I L R q => ∃ n C D : Nat, as = [.ref 0] ∧ wm_T T ∧ wt_S T I R ∧ R 0 14 = some C ∧ R 0 15 = some D ∧ wd_D T R D ∧ 7 < D ∧ D < 1099511000000 ∧ T 325 = some (.inl 11) ∧ I 1 6 = Int32.ofNat n ∧ n ≤ 400 ∧ ∀ I1 L1, (∀ z, nmFault (nmTs I n) n = some z → z ≤ 400) → nmOut I n D I1 → wd_G D I L I1 L1 → q (.inl (some (.int (wt_f (nmFault (nmTs I n) n))))) T N (wd_tI (nmFault (nmTs I n) n) I1) L1 (wd_tR (nmFault (nmTs I n) n) C D R) 0 0
set_option maxRecDepth 100000 in
theorem wM_81 : ∃ cb ci np, pt_mt 81 = some (1, cb, 2, false, some .int, ci, np) := ⟨_, _, _, rfl⟩
set_option maxRecDepth 100000 in
set_option maxHeartbeats 4000000 in
theorem wq_readNumbers {sc : pt_Sc} {d : Nat} (hf : wt_fv sc) : wv_C wm_fx sc (d + 1 + 1 + 1 + 1 + 1 + 1 + 1 + 1) 81 wq_c81 := by
  rintro as T N I L R q ⟨n, C, D, rfl, hT, hS, hC, hD0, hD, hD7, hDB, h325, h6, hn, h⟩ w HR
  obtain ⟨cb, ci, np, hm⟩ := wM_81
  have hc82 : wv_C wm_fx sc (d + 1 + 1 + 1 + 1 + 1 + 1 + 1) 82 wt_c82 := wv_C_deep (by omega) (wt_readNums hf (d := d))
  have hc78 : wv_C wm_fx sc (d + 1 + 1 + 1 + 1 + 1 + 1 + 1) 78 wq_c78 := wv_C_deep (by omega) (wq_takeSpare (d := d))
  refine wv_meth (hh := none) rfl (sp := wv_sp [(82, wt_c82), (78, wq_c78)]) (hd := fun _ => none) (n := 0) (n1 := 300) hm zc_81 rfl (wv_sp_ok (fun q hq => by
    rcases List.mem_cons.mp hq with h | h
    · rw [h]; exact hc82
    rw [List.mem_singleton.mp h]; exact hc78)) ?_ (fun pc P h => by cases h) HR
  refine ⟨D, hD0, ?_⟩
  refine ⟨n, D, rfl, hT, hS, hD, hD7, hDB, h6, hn, fun I1 L1 a b c => ?_⟩
  refine ⟨_, C, D, rfl, a, hC, hD0, h325, ?_⟩
  exact h I1 L1 a b c
