/-! ===== has ===== -/
/-- a design of the class lies so -/
def wd_D (T : wv_T) (R : Nat → Nat → Option Nat) (C : Nat) : Prop := T C = some (.inl 10) ∧ (∀ k, k < 6 → R C k = some (C + 1 + k)) ∧ T (C + 1) = some (.inr (0, 60)) ∧ T (C + 2) = some (.inr (0, 60)) ∧ T (C + 3) = some (.inr (0, 5)) ∧ T (C + 4) = some (.inr (2, 5)) ∧ T (C + 5) = some (.inr (0, 6)) ∧ T (C + 6) = some (.inr (0, 69))
def wh (i0 i1 i2 : Int32) (f : Nat → Int32) (n : Int32) : Int32 := if n = 0 then i0 else if n = 1 then i1 else if n = 2 then i2 else f (n - Int32.ofInt 3).toNatClampNeg
theorem wh_in {n : Int32} (h1 : ¬ n < 0) (h2 : n.toInt ≤ 8) (h3 : ¬ n < 3) : 0 ≤ n - Int32.ofInt 3 ∧ (n - Int32.ofInt 3).toInt < (6 : Nat) := by
  have a3 : 3 ≤ n.toInt := by rw [wi_lt] at h3; have e : (3 : Int32).toInt = 3 := rfl; omega
  have e : (n - Int32.ofInt 3).toInt = n.toInt - 3 := by rw [wi_sub, wi_of, wr_id (x := 3) (by omega) (by omega), wr_id (by omega) (by omega)]
  exact ⟨by rw [wi_le, e, wi_0]; omega, by rw [e]; omega⟩
def wd_c307 : wv_c1 := fun as T N I L R q => ∃ (C : Nat) (k : Int32), as = [.ref C, .int k] ∧ wd_D T R C ∧ (0 ≤ k ∧ k.toInt < (6 : Nat)) ∧ q (.inl (some (.int (I (C + 5) k.toNatClampNeg)))) T N I L R 0 0
def wd_g (k : Nat) : wv_c1 := fun as T N I L R q => ∃ C : Nat, as = [.ref C] ∧ T C = some (.inl 10) ∧ q (.inl (some (.int (I C k)))) T N I L R 0 0
set_option maxRecDepth 100000 in
theorem wd_m307 : ∃ cb ci np, pt_mt 307 = some (11, cb, 2, false, some .int, ci, np) := ⟨_, _, _, rfl⟩
set_option maxRecDepth 100000 in
theorem wd_m308 : ∃ cb ci np, pt_mt 308 = some (11, cb, 1, false, some .int, ci, np) := ⟨_, _, _, rfl⟩
set_option maxRecDepth 100000 in
theorem wd_m309 : ∃ cb ci np, pt_mt 309 = some (11, cb, 1, false, some .int, ci, np) := ⟨_, _, _, rfl⟩
set_option maxRecDepth 100000 in
theorem wd_m69 : ∃ cb ci np, pt_mt 69 = some (11, cb, 1, false, some .int, ci, np) := ⟨_, _, _, rfl⟩
set_option maxRecDepth 100000 in
theorem wd_signal {sc : pt_Sc} {d : Nat} : wv_C wm_fx sc (d + 1) 307 wd_c307 := by
  rintro as T N I L R q ⟨C, k, rfl, hD, hk, h⟩ w HR
  obtain ⟨cb, ci, np, hm⟩ := wd_m307
  refine wv_meth (hh := none) rfl (sp := fun _ _ _ _ _ _ _ _ => False) (hd := fun _ => none) (n := 0) (n1 := 100) hm zc_307 rfl (fun k as T N I L R q h => by cases h) ?_ (fun pc P h => by cases h) HR
  exact ⟨hD.1, _, hD.2.1 4 (by decide), _, hD.2.2.2.2.2.2.1, hk, h⟩
set_option maxRecDepth 100000 in
theorem wd_inputs {sc : pt_Sc} {d : Nat} : wv_C wm_fx sc (d + 1) 308 (wd_g 8) := by
  rintro as T N I L R q ⟨C, rfl, hD, h⟩ w HR
  obtain ⟨cb, ci, np, hm⟩ := wd_m308
  refine wv_meth (hh := none) rfl (sp := fun _ _ _ _ _ _ _ _ => False) (hd := fun _ => none) (n := 0) (n1 := 100) hm zc_308 rfl (fun k as T N I L R q h => by cases h) ?_ (fun pc P h => by cases h) HR
  exact ⟨hD, h⟩
set_option maxRecDepth 100000 in
theorem wd_latches {sc : pt_Sc} {d : Nat} : wv_C wm_fx sc (d + 1) 309 (wd_g 9) := by
  rintro as T N I L R q ⟨C, rfl, hD, h⟩ w HR
  obtain ⟨cb, ci, np, hm⟩ := wd_m309
  refine wv_meth (hh := none) rfl (sp := fun _ _ _ _ _ _ _ _ => False) (hd := fun _ => none) (n := 0) (n1 := 100) hm zc_309 rfl (fun k as T N I L R q h => by cases h) ?_ (fun pc P h => by cases h) HR
  exact ⟨hD, h⟩
set_option maxRecDepth 100000 in
theorem wd_gates {sc : pt_Sc} {d : Nat} : wv_C wm_fx sc (d + 1) 69 (wd_g 10) := by
  rintro as T N I L R q ⟨C, rfl, hD, h⟩ w HR
  obtain ⟨cb, ci, np, hm⟩ := wd_m69
  refine wv_meth (hh := none) rfl (sp := fun _ _ _ _ _ _ _ _ => False) (hd := fun _ => none) (n := 0) (n1 := 100) hm zc_69 rfl (fun k as T N I L R q h => by cases h) ?_ (fun pc P h => by cases h) HR
  exact ⟨hD, h⟩
def wq_c306 : wv_c1 := fun as T N I L R q => ∃ (n : Int32) (C : Nat), as = [.ref 0, .int n] ∧ R 0 14 = some C ∧ wd_D T R C ∧ (if n < 0 ∨ 8 < n.toInt then q (.inr 0) T N I L R 1 6 else q (.inl (some (.int (wh (I C 8) (I C 9) (I C 10) (I (C + 5)) n)))) T N I L R 0 0)
set_option maxRecDepth 100000 in
theorem wq_m306 : ∃ cb ci np, pt_mt 306 = some (1, cb, 2, false, some .int, ci, np) := ⟨_, _, _, rfl⟩
set_option maxRecDepth 100000 in
theorem wq_has {sc : pt_Sc} {d : Nat} : wv_C wm_fx sc (d + 1 + 1) 306 wq_c306 := by
  rintro as T N I L R q ⟨n, C, rfl, hC, hD, h⟩ w HR
  obtain ⟨cb, ci, np, hm⟩ := wq_m306
  refine wv_meth (hh := none) rfl (sp := wv_sp [(307, wd_c307), (308, wd_g 8), (309, wd_g 9), (69, wd_g 10)]) (hd := fun _ => none) (n := 0) (n1 := 100) hm zc_306 rfl (wv_sp_ok (fun q hq => by
    rcases List.mem_cons.mp hq with h | h
    · rw [h]; exact wd_signal
    rcases List.mem_cons.mp h with h | h
    · rw [h]; exact wd_inputs
    rcases List.mem_cons.mp h with h | h
    · rw [h]; exact wd_latches
    rw [List.mem_singleton.mp h]; exact wd_gates)) ?_ (fun pc P h => by cases h) HR
  have e9 : ((Int8.ofInt 9).toInt32).toInt = 9 := rfl
  refine ⟨?_, ?_⟩
  · intro h1
    rw [if_pos (Or.inl h1)] at h
    exact h
  · intro h1
    refine ⟨?_, ?_⟩
    · intro h2
      have h3 : n.toInt ≤ 8 := by rw [wi_lt, e9] at h2; omega
      rw [if_neg (fun z => z.elim h1 (fun y => by omega))] at h
      unfold wh at h
      refine ⟨?_, ?_⟩
      · intro h4
        refine ⟨?_, ?_⟩
        · intro h5
          rw [if_neg h5] at h
          refine ⟨?_, ?_⟩
          · intro h6
            rw [if_neg (show ¬ n = 1 from h6)] at h
            have h7 : n = 2 := by
              have b0 : ¬ n.toInt < 0 := fun z => h1 (wi_lt.mpr z)
              have b1 : n.toInt < 3 := wi_lt.mp h4
              have b2 : ¬ n.toInt = 0 := fun z => h5 (wi_eq.mpr z)
              have b3 : ¬ n.toInt = 1 := fun z => h6 (wi_eq.mpr z)
              exact wi_eq.mpr (show n.toInt = 2 by omega)
            rw [if_pos h7] at h
            exact ⟨C, hC, hD.1, C, rfl, hD.1, h⟩
          · intro h6
            rw [if_pos (show n = 1 from Decidable.not_not.mp h6)] at h
            exact ⟨C, hC, hD.1, C, rfl, hD.1, h⟩
        · intro h5
          rw [if_pos (Decidable.not_not.mp h5)] at h
          exact ⟨C, hC, hD.1, C, rfl, hD.1, h⟩
      · intro h4
        have b1 : ¬ n.toInt < 3 := fun z => h4 (wi_lt.mpr z)
        rw [if_neg (fun z => by rw [z] at b1; exact b1 (by decide)), if_neg (fun z => by rw [z] at b1; exact b1 (by decide)), if_neg (fun z => by rw [z] at b1; exact b1 (by decide))] at h
        exact ⟨C, hC, hD.1, C, _, rfl, hD, wh_in h1 h3 h4, h⟩
    · intro h2
      have h3 : 8 < n.toInt := by rw [wi_lt, e9] at h2; omega
      rw [if_pos (Or.inr h3)] at h
      exact h
