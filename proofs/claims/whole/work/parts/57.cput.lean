/-! ===== the class: put ===== -/
theorem wb_u (s : Int32) {k : Nat} (hk : k < 4) : (s.toUInt32 >>> (((Int8.ofInt 8).toInt32 * Int32.ofNat k).toUInt32 &&& Int32.toUInt32 31)).toInt32 &&& (Int16.ofInt 255).toInt32 = wb s k := by
  have h4 : k = 0 ∨ k = 1 ∨ k = 2 ∨ k = 3 := by omega
  have key : ∀ (x : BitVec 32) (n : Nat), n ≤ 24 → (x >>> n) &&& 255#32 = (x.sshiftRight n) &&& 255#32 := by
    intro x n hn
    apply BitVec.eq_of_getLsbD_eq
    intro i hi
    rw [BitVec.getLsbD_and, BitVec.getLsbD_and, BitVec.getLsbD_ushiftRight, BitVec.getLsbD_sshiftRight]
    by_cases h8 : i < 8
    · have e1 : decide (32 ≤ i) = false := decide_eq_false (by omega)
      have e2 : n + i < 32 := by omega
      simp [e2, hi, e1]
    · have e : (255#32).getLsbD i = false := by
        have : ∀ i, i < 32 → ¬ i < 8 → (255#32).getLsbD i = false := by decide
        exact this i hi h8
      rw [e, Bool.and_false, Bool.and_false]
  rcases h4 with rfl | rfl | rfl | rfl
  · exact congrArg (fun b => Int32.ofBitVec b) (key s.toBitVec 0 (by decide))
  · exact congrArg (fun b => Int32.ofBitVec b) (key s.toBitVec 8 (by decide))
  · exact congrArg (fun b => Int32.ofBitVec b) (key s.toBitVec 16 (by decide))
  · exact congrArg (fun b => Int32.ofBitVec b) (key s.toBitVec 24 (by decide))
/-- a sign more -/
def wp_add (c : Int32) (I : Nat → Nat → Int32) : Nat → Nat → Int32 := if c = 0 then I else wv_u (wv_u I 2 (I 1 6).toNatClampNeg c) 1 6 (I 1 6 + Int32.ofInt 1)
def wp_c96 : wv_c1 := fun as T N I L R q => ∃ c : Int32, as = [.ref 1, .int c] ∧ wm_T T ∧ 0 ≤ (I 1 6).toInt ∧ (c = 0 ∨ (I 1 6).toInt < 400) ∧ q (.inl none) T N (wp_add c I) L R 0 0
def wp_c24 : wv_c1 := fun as T N I L R q => as = [.ref 1] ∧ q (.inl (some (.int (I 1 6)))) T N I L R 0 0
set_option maxRecDepth 100000 in
theorem wp_m96 : ∃ cb ci np, pt_mt 96 = some (2, cb, 2, false, none, ci, np) := ⟨_, _, _, rfl⟩
set_option maxRecDepth 100000 in
theorem wp_m24 : ∃ cb ci np, pt_mt 24 = some (2, cb, 1, false, some .int, ci, np) := ⟨_, _, _, rfl⟩
set_option maxRecDepth 100000 in
theorem wp_count {sc : pt_Sc} {d : Nat} : wv_C wm_fx sc (d + 1) 24 wp_c24 := by
  rintro as T N I L R q ⟨rfl, h⟩ w HR
  obtain ⟨cb, ci, np, hm⟩ := wp_m24
  refine wv_meth (hh := none) rfl (sp := fun _ _ _ _ _ _ _ _ => False) (hd := fun _ => none) (n := 0) (n1 := 100) hm zc_24 rfl (fun k as T N I L R q h => by cases h) ?_ (fun pc P h => by cases h) HR
  exact h
set_option maxRecDepth 100000 in
theorem wp_addSign {sc : pt_Sc} {d : Nat} : wv_C wm_fx sc (d + 1) 96 wp_c96 := by
  rintro as T N I L R q ⟨c, rfl, hT, h0, h1, h⟩ w HR
  obtain ⟨cb, ci, np, hm⟩ := wp_m96
  refine wv_meth (hh := none) rfl (sp := fun _ _ _ _ _ _ _ _ => False) (hd := fun _ => none) (n := 0) (n1 := 100) hm zc_96 rfl (fun k as T N I L R q h => by cases h) ?_ (fun pc P h => by cases h) HR
  unfold wp_add at h
  refine ⟨?_, ?_⟩
  · intro hc
    rw [if_pos hc] at h
    exact h
  · intro hc
    rw [if_neg hc] at h
    have h2 : (I 1 6).toInt < 400 := h1.elim (fun z => (hc z).elim) id
    refine ⟨?_, ?_⟩
    · intro h3
      rw [wi_le, wi_16] at h3
      omega
    · intro _
      refine ⟨_, wm_t hT rfl, ⟨by rw [wi_le]; exact h0, by omega⟩, by decide, ?_⟩
      have e : wv_u I 2 (I 1 6).toNatClampNeg c 1 6 = I 1 6 := wv_u_no _ _ (by omega)
      have h9 : q (.inl none) T N (wv_u (wv_u I 2 (I 1 6).toNatClampNeg c) 1 6 (wv_u I 2 (I 1 6).toNatClampNeg c 1 6 + Int32.ofInt 1)) L R 0 0 := by
        rw [e]
        exact h
      exact h9
