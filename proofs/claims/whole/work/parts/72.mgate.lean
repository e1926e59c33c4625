/-! ===== the reference: gate ===== -/
def wn_lim (I : Nat → Nat → Int32) : Int32 := Int32.ofInt 2 * (Int32.ofInt 1 + I 460 56 + I 460 57 + I 460 58)
def wn_no (I : Nat → Nat → Int32) (l : Int32) : Bool := decide (l < 0 ∨ wn_lim I ≤ l)
def wp_c453 : wv_c1 := fun as T N I L R q => ∃ l : Int32, as = [.ref 460, .int l] ∧ q (.inl (some (.int (wp_b (wn_no I l))))) T N I L R 0 0
set_option maxRecDepth 100000 in
theorem wp_m453 : ∃ cb ci np, pt_mt 453 = some (32, cb, 2, false, some .boolean, ci, np) := ⟨_, _, _, rfl⟩
set_option maxRecDepth 100000 in
theorem wp_noLiteral {sc : pt_Sc} {d : Nat} : wv_C wm_fx sc (d + 1) 453 wp_c453 := by
  rintro as T N I L R q ⟨l, rfl, h⟩ w HR
  obtain ⟨cb, ci, np, hm⟩ := wp_m453
  refine wv_meth (hh := none) rfl (sp := fun _ _ _ _ _ _ _ _ => False) (hd := fun _ => none) (n := 0) (n1 := 100) hm zc_453 rfl (fun k as T N I L R q h => by cases h) ?_ (fun pc P h => by cases h) HR
  refine ⟨fun h1 => ?_, fun h1 => ⟨fun h2 => ?_, fun h2 => ?_⟩⟩
  · rw [show wn_no I l = true from decide_eq_true (Or.inl h1)] at h
    exact ⟨⟨rfl, rfl⟩, h⟩
  · rw [show wn_no I l = false from decide_eq_false (fun z => z.elim h1 (fun y => Int32.not_lt.mpr y h2))] at h
    exact ⟨⟨rfl, rfl⟩, h⟩
  · rw [show wn_no I l = true from decide_eq_true (Or.inr (Int32.not_lt.mp h2))] at h
    exact ⟨⟨rfl, rfl⟩, h⟩
