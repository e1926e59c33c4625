/-! ===== the class: StringBuilder, room ===== -/
theorem bu_sh (m : Nat) : Int32.ofNat m >>> ((0 : Int32) &&& 31) = Int32.ofNat m := by
  rw [show ((0 : Int32) &&& 31) = 0 from rfl]
  exact Int32.shiftRight_zero
theorem bu_sl (m : Nat) : Int32.ofNat m <<< ((0 : Int32) &&& 31) = Int32.ofNat m := by
  rw [show ((0 : Int32) &&& 31) = 0 from rfl]
  exact Int32.shiftLeft_zero
/-- bytes that are signs -/
def bu_b (I : Nat → Nat → Int32) (V cap : Nat) : Prop := ∀ k, k < cap → ∃ c, c < 128 ∧ I V k = Int32.ofNat c
/-- the next room -/
def bu_g (cap mn : Nat) : Nat := cap + (if cap + 2 < mn - cap then mn - cap else cap + 2)
theorem bu_fit : ∀ m, m < 128 → fits .byte (.int (Int32.ofNat m)) = true := by decide
def bu_c255 : wv_c1 := fun as T N I L R q => ∃ B : Nat, as = [.ref B] ∧ T B = some (.inl 13) ∧ I B 1 = 0 ∧ q (.inl (some (.int 1))) T N I L R 0 0
set_option maxRecDepth 100000 in
theorem wM_255 : ∃ cb ci np, pt_mt 255 = some (13, cb, 1, false, some .boolean, ci, np) := ⟨_, _, _, rfl⟩
set_option maxRecDepth 100000 in
set_option maxHeartbeats 4000000 in
theorem bu_isLatin {sc : pt_Sc} {d : Nat} : wv_C wm_fx sc (d + 1) 255 bu_c255 := by
  rintro as T N I L R q ⟨B, rfl, hB, h0, h⟩ w0 HR
  obtain ⟨cb, ci, np, hm⟩ := wM_255
  refine wv_meth (hh := none) rfl (sp := fun _ _ _ _ _ _ _ _ => False) (hd := fun _ => none) (n := 0) (n1 := 300) hm zc_255 rfl (fun k as T N I L R q h => by cases h) ?_ (fun pc P h => by cases h) HR
  refine ⟨fun z => (by cases z), fun _ => ?_⟩
  refine ⟨hB, ?_⟩
  refine ⟨fun z => (z h0).elim, fun _ => ⟨⟨rfl, rfl⟩, h⟩⟩
def bu_c281 : wv_c1 := fun as T N I L R q => ∃ B : Nat, as = [.ref B] ∧ T B = some (.inl 13) ∧ q (.inl (some (.int (I B 3)))) T N I L R 0 0
set_option maxRecDepth 100000 in
theorem wM_281 : ∃ cb ci np, pt_mt 281 = some (13, cb, 1, false, some .int, ci, np) := ⟨_, _, _, rfl⟩
set_option maxRecDepth 100000 in
set_option maxHeartbeats 4000000 in
theorem bu_length2 {sc : pt_Sc} {d : Nat} : wv_C wm_fx sc (d + 1) 281 bu_c281 := by
  rintro as T N I L R q ⟨B, rfl, hB, h⟩ w0 HR
  obtain ⟨cb, ci, np, hm⟩ := wM_281
  refine wv_meth (hh := none) rfl (sp := fun _ _ _ _ _ _ _ _ => False) (hd := fun _ => none) (n := 0) (n1 := 300) hm zc_281 rfl (fun k as T N I L R q h => by cases h) ?_ (fun pc P h => by cases h) HR
  exact ⟨hB, h⟩
set_option maxRecDepth 100000 in
theorem wM_280 : ∃ cb ci np, pt_mt 280 = some (12, cb, 1, false, some .int, ci, np) := ⟨_, _, _, rfl⟩
set_option maxRecDepth 100000 in
set_option maxHeartbeats 4000000 in
theorem bu_length {sc : pt_Sc} {d : Nat} : wv_C wm_fx sc (d + 1 + 1) 280 bu_c281 := by
  rintro as T N I L R q ⟨B, rfl, hB, h⟩ w0 HR
  obtain ⟨cb, ci, np, hm⟩ := wM_280
  have hc281 : wv_C wm_fx sc (d + 1) 281 bu_c281 := wv_C_deep (by omega) (bu_length2 (d := d))
  refine wv_meth (hh := none) rfl (sp := wv_sp [(281, bu_c281)]) (hd := fun _ => none) (n := 0) (n1 := 300) hm zc_280 rfl (wv_sp_ok (fun q hq => by rw [List.mem_singleton.mp hq]; exact hc281)) ?_ (fun pc P h => by cases h) HR
  exact ⟨hB, B, rfl, hB, h⟩
def bu_c252 : wv_c1 := fun as T N I L R q => ∃ (a m p : Nat), as = [.int (Int32.ofNat a), .int (Int32.ofNat m), .int (Int32.ofNat p)] ∧ a < 100000 ∧ m < 100000 ∧ 0 < p ∧ p < 200000 ∧ q (.inl (some (.int (Int32.ofNat (a + (if p < m then m else p)))))) T N I L R 0 0
set_option maxRecDepth 100000 in
theorem wM_252 : ∃ cb ci np, pt_mt 252 = some (30, cb, 4, false, some .int, ci, np) := ⟨_, _, _, rfl⟩
set_option maxRecDepth 100000 in
set_option maxHeartbeats 4000000 in
theorem bu_newLength {sc : pt_Sc} {d : Nat} : wv_C wm_fx sc (d + 1) 252 bu_c252 := by
  rintro as T N I L R q ⟨a, mb, pb, rfl, ha, hmb, hp0, hp, h⟩ w0 HR
  obtain ⟨cb, ci, np, hm⟩ := wM_252
  refine wv_meth (hh := none) rfl (sp := fun _ _ _ _ _ _ _ _ => False) (hd := fun _ => none) (n := 0) (n1 := 300) hm zc_252 rfl (fun k as T N I L R q h => by cases h) ?_ (fun pc P h => by cases h) HR
  have e1 : Int32.ofNat a + (if Int32.ofNat mb < Int32.ofNat pb then Int32.ofNat pb else Int32.ofNat mb) = Int32.ofNat (a + (if pb < mb then mb else pb)) := by
    have hlt : Int32.ofNat mb < Int32.ofNat pb ↔ mb < pb := by
      rw [wi_lt, wi_on (by omega), wi_on (by omega)]
      omega
    by_cases c : pb < mb
    · rw [if_pos c, if_neg (fun z => by have := hlt.mp z; omega), wi_ona]
    · rw [if_neg c]
      by_cases c2 : mb < pb
      · rw [if_pos (hlt.mpr c2), wi_ona]
      · have : mb = pb := by omega
        subst this
        rw [if_neg (fun z => by have := hlt.mp z; omega), wi_ona]
  obtain ⟨s, hs⟩ : ∃ s, a + (if pb < mb then mb else pb) = s := ⟨_, rfl⟩
  have hsb : 0 < s ∧ s < 1000000 := by
    rw [← hs]
    split <;> omega
  rw [hs] at e1 h
  have es := wi_on (n := s) (by omega)
  refine ⟨fun w1 => ?_, fun w1 => ?_⟩
  · have w1 : Int32.ofNat a + (if Int32.ofNat mb < Int32.ofNat pb then Int32.ofNat pb else Int32.ofNat mb) ≤ Int32.ofInt 0 := w1
    rw [e1, wi_le, es, show (Int32.ofInt 0).toInt = 0 from rfl] at w1
    omega
  refine ⟨fun w2 => ?_, fun w2 => ?_⟩
  · have w2 : (2147483639 : Int32) < Int32.ofNat a + (if Int32.ofNat mb < Int32.ofNat pb then Int32.ofNat pb else Int32.ofNat mb) := w2
    rw [e1, wi_lt, es, show (2147483639 : Int32).toInt = 2147483639 from rfl] at w2
    omega
  rw [← e1] at h
  exact h
def bu_c251 : wv_c1 := fun as T N I L R q => ∃ (B V cap mn : Nat), as = [.ref B, .int (Int32.ofNat mn)] ∧ T B = some (.inl 13) ∧ R B 0 = some V ∧ I B 1 = 0 ∧ T V = some (.inr (3, cap)) ∧ cap < mn ∧ mn < 100000 ∧ q (.inl (some (.int (Int32.ofNat (bu_g cap mn))))) T N I L R 0 0
set_option maxRecDepth 100000 in
theorem wM_251 : ∃ cb ci np, pt_mt 251 = some (13, cb, 6, false, some .int, ci, np) := ⟨_, _, _, rfl⟩
set_option maxRecDepth 100000 in
set_option maxHeartbeats 4000000 in
theorem bu_newCapacity {sc : pt_Sc} {d : Nat} : wv_C wm_fx sc (d + 1 + 1) 251 bu_c251 := by
  rintro as T N I L R q ⟨B, V, cap, mn, rfl, hB, hV, h0, hT, hc, hmn, h⟩ w0 HR
  obtain ⟨cb, ci, np, hm⟩ := wM_251
  have hc252 : wv_C wm_fx sc (d + 1) 252 bu_c252 := wv_C_deep (by omega) (bu_newLength (d := d))
  refine wv_meth (hh := none) rfl (sp := wv_sp [(252, bu_c252)]) (hd := fun _ => none) (n := 0) (n1 := 300) hm zc_251 rfl (wv_sp_ok (fun q hq => by rw [List.mem_singleton.mp hq]; exact hc252)) ?_ (fun pc P h => by cases h) HR
  have eg : bu_g cap mn < 1000000 := by
    unfold bu_g
    split <;> omega
  refine ⟨hB, V, hV, _, _, hT, ?_⟩
  refine ⟨hB, hB, ?_⟩
  rw [h0]
  have e1 : Int32.ofNat mn <<< ((0 : Int32) &&& 31) - Int32.ofNat cap = Int32.ofNat (mn - cap) := by
    rw [bu_sl, mr_sub (by omega) (by omega)]
  have e2 : Int32.ofNat cap + Int32.ofInt 2 <<< ((0 : Int32) &&& 31) = Int32.ofNat (cap + 2) := by
    rw [show Int32.ofInt 2 = Int32.ofNat 2 from rfl, bu_sl, wi_ona]
  refine ⟨cap, mn - cap, cap + 2, (by first | rfl | (rw [e1, e2]; rfl)), by omega, by omega, by omega, by omega, ?_⟩
  refine ⟨fun w1 => ?_, fun w1 => ?_⟩
  rotate_left
  · have w1 : ¬ ¬ Int32.ofNat (cap + (if cap + 2 < mn - cap then mn - cap else cap + 2)) = (2147483647 : Int32) := w1
    have w2 := Classical.not_not.mp w1
    rw [wi_eq, wi_on (by unfold bu_g at eg; omega), show (2147483647 : Int32).toInt = 2147483647 from rfl] at w2
    unfold bu_g at eg
    omega
  refine ⟨hB, ?_⟩
  rw [h0]
  rw [← bu_sh (bu_g cap mn)] at h
  exact h
