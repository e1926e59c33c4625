/-! ===== the class: StringBuilder, more room ===== -/
def bu_c254 : wv_c1 := fun as T N I L R q => ∃ (V cap n : Nat), as = [.ref V, .int (Int32.ofNat n)] ∧ T V = some (.inr (3, cap)) ∧ V < 1099511627776 ∧ cap < n ∧ n < 1000000 ∧ N < 1000000000 ∧ bu_b I V cap ∧ (T N = none → q (.inl (some (.ref N))) (wv_n T N (.inr (3, n))) (N + 1) (wv_cp (wv_z I N 0) V 0 N 0 cap) (wv_z L N 0) (wv_z R N none) 1 n)
set_option maxRecDepth 100000 in
theorem wM_254 : ∃ cb ci np, pt_mt 254 = some (15, cb, 3, false, some (.array .byte), ci, np) := ⟨_, _, _, rfl⟩
set_option maxRecDepth 100000 in
set_option maxHeartbeats 4000000 in
theorem bu_copyOf {sc : pt_Sc} {d : Nat} : wv_C wm_fx sc (d + 1) 254 bu_c254 := by
  rintro as T N I L R q ⟨V, cap, n, rfl, hV, hV2, hc, hn, hN, hb, h⟩ w0 HR
  obtain ⟨cb, ci, np, hm⟩ := wM_254
  refine wv_meth (hh := none) rfl (sp := fun _ _ _ _ _ _ _ _ => False) (hd := fun _ => none) (n := 0) (n1 := 300) hm zc_254 rfl (fun k as T N I L R q h => by cases h) ?_ (fun pc P h => by cases h) HR
  have en := wi_on (n := n) (by omega)
  have ec := wi_on (n := cap) (by omega)
  have enn := wi_onn (n := n) (by omega)
  have ecn := wi_onn (n := cap) (by omega)
  refine ⟨_, _, hV, ?_⟩
  refine ⟨fun w1 => ?_, fun w1 => ?_⟩
  rotate_left
  · have w1 : ¬ ¬ Int32.ofNat n = Int32.ofNat cap := w1
    rw [wi_eq, en, ec] at w1
    omega
  refine ⟨⟨hN, by rw [wi_le, en, wi_0]; omega, by omega⟩, fun hNn => ?_⟩
  have hq := h hNn
  have hVN : ¬ V = N := fun z => by
    rw [z, hNn] at hV
    cases hV
  have tV : wv_n T N (.inr (3, (Int32.ofNat n).toNatClampNeg)) V = some (.inr (3, cap)) := (if_neg hVN).trans hV
  refine ⟨_, _, tV, ?_⟩
  have emn : (if Int32.ofNat n < Int32.ofNat cap then Int32.ofNat n else Int32.ofNat cap) = Int32.ofNat cap := if_neg (by rw [wi_lt, en, ec]; omega)
  refine ⟨3, cap, n, ⟨tV, by rw [enn]; exact if_pos rfl⟩, ⟨by decide, Or.inr rfl, (show N < 1099511627776 by omega)⟩, ⟨by decide, by decide, ?_⟩, ⟨?_, ?_⟩, Or.inr (fun k hk => ?_), ?_⟩
  · rw [emn, wi_le, ec, wi_0]
    omega
  · rw [emn, ec]
    show (0 : Int) + cap ≤ cap
    omega
  · rw [emn, ec]
    show (0 : Int) + cap ≤ n
    omega
  · rw [emn, ec] at hk
    obtain ⟨c, c1, c2⟩ := hb k (by omega)
    have e : wv_z I N 0 V (0 + k) = Int32.ofNat c := by
      rw [Nat.zero_add]
      exact (if_neg hVN).trans c2
    show fits .byte (.int (wv_z I N 0 V (0 + k))) = true
    rw [e]
    exact bu_fit c c1
  · have e0 : (Int32.ofInt 0).toNatClampNeg = 0 := rfl
    rw [emn, ecn, enn, e0, if_neg (by decide), Nat.zero_add n]
    exact hq
def bu_c250 : wv_c1 := fun as T N I L R q => ∃ (B V cap mn : Nat), as = [.ref B, .int (Int32.ofNat mn)] ∧ T B = some (.inl 13) ∧ R B 0 = some V ∧ I B 1 = 0 ∧ T V = some (.inr (3, cap)) ∧ cap < 100000 ∧ mn < 100000 ∧ V < 1099511627776 ∧ B < 1099511627776 ∧ N < 1000000000 ∧ bu_b I V cap ∧ (mn ≤ cap → q (.inl none) T N I L R 0 0) ∧ (cap < mn → T N = none → q (.inl none) (wv_n T N (.inr (3, bu_g cap mn))) (N + 1) (wv_cp (wv_z I N 0) V 0 N 0 cap) (wv_z L N 0) (wv_u (wv_z R N none) B 0 (some N)) 1 (bu_g cap mn))
set_option maxRecDepth 100000 in
theorem wM_250 : ∃ cb ci np, pt_mt 250 = some (13, cb, 3, false, none, ci, np) := ⟨_, _, _, rfl⟩
set_option maxRecDepth 100000 in
set_option maxHeartbeats 4000000 in
theorem bu_ensure {sc : pt_Sc} {d : Nat} : wv_C wm_fx sc (d + 1 + 1 + 1) 250 bu_c250 := by
  rintro as T N I L R q ⟨B, V, cap, mn, rfl, hB, hR, h0, hV, hc, hmn, hV2, hB2, hN, hb, h1, h2⟩ w0 HR
  obtain ⟨cb, ci, np, hm⟩ := wM_250
  have hc251 : wv_C wm_fx sc (d + 1 + 1) 251 bu_c251 := wv_C_deep (by omega) (bu_newCapacity (d := d))
  have hc254 : wv_C wm_fx sc (d + 1 + 1) 254 bu_c254 := wv_C_deep (by omega) (bu_copyOf (d := d))
  refine wv_meth (hh := none) rfl (sp := wv_sp [(251, bu_c251), (254, bu_c254)]) (hd := fun _ => none) (n := 0) (n1 := 300) hm zc_250 rfl (wv_sp_ok (fun q hq => by
    rcases List.mem_cons.mp hq with h | h
    · rw [h]; exact hc251
    rw [List.mem_singleton.mp h]; exact hc254)) ?_ (fun pc P h => by cases h) HR
  have ec := wi_on (n := cap) (by omega)
  have em := wi_on (n := mn) (by omega)
  have eg : bu_g cap mn < 1000000 ∧ cap < bu_g cap mn := by
    unfold bu_g
    split <;> omega
  refine ⟨hB, V, hR, _, _, hV, hB, ?_⟩
  rw [h0]
  refine ⟨fun w1 => ?_, fun w1 => ?_⟩
  · have w1 : Int32.ofNat mn - Int32.ofNat cap >>> ((0 : Int32) &&& 31) ≤ 0 := w1
    rw [bu_sh] at w1
    refine h1 ?_
    rcases Nat.lt_or_ge cap mn with y | y
    · rw [mr_sub (by omega) (by omega), wi_le, wi_on (by omega), wi_0] at w1
      omega
    · exact y
  · have w1 : ¬ Int32.ofNat mn - Int32.ofNat cap >>> ((0 : Int32) &&& 31) ≤ 0 := w1
    rw [bu_sh] at w1
    have hlt : cap < mn := by
      rcases Nat.lt_or_ge cap mn with y | y
      · exact y
      · exfalso
        apply w1
        rw [wi_le, wi_0, Int32.toInt_sub, ec, em, Int.bmod_eq_of_le (by omega) (by omega)]
        omega
    refine ⟨hB, V, hR, ?_⟩
    refine ⟨hB, B, V, cap, mn, rfl, hB, hR, h0, hV, hlt, hmn, ?_⟩
    refine ⟨hB, ?_⟩
    rw [h0]
    refine ⟨V, cap, bu_g cap mn, (by first | rfl | exact congrArg (fun y => [Value.ref V, Value.int y]) (bu_sl _)), hV, hV2, by omega, by omega, hN, hb, fun hNn => ?_⟩
    have hBN : ¬ B = N := fun z => by
      rw [z, hNn] at hB
      cases hB
    refine ⟨⟨(if_neg hBN).trans hB, hB2⟩, ?_⟩
    rw [show 0 + 0 + bu_g cap mn = bu_g cap mn by omega]
    exact h2 hlt hNn
