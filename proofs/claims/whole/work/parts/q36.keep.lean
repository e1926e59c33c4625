/-! ===== the start: what stands outside ===== -/
def ot_s : Bool := wt_L.all fun x => st_y (cx_T (pt_look pt_OTL x.1)) (.inl 14) && st_r (cx_R (pt_look pt_OTL x.1) 0) (1099511627777 + x.1) && st_n (cx_I (pt_look pt_OTL x.1) 1) 0 && st_y (cx_T (pt_look pt_OTL (x.1 + 1))) (.inr (3, x.2.length)) && Nat.ble x.2.length 8 && st_f x.2.length (fun k => st_n (cx_I (pt_look pt_OTL (x.1 + 1)) k) (x.2.getD k 0) && Nat.blt (x.2.getD k 0) 128) && Nat.blt 0 x.1
set_option maxRecDepth 100000 in
theorem ot_s_t : ot_s = true := by decide +kernel
def ot_l : Bool := st_y (cx_T (pt_look pt_OTL 4)) (.inr (1, 6)) && st_f 6 (fun v => st_f 64 fun u => (nb (cx_L (pt_look pt_OTL 4) v) u == u.testBit v)) && st_y (cx_T (pt_look pt_OTL 5)) (.inr (3, 100)) && st_y (cx_T (pt_look pt_OTL 6)) (.inr (3, 100)) && st_f 100 (fun r => st_n (cx_I (pt_look pt_OTL 5) r) (48 + r % 10) && st_n (cx_I (pt_look pt_OTL 6) r) (48 + r / 10)) && st_y (cx_T (pt_look pt_OTL 1)) (.inr (1, 0)) && st_y (cx_T (pt_look pt_OTL 2)) (.inr (0, 0)) && st_y (cx_T (pt_look pt_OTL 3)) (.inr (1, 0)) && pt_OTL.all fun x => cx_o x.2
set_option maxRecDepth 100000 in
theorem ot_l_t : ot_l = true := by decide +kernel
abbrev st_ao (p : Nat → Option pz_C) : Prop := ∀ i, ¬ i = 0 → p (1099511627776 + i) = pt_look pt_OTL i
section SY
variable {p : Nat → Option pz_C}
theorem yT (hp : st_ao p) {i : Nat} {v : Nat ⊕ (Nat × Nat)} (h : st_y (cx_T (pt_look pt_OTL i)) v = true) (hi : ¬ i = 0) : sx_T p (1099511627776 + i) = some v := by
  show cx_T (p _) = _
  rw [hp i hi]
  exact st_ty h
theorem yI (hp : st_ao p) {i k v : Nat} (h : st_n (cx_I (pt_look pt_OTL i) k) v = true) (hi : ¬ i = 0) : sx_I p (1099511627776 + i) k = Int32.ofNat v := by
  show cx_I (p _) k = _
  rw [hp i hi]
  exact st_i h
theorem yR (hp : st_ao p) {i k v : Nat} (h : st_r (cx_R (pt_look pt_OTL i) k) v = true) (hi : ¬ i = 0) : sx_R p (1099511627776 + i) k = some v := by
  show cx_R (p _) k = _
  rw [hp i hi]
  exact st_rf h
theorem sx_X (hp : st_ao p) : rl_X (sx_T p) (sx_I p) (sx_L p) (sx_R p) := by
  have h := ot_l_t
  unfold ot_l at h
  simp only [Bool.and_eq_true] at h
  obtain ⟨⟨⟨⟨⟨⟨⟨⟨h1, h2⟩, h3⟩, h4⟩, h5⟩, _⟩, _⟩, _⟩, _⟩ := h
  refine ⟨fun i w e => ?_, ⟨yT hp h1 (by omega), fun v hv u hu => ?_⟩, yT hp h3 (by omega), yT hp h4 (by omega), fun r hr => ?_⟩
  · have k := List.all_eq_true.mp ot_s_t _ (pt_look_mem e)
    simp only [Bool.and_eq_true] at k
    obtain ⟨⟨⟨⟨⟨⟨k1, k2⟩, k3⟩, k4⟩, k5⟩, k6⟩, k7⟩ := k
    have hi : ¬ i = 0 := by
      have : 1 ≤ i := Nat.le_of_ble_eq_true k7
      omega
    have e1 : 1099511627777 + i = 1099511627776 + (i + 1) := by omega
    refine ⟨yT hp k1 hi, yR hp k2 hi, yI hp k3 hi, ?_, Nat.le_of_ble_eq_true k5, fun k c hk => ?_⟩
    · rw [e1]
      exact yT hp k4 (by omega)
    · have hl := (List.getElem?_eq_some_iff.mp hk).1
      have z := st_ff k6 k hl
      rw [Bool.and_eq_true, List.getD_eq_getElem?_getD, hk] at z
      refine ⟨?_, Nat.le_of_ble_eq_true z.2⟩
      rw [e1]
      exact yI hp z.1 (by omega)
  · have z := st_ff (st_ff h2 v hv) u hu
    show nb (cx_L (p (1099511627776 + 4)) v) u = _
    rw [hp 4 (by omega)]
    exact eq_of_beq z
  · have z := st_ff h5 r hr
    rw [Bool.and_eq_true] at z
    exact ⟨yI hp z.1 (by omega), yI hp z.2 (by omega)⟩
theorem sx_0 (hp : st_ao p) : sx_T p 1099511627777 = some (.inr (1, 0)) ∧ sx_T p 1099511627778 = some (.inr (0, 0)) ∧ sx_T p 1099511627779 = some (.inr (1, 0)) := by
  have h := ot_l_t
  unfold ot_l at h
  simp only [Bool.and_eq_true] at h
  obtain ⟨⟨⟨⟨⟨⟨⟨⟨h1, h2⟩, h3⟩, h4⟩, h5⟩, h6⟩, h7⟩, h8⟩, _⟩ := h
  exact ⟨yT hp h6 (by omega), yT hp h7 (by omega), yT hp h8 (by omega)⟩
end SY
/-! ===== the property that always holds, as it was never read ===== -/
def st_S0 : rn_N := rn_mk rn_0 (60, 0, 0, 0, 0) 0 (fun _ => true)
theorem st_S0n {x : Nat} (h : x < rn_n st_S0) : x = 0 := by
  have : rn_n st_S0 = 1 := rfl
  omega
theorem st_S0d : rn_d st_S0 0 = (60, 0, 0, 0, 0) := rfl
theorem st_S0k : rn_k st_S0 0 = 60 := rfl
theorem st_rb : rb_S rl_Pt st_S0 1 0 [] := by
  have hi : rn_i st_S0 := rn_mk_i rn_i_0 (by omega) (fun _ h => absurd rfl h)
  have hq : rn_q st_S0 := fun n hn => by
    rw [st_S0n hn]
    refine ⟨by decide, fun _ => ⟨fun h => ?_, fun h => ?_, fun h => ?_, fun h => ?_, fun h => ?_, fun h => ?_⟩⟩
    all_goals have e : nq_k (rn_d st_S0 0) = 60 := rfl
    · unfold tr_L at h; omega
    · unfold tr_R at h; omega
    · unfold tr_S at h; omega
    · omega
    · omega
    · omega
  refine ⟨⟨fun n => n = 0, fun _ => 0, fun _ => 1, fun n hn => ?_, fun y hy => ?_, rfl, rfl, rfl⟩, ⟨by decide, by omega, by decide, hi, hq, fun x hx _ => ?_⟩, ⟨fun y hy _ h => ?_, fun h => absurd rfl h⟩, fun y hy _ => ?_, ⟨(fun f hf => absurd hf (by simp)), rfl, (fun y hy => absurd hy (by simp))⟩, (fun y hy => absurd hy (by simp)), by simp, by decide, ⟨fun _ => 0, fun y hy _ => ?_⟩, rfl, fun z hz h => ?_, by decide⟩
  · subst hn
    refine ⟨Or.inl ⟨rfl, rfl, fun _ _ => rfl, rfl⟩, fun h => ?_, fun h => ?_, Nat.zero_lt_one, by decide⟩
    · have e : nq_k (rn_d st_S0 0) = 60 := rfl
      unfold tr_L at h; omega
    · have e : nq_k (rn_d st_S0 0) = 60 := rfl
      unfold tr_R at h; omega
  · subst hy
    exact ⟨by decide, Or.inl rfl⟩
  · rw [st_S0n hx, st_S0k]
    exact ⟨fun h => by omega, fun h => by omega⟩
  · rw [st_S0n hy, st_S0k] at h
    unfold tr_S at h; omega
  · rw [st_S0n hy]
    exact Nat.zero_le _
  · rw [st_S0n hy]
    exact ⟨Nat.le_refl _, fun _ => rfl, fun h => absurd st_S0k h⟩
  · rw [st_S0n hz] at h
    cases h
