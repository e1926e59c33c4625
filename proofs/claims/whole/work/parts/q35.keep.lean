/-! ===== the start: the picture ===== -/
theorem st_i {x : Int32} {v : Nat} (h : st_n x v = true) : x = Int32.ofNat v := by
  have e : x.toUInt32.toNat = v := Nat.eq_of_beq_eq_true h
  rw [← zk_i_eq x, e]
  rfl
theorem st_j {x : Int64} {v : Nat} (h : st_l x v = true) : x = zk_l v := by
  have e : x.toUInt64.toNat = v := Nat.eq_of_beq_eq_true h
  rw [← zk_l_eq x, e]
theorem st_rf {x : Option Nat} {v : Nat} (h : st_r x v = true) : x = some v := by
  unfold st_r at h
  split at h
  · rw [Nat.eq_of_beq_eq_true h]
  · cases h
theorem st_ty {x : Option (Nat ⊕ (Nat × Nat))} {v : Nat ⊕ (Nat × Nat)} (h : st_y x v = true) : x = some v := by
  unfold st_y at h
  split at h
  · rw [Nat.eq_of_beq_eq_true h]
  · rw [Bool.and_eq_true] at h
    rw [Nat.eq_of_beq_eq_true h.1, Nat.eq_of_beq_eq_true h.2]
  · cases h
theorem st_tk {x : Option (Nat ⊕ (Nat × Nat))} {v : Nat} (h : st_yk x v = true) : ∃ k, x = some (.inr (k + 4, v)) := by
  unfold st_yk at h
  split at h
  · rename_i k n
    rw [Bool.and_eq_true] at h
    have := Nat.le_of_ble_eq_true h.1
    exact ⟨k - 4, by rw [Nat.eq_of_beq_eq_true h.2, show k - 4 + 4 = k by omega]⟩
  · cases h
theorem st_ff {p : Nat → Bool} : ∀ {n : Nat}, st_f n p = true → ∀ k, k < n → p k = true
  | 0, _, k, hk => absurd hk (Nat.not_lt_zero _)
  | n + 1, h, k, hk => by
    have h : (p n && st_f n p) = true := h
    rw [Bool.and_eq_true] at h
    rcases Nat.lt_succ_iff_lt_or_eq.mp hk with w | w
    · exact st_ff h.2 k w
    · rw [w]; exact h.1
abbrev sx_T (p : Nat → Option pz_C) : wv_T := fun r => cx_T (p r)
abbrev sx_I (p : Nat → Option pz_C) : rl_I := fun r k => cx_I (p r) k
abbrev sx_L (p : Nat → Option pz_C) : rl_L := fun r k => cx_L (p r) k
abbrev sx_R (p : Nat → Option pz_C) : rl_R := fun r k => cx_R (p r) k
abbrev st_ag (p q : Nat → Option pz_C) : Prop := ∀ r, r < 536 → p r = q r
section SX
variable {p q : Nat → Option pz_C}
theorem xT (hp : st_ag p q) {r : Nat} {v : Nat ⊕ (Nat × Nat)} (h : st_y (cx_T (q r)) v = true) (hr : r < 536) : sx_T p r = some v := by
  show cx_T (p r) = _
  rw [hp r hr]
  exact st_ty h
theorem xK (hp : st_ag p q) {r v : Nat} (h : st_yk (cx_T (q r)) v = true) (hr : r < 536) : ∃ k, sx_T p r = some (.inr (k + 4, v)) := by
  show ∃ k, cx_T (p r) = _
  rw [hp r hr]
  exact st_tk h
theorem xI (hp : st_ag p q) {r k v : Nat} (h : st_n (cx_I (q r) k) v = true) (hr : r < 536) : sx_I p r k = Int32.ofNat v := by
  show cx_I (p r) k = _
  rw [hp r hr]
  exact st_i h
theorem xL (hp : st_ag p q) {r k v : Nat} (h : st_l (cx_L (q r) k) v = true) (hr : r < 536) : sx_L p r k = zk_l v := by
  show cx_L (p r) k = _
  rw [hp r hr]
  exact st_j h
theorem xR (hp : st_ag p q) {r k v : Nat} (h : st_r (cx_R (q r) k) v = true) (hr : r < 536) : sx_R p r k = some v := by
  show cx_R (p r) k = _
  rw [hp r hr]
  exact st_rf h
theorem sx_E (hp : st_ag p q) {E : Nat} (h : st_pE q E = true) (hE : E + 4 < 460) : kc_D (sx_T p) (sx_R p) E ∧ sx_R p E 4 = some 1099511627778 ∧ sx_I p E 8 = 0 := by
  unfold st_pE at h
  simp only [Bool.and_eq_true] at h
  obtain ⟨⟨⟨⟨⟨h1, h2⟩, h3⟩, h4⟩, h5⟩, h6⟩ := h
  have r := fun k (hk : k < 4) => xR hp (st_ff h2 k hk) (by omega)
  have t := fun k (hk : k < 3) => xT hp (st_ff h4 k hk) (by omega)
  exact ⟨⟨xT hp h1 (by omega), r 0 (by omega), r 1 (by omega), r 2 (by omega), r 3 (by omega), xT hp h3 (by omega), t 0 (by omega), t 1 (by omega), t 2 (by omega), hE⟩, xR hp h5 (by omega), xI hp h6 (by omega)⟩
theorem sx_C (hp : st_ag p q) {C : Nat} (h : st_pC q C = true) (hC : C + 96 < 460) : pp_D (sx_T p) (sx_R p) C ∧ (∀ k, k < 67 → sx_R p (C + 9 + k) 0 = some 1099511627777) ∧ (∀ k, k < 4 → kc_D (sx_T p) (sx_R p) (C + 76 + 5 * k) ∧ sx_R p (C + 76 + 5 * k) 4 = some 1099511627778 ∧ sx_I p (C + 76 + 5 * k) 8 = 0) ∧ sx_I p C 8 = 1 ∧ sx_I p C 9 = 0 ∧ sx_I p C 10 = 2 ∧ sx_I p (C + 1) 0 = 0 ∧ sx_I p (C + 4) 0 = 0 ∧ sx_I p (C + 5) 0 = 0 ∧ sx_L p (C + 2) 0 = zk_l 18446744073709551615 ∧ sx_L p (C + 3) 0 = zk_l 0 := by
  unfold st_pC at h
  simp only [Bool.and_eq_true] at h
  obtain ⟨⟨⟨⟨⟨⟨⟨⟨⟨⟨⟨⟨⟨⟨⟨⟨⟨h1, h2⟩, h3⟩, h4⟩, h5⟩, h6⟩, h7⟩, h8⟩, h9⟩, h10⟩, h11⟩, h12⟩, h13⟩, h14⟩, h15⟩, h16⟩, h17⟩, h18⟩ := h
  have r := fun k (hk : k < 8) => xR hp (st_ff h2 k hk) (by omega)
  have t := fun k (hk : k < 3) => xT hp (st_ff h6 k hk) (by omega)
  have s := fun k (hk : k < 67) => st_ff h9 k hk
  have e := fun k (hk : k < 4) => st_ff h10 k hk
  simp only [Bool.and_eq_true] at s e
  exact ⟨⟨xT hp h1 (by omega), ⟨r 0 (by omega), r 1 (by omega), r 2 (by omega), r 3 (by omega), r 4 (by omega), r 5 (by omega), r 6 (by omega), r 7 (by omega)⟩, ⟨xT hp h3 (by omega), xT hp h4 (by omega), xT hp h5 (by omega), t 0 (by omega), t 1 (by omega), t 2 (by omega)⟩, xK hp h7 (by omega), xK hp h8 (by omega), fun k hk => ⟨xR hp (s k hk).1.1 (by omega), xT hp (s k hk).1.2 (by omega)⟩, fun k hk => ⟨xR hp (e k hk).1 (by omega), (sx_E hp (e k hk).2 (by omega)).1.1⟩⟩, fun k hk => xR hp (s k hk).2 (by omega), fun k hk => sx_E hp (e k hk).2 (by omega), xI hp h11 (by omega), xI hp h12 (by omega), xI hp h13 (by omega), xI hp h14 (by omega), xI hp h15 (by omega), xI hp h16 (by omega), xL hp h17 (by omega), xL hp h18 (by omega)⟩
theorem sx_D (hp : st_ag p q) {C : Nat} (h : st_pD q C = true) (hC : C + 8 < 460) : wd_D (sx_T p) (sx_R p) C ∧ sx_T p (C + 7) = some (.inl 13) ∧ sx_R p C 6 = some (C + 7) ∧ sx_I p C 7 = 0 ∧ sx_I p C 8 = 1 ∧ sx_I p C 9 = 0 ∧ sx_I p C 10 = 0 ∧ (∀ k, k < 6 → sx_I p (C + 5) k = 2) ∧ sx_I p (C + 6) 0 = 0 ∧ bu_D (sx_T p) (sx_I p) (sx_R p) (C + 7) (C + 8) 16 [] := by
  unfold st_pD at h
  simp only [Bool.and_eq_true] at h
  obtain ⟨⟨⟨⟨⟨⟨⟨⟨⟨⟨⟨⟨⟨⟨⟨⟨⟨⟨⟨h1, h2⟩, h3⟩, h4⟩, h5⟩, h6⟩, h7⟩, h8⟩, h9⟩, h10⟩, h11⟩, h12⟩, h13⟩, h14⟩, h15⟩, h16⟩, h17⟩, h18⟩, h19⟩, h20⟩ := h
  have r := fun k (hk : k < 7) => xR hp (st_ff h2 k hk) (by omega)
  exact ⟨⟨xT hp h1 (by omega), fun k hk => r k (by omega), xT hp h3 (by omega), xT hp h4 (by omega), xT hp h5 (by omega), xT hp h6 (by omega), xT hp h7 (by omega), xT hp h8 (by omega)⟩, xT hp h9 (by omega), r 6 (by omega), xI hp h10 (by omega), xI hp h11 (by omega), xI hp h12 (by omega), xI hp h13 (by omega), fun k hk => xI hp (st_ff h14 k hk) (by omega), xI hp h15 (by omega), ⟨xT hp h9 (by omega), xR hp h16 (by omega), xI hp h17 (by omega), xT hp h19 (by omega), by omega, by omega, by omega, by omega⟩, xI hp h18 (by omega), by simp, fun k hk => ⟨0, by omega, xI hp (st_ff h20 k hk) (by omega)⟩, fun k c hk => by cases hk⟩
theorem sx_H (hp : st_ag p q) {H : Nat} (h : st_pH q H = true) (hH : H + 7 < 460) : wh_H (sx_T p) (sx_R p) H ∧ sx_I p H 8 = 0 := by
  unfold st_pH at h
  simp only [Bool.and_eq_true] at h
  obtain ⟨⟨⟨⟨⟨h1, h2⟩, h3⟩, h4⟩, h5⟩, h6⟩ := h
  have r := fun k (hk : k < 7) => xR hp (st_ff h2 k hk) (by omega)
  have t := fun k (hk : k < 3) => xT hp (st_ff h3 k hk) (by omega)
  have u := fun k (hk : k < 3) => xT hp (st_ff h4 k hk) (by omega)
  exact ⟨⟨xT hp h1 (by omega), r, t 0 (by omega), t 1 (by omega), t 2 (by omega), u 0 (by omega), u 1 (by omega), u 2 (by omega), xT hp h5 (by omega)⟩, xI hp h6 (by omega)⟩
end SX
