/-! ===== the tokens of a property text: which there are ===== -/
/-- a token as the class's scan makes it -/
def pr_vt (x : wt_t) : Prop := x.2.1 ≤ 400 ∧ (∃ i, i < 32 ∧ ¬ i = 2 ∧ x.1 = Int32.ofNat i) ∧ (x.1 = 3 → ∃ v, v < 6 ∧ x.2.2.1 = Int32.ofNat v) ∧ (pr_ct x → ∃ a b, a < 10 ∧ b < 10 ∧ x.2.2.1 = Int32.ofNat a ∧ x.2.2.2.1 = Int32.ofNat b)
theorem dig_val {t : Nat → Int32} {i : Nat} (h : wt_dig t i = true) : ∃ a, a < 10 ∧ t i - (Int8.ofInt 48).toInt32 = Int32.ofNat a := by
  have h := of_decide_eq_true h
  refine ⟨((t i).toInt - 48).toNat, by omega, wi_eq.mpr ?_⟩
  rw [wi_sub, show ((Int8.ofInt 48).toInt32).toInt = 48 from rfl, wr_id (by omega) (by omega), wi_on (by omega)]
  omega
theorem pr_vt_t {k : Int32} {p i : Nat} (hp : p ≤ 400) (hi : i < 32) (h2 : ¬ i = 2) (hk : k = Int32.ofNat i) (h3 : ¬ k = 3) (hc : ¬ pr_ct (k, p, Int32.ofInt 0, Int32.ofInt 0, 0)) : pr_vt (k, p, Int32.ofInt 0, Int32.ofInt 0, 0) := ⟨hp, ⟨i, hi, h2, hk⟩, fun z => (h3 z).elim, fun z => (hc z).elim⟩
theorem pr_vt_b {p : Nat} (hp : p ≤ 400) : pr_vt (Int32.ofInt 1, p, Int32.ofInt 0, Int32.ofInt 0, 0) := pr_vt_t (i := 1) hp (by decide) (by decide) rfl (by decide) (by unfold pr_ct; dsimp only; decide)
theorem pr_vt_c {t : Nat → Int32} {n p a i : Nat} {k : Int32} {x : wt_t} (hp : p ≤ 400) (hi : i < 32) (h2 : ¬ i = 2) (hk : k = Int32.ofNat i) (h3 : ¬ k = 3) (e : (pr_cnt t n k p a).1 = some x) : pr_vt x := by
  unfold pr_cnt at e
  split at e
  · rename_i hh
    cases e
    obtain ⟨v, v1, v2⟩ := dig_val hh.1
    exact ⟨hp, ⟨i, hi, h2, hk⟩, fun z => (h3 z).elim, fun _ => ⟨v, v, v1, v1, v2, v2⟩⟩
  · cases e
    exact pr_vt_b hp
theorem pr_wk_v (t : Nat → Int32) (p z : Nat) : pr_wk t p z = Int32.ofInt 1 ∨ ∃ i, 26 ≤ i ∧ i < 32 ∧ pr_wk t p z = Int32.ofNat i := by
  unfold pr_wk
  split
  · exact Or.inr ⟨26, by decide, by decide, rfl⟩
  split
  · exact Or.inr ⟨27, by decide, by decide, rfl⟩
  split
  · exact Or.inr ⟨28, by decide, by decide, rfl⟩
  split
  · exact Or.inr ⟨29, by decide, by decide, rfl⟩
  split
  · exact Or.inr ⟨30, by decide, by decide, rfl⟩
  split
  · exact Or.inr ⟨31, by decide, by decide, rfl⟩
  · exact Or.inl rfl
theorem pr_26 : ∀ i : Fin 32, 26 ≤ i.1 → ¬ Int32.ofNat i.1 = 3 ∧ ¬ (Int32.ofNat i.1 = 22 ∨ Int32.ofNat i.1 = 23 ∨ Int32.ofNat i.1 = 24 ∨ Int32.ofNat i.1 = 25) := by decide
theorem pr_st_vt {t : Nat → Int32} {n p : Nat} {x : wt_t} (hp : p ≤ 400) (e : (pr_st t n p).1 = some x) : pr_vt x := by
  have hb : (pr_b n p).1 = some x → pr_vt x := fun e => by cases e; exact pr_vt_b hp
  have ht : ∀ (k : Int32) (z i : Nat), i < 32 → ¬ i = 2 → k = Int32.ofNat i → ¬ k = 3 → ¬ (k = 22 ∨ k = 23 ∨ k = 24 ∨ k = 25) → (pr_t k p z).1 = some x → pr_vt x := fun k z i h1 h2 h3 h4 h5 e => by
    cases e
    exact pr_vt_t hp h1 h2 h3 h4 h5
  unfold pr_st at e
  split at e
  · cases e
  split at e
  · split at e
    · exact ht _ _ 12 (by decide) (by decide) rfl (by decide) (by decide) e
    · exact ht _ _ 7 (by decide) (by decide) rfl (by decide) (by decide) e
  split at e
  · split at e
    · exact ht _ _ 17 (by decide) (by decide) rfl (by decide) (by decide) e
    · exact hb e
  split at e
  · unfold pr_brk at e
    split at e
    · exact ht _ _ 20 (by decide) (by decide) rfl (by decide) (by decide) e
    split at e
    · exact ht _ _ 21 (by decide) (by decide) rfl (by decide) (by decide) e
    split at e
    · split at e
      · unfold pr_rng at e
        split at e
        · rename_i hh
          cases e
          obtain ⟨v, v1, v2⟩ := dig_val hh.1
          obtain ⟨u, u1, u2⟩ := dig_val hh.2.1
          exact ⟨hp, ⟨22, by decide, by decide, rfl⟩, fun z => absurd (show (Int8.ofInt 22).toInt32 = 3 from z) (by decide), fun _ => ⟨v, u, v1, u1, v2, u2⟩⟩
        · exact hb e
      · exact pr_vt_c (i := 22) hp (by decide) (by decide) rfl (by decide) e
    split at e
    · exact pr_vt_c (i := 23) hp (by decide) (by decide) rfl (by decide) e
    split at e
    · exact pr_vt_c (i := 24) hp (by decide) (by decide) rfl (by decide) e
    · exact pr_vt_c (i := 25) hp (by decide) (by decide) rfl (by decide) e
  split at e
  · unfold pr_bar at e
    split at e
    · exact ht _ _ 18 (by decide) (by decide) rfl (by decide) (by decide) e
    split at e
    · exact ht _ _ 19 (by decide) (by decide) rfl (by decide) (by decide) e
    split at e
    · exact ht _ _ 11 (by decide) (by decide) rfl (by decide) (by decide) e
    · exact ht _ _ 8 (by decide) (by decide) rfl (by decide) (by decide) e
  split at e
  · rename_i k hk
    unfold pr_k at hk
    repeat' split at hk
    all_goals cases hk
    · exact ht _ _ 6 (by decide) (by decide) rfl (by decide) (by decide) e
    · exact ht _ _ 15 (by decide) (by decide) rfl (by decide) (by decide) e
    · exact ht _ _ 16 (by decide) (by decide) rfl (by decide) (by decide) e
    · exact ht _ _ 4 (by decide) (by decide) rfl (by decide) (by decide) e
    · exact ht _ _ 5 (by decide) (by decide) rfl (by decide) (by decide) e
    · exact ht _ _ 10 (by decide) (by decide) rfl (by decide) (by decide) e
    · exact ht _ _ 9 (by decide) (by decide) rfl (by decide) (by decide) e
    · exact ht _ _ 13 (by decide) (by decide) rfl (by decide) (by decide) e
    · exact ht _ _ 14 (by decide) (by decide) rfl (by decide) (by decide) e
  split at e
  · rename_i hs
    have hs2 := of_decide_eq_true hs
    unfold pr_word at e
    split at e
    · rename_i hh
      cases e
      refine ⟨hp, ⟨3, by decide, by decide, rfl⟩, fun _ => ?_, fun z => absurd (show Int32.ofInt 3 = 22 ∨ Int32.ofInt 3 = 23 ∨ Int32.ofInt 3 = 24 ∨ Int32.ofInt 3 = 25 from z) (by decide)⟩
      have e97 : (t p - (Int8.ofInt 97).toInt32).toInt = (t p).toInt - 97 := by
        rw [wi_sub, show ((Int8.ofInt 97).toInt32).toInt = 97 from rfl, wr_id (by omega) (by omega)]
      have h6 := hh.2
      rw [wi_le, e97, show ((Int8.ofInt 6).toInt32).toInt = 6 from rfl] at h6
      refine ⟨((t p).toInt - 97).toNat, by omega, wi_eq.mpr ?_⟩
      rw [wi_on (by omega)]
      show (t p - (Int8.ofInt 97).toInt32).toInt = _
      rw [e97]
      omega
    split at e
    · exact hb e
    · rename_i h1 h2
      rcases pr_wk_v t p (wt_wl t p 400) with h | ⟨i, i1, i2, i3⟩
      · exact (h2 h).elim
      · have := pr_26 ⟨i, i2⟩ i1
        dsimp only at this
        rw [i3] at e
        exact ht _ _ i i2 (by omega) rfl this.1 this.2 e
  · exact hb e
theorem pr_lex_vt {t : Nat → Int32} {n : Nat} (hn : n ≤ 400) : ∀ f p x, x ∈ wt_lex (pr_st t n) n f p → pr_vt x
  | 0, p, x, h => by
    rw [show wt_lex (pr_st t n) n 0 p = [(Int32.ofInt 0, n, Int32.ofInt 0, Int32.ofInt 0, 0)] from rfl, List.mem_singleton] at h
    rw [h]
    exact pr_vt_t (i := 0) hn (by decide) (by decide) rfl (by decide) (by unfold pr_ct; dsimp only; decide)
  | f + 1, p, x, h => by
    unfold wt_lex at h
    by_cases hp : p < n
    · rw [if_pos hp] at h
      have hv := fun x => pr_st_vt (t := t) (n := n) (p := p) (x := x) (by omega)
      generalize pr_st t n p = o at h hv
      obtain ⟨o, p2⟩ := o
      cases o with
      | none => exact pr_lex_vt hn f p2 x h
      | some y =>
        rcases List.mem_cons.mp h with h | h
        · rw [h]
          exact hv y rfl
        · exact pr_lex_vt hn f p2 x h
    · rw [if_neg hp, List.mem_singleton] at h
      rw [h]
      exact pr_vt_t (i := 0) hn (by decide) (by decide) rfl (by decide) (by unfold pr_ct; dsimp only; decide)
/-- a kind of the class and its number of the reference -/
def pr_kc (K C : Int32) : Prop := (∀ i : Fin 32, ¬ i.1 = 2 → ¬ i.1 = 3 → (pr_mc (Int32.ofNat i.1, 0, 0, 0, 0) = C ↔ Int32.ofNat i.1 = K)) ∧ ∀ v : Fin 6, Int32.ofNat v.1 = C ↔ K = 3
theorem pr_mc_3 {x : wt_t} (h : x.1 = 3) : pr_mc x = x.2.2.1 := if_pos h
theorem pr_mc_n {x : wt_t} (h : ¬ x.1 = 3) : pr_mc x = pr_mc (x.1, 0, 0, 0, 0) := by
  unfold pr_mc
  rw [if_neg h, if_neg h]
theorem pr_n3 : ∀ i : Fin 32, ¬ i.1 = 3 → ¬ Int32.ofNat i.1 = 3 := by decide
theorem pr_kc_ok {K C : Int32} {x : wt_t} (h : pr_kc K C) (hx : pr_vt x) : pr_mc x = C ↔ x.1 = K := by
  obtain ⟨_, ⟨i, i1, i2, i3⟩, h3, _⟩ := hx
  by_cases c : x.1 = 3
  · obtain ⟨v, v1, v2⟩ := h3 c
    rw [pr_mc_3 c, v2]
    have := h.2 ⟨v, v1⟩
    dsimp only at this
    rw [this, c]
    exact ⟨fun z => z.symm, fun z => z.symm⟩
  · rw [pr_mc_n c, i3]
    have hi3 : ¬ i = 3 := fun z => c (by rw [i3, z]; rfl)
    exact h.1 ⟨i, i1⟩ i2 hi3
theorem pr_kc_0 : pr_kc (Int32.ofInt 0) ((Int8.ofInt 50).toInt32) := by unfold pr_kc; decide +kernel
theorem pr_kc_4 : pr_kc (Int32.ofInt 4) ((Int8.ofInt 6).toInt32) := by unfold pr_kc; decide +kernel
theorem pr_kc_5 : pr_kc (Int32.ofInt 5) ((Int8.ofInt 7).toInt32) := by unfold pr_kc; decide +kernel
theorem pr_kc_6 : pr_kc ((Int8.ofInt 6).toInt32) ((Int8.ofInt 20).toInt32) := by unfold pr_kc; decide +kernel
theorem pr_kc_7 : pr_kc ((Int8.ofInt 7).toInt32) ((Int8.ofInt 21).toInt32) := by unfold pr_kc; decide +kernel
theorem pr_kc_8 : pr_kc ((Int8.ofInt 8).toInt32) ((Int8.ofInt 22).toInt32) := by unfold pr_kc; decide +kernel
theorem pr_kc_9 : pr_kc ((Int8.ofInt 9).toInt32) ((Int8.ofInt 23).toInt32) := by unfold pr_kc; decide +kernel
theorem pr_kc_10 : pr_kc ((Int8.ofInt 10).toInt32) ((Int8.ofInt 24).toInt32) := by unfold pr_kc; decide +kernel
theorem pr_kc_11 : pr_kc ((Int8.ofInt 11).toInt32) ((Int8.ofInt 25).toInt32) := by unfold pr_kc; decide +kernel
theorem pr_kc_12 : pr_kc ((Int8.ofInt 12).toInt32) ((Int8.ofInt 26).toInt32) := by unfold pr_kc; decide +kernel
theorem pr_kc_13 : pr_kc ((Int8.ofInt 13).toInt32) ((Int8.ofInt 27).toInt32) := by unfold pr_kc; decide +kernel
theorem pr_kc_14 : pr_kc ((Int8.ofInt 14).toInt32) ((Int8.ofInt 28).toInt32) := by unfold pr_kc; decide +kernel
theorem pr_kc_15 : pr_kc ((Int8.ofInt 15).toInt32) ((Int8.ofInt 29).toInt32) := by unfold pr_kc; decide +kernel
theorem pr_kc_16 : pr_kc ((Int8.ofInt 16).toInt32) ((Int8.ofInt 30).toInt32) := by unfold pr_kc; decide +kernel
theorem pr_kc_17 : pr_kc ((Int8.ofInt 17).toInt32) ((Int8.ofInt 31).toInt32) := by unfold pr_kc; decide +kernel
theorem pr_kc_18 : pr_kc ((Int8.ofInt 18).toInt32) ((Int8.ofInt 32).toInt32) := by unfold pr_kc; decide +kernel
theorem pr_kc_19 : pr_kc ((Int8.ofInt 19).toInt32) ((Int8.ofInt 33).toInt32) := by unfold pr_kc; decide +kernel
theorem pr_kc_20 : pr_kc ((Int8.ofInt 20).toInt32) ((Int8.ofInt 40).toInt32) := by unfold pr_kc; decide +kernel
theorem pr_kc_21 : pr_kc ((Int8.ofInt 21).toInt32) ((Int8.ofInt 41).toInt32) := by unfold pr_kc; decide +kernel
theorem pr_kc_22 : pr_kc ((Int8.ofInt 22).toInt32) ((Int8.ofInt 42).toInt32) := by unfold pr_kc; decide +kernel
theorem pr_kc_23 : pr_kc ((Int8.ofInt 23).toInt32) ((Int8.ofInt 43).toInt32) := by unfold pr_kc; decide +kernel
theorem pr_kc_24 : pr_kc ((Int8.ofInt 24).toInt32) ((Int8.ofInt 44).toInt32) := by unfold pr_kc; decide +kernel
theorem pr_kc_25 : pr_kc ((Int8.ofInt 25).toInt32) ((Int8.ofInt 45).toInt32) := by unfold pr_kc; decide +kernel
theorem pr_kc_26 : pr_kc ((Int8.ofInt 26).toInt32) ((Int8.ofInt 10).toInt32) := by unfold pr_kc; decide +kernel
theorem pr_kc_27 : pr_kc ((Int8.ofInt 27).toInt32) ((Int8.ofInt 11).toInt32) := by unfold pr_kc; decide +kernel
theorem pr_kc_28 : pr_kc ((Int8.ofInt 28).toInt32) ((Int8.ofInt 12).toInt32) := by unfold pr_kc; decide +kernel
theorem pr_kc_29 : pr_kc ((Int8.ofInt 29).toInt32) ((Int8.ofInt 13).toInt32) := by unfold pr_kc; decide +kernel
theorem pr_kc_30 : pr_kc ((Int8.ofInt 30).toInt32) ((Int8.ofInt 14).toInt32) := by unfold pr_kc; decide +kernel
theorem pr_kc_31 : pr_kc ((Int8.ofInt 31).toInt32) ((Int8.ofInt 15).toInt32) := by unfold pr_kc; decide +kernel
/-- a condition begins: a signal, 0, 1 or not -/
def pr_bc (k : Int32) : Prop := k = 3 ∨ k = 4 ∨ k = 5 ∨ k = 6
theorem pr_le7 : (∀ i : Fin 32, ¬ i.1 = 2 → ¬ i.1 = 3 → (pr_mc (Int32.ofNat i.1, 0, 0, 0, 0) ≤ (Int8.ofInt 7).toInt32 ↔ Int32.ofNat i.1 = 4 ∨ Int32.ofNat i.1 = 5)) ∧ ∀ v : Fin 6, Int32.ofNat v.1 ≤ (Int8.ofInt 7).toInt32 := by decide +kernel
theorem pr_mc_le7 {x : wt_t} (hx : pr_vt x) : pr_mc x ≤ (Int8.ofInt 7).toInt32 ↔ x.1 = 3 ∨ x.1 = 4 ∨ x.1 = 5 := by
  obtain ⟨_, ⟨i, i1, i2, i3⟩, h3, _⟩ := hx
  by_cases c : x.1 = 3
  · obtain ⟨v, v1, v2⟩ := h3 c
    rw [pr_mc_3 c, v2]
    exact ⟨fun _ => Or.inl c, fun _ => pr_le7.2 ⟨v, v1⟩⟩
  · rw [pr_mc_n c, i3]
    have hi3 : ¬ i = 3 := fun z => c (by rw [i3, z]; rfl)
    have := pr_le7.1 ⟨i, i1⟩ i2 hi3
    dsimp only at this
    rw [this]
    exact ⟨Or.inr, fun z => z.elim (fun z => (c (by rw [i3]; exact z)).elim) id⟩
