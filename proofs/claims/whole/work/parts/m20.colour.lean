/-! ===== colours of places of both ===== -/
theorem nc_and {U V : np_A} {k1 k2 : Nat} (hU : nc_ok U k1) (hV : nc_ok V k2) : nc_ok (np_and U V) (k1 * k2) := by
  obtain ⟨c1, A1, a1, a2, a3, a4⟩ := hU
  obtain ⟨c2, A2, b1, b2, b3, b4⟩ := hV
  have hnn : np_n (np_and U V) = np_n U + np_n V + np_n U * np_n V := rfl
  let f : Nat → Nat := fun p => (p - (np_n U + np_n V)) / np_n V
  let s : Nat → Nat := fun p => (p - (np_n U + np_n V)) % np_n V
  have eB : ∀ p q, np_n U + np_n V ≤ p → np_B (np_and U V) p q = if q < np_n U + np_n V then false else np_B U (f p) (f q) && np_B V (s p) (s q) := fun p q hp => if_neg (by omega)
  have eL : ∀ p, np_n U + np_n V ≤ p → np_L (np_and U V) p = (np_L U (f p) && np_L V (s p)) := fun p hp => if_neg (by omega)
  have hs : ∀ q, q < np_n (np_and U V) → np_n U + np_n V ≤ q → f q < np_n U ∧ s q < np_n V := fun q h1 h2 => by
    rw [hnn] at h1
    have h3 : q - (np_n U + np_n V) < np_n U * np_n V := by omega
    have hv : 0 < np_n V := by
      rcases Nat.eq_zero_or_pos (np_n V) with z | z
      · rw [z, Nat.mul_zero] at h3
        omega
      · exact z
    exact ⟨Nat.div_lt_of_lt_mul (by rw [Nat.mul_comm]; exact h3), Nat.mod_lt _ hv⟩
  refine ⟨fun p => c1 (f p) * k2 + c2 (s p), fun p => np_n U + np_n V ≤ p ∧ p < np_n (np_and U V) ∧ A1 (f p) ∧ A2 (s p), ?_, ?_, ?_, ?_⟩
  · rintro p ⟨p1, p2, p3, p4⟩
    refine ⟨p2, ?_⟩
    have h1 := (a1 _ p3).2
    have h2 := (b1 _ p4).2
    show c1 (f p) * k2 + c2 (s p) < k1 * k2
    have : (c1 (f p) + 1) * k2 ≤ k1 * k2 := Nat.mul_le_mul_right _ h1
    rw [Nat.add_mul, Nat.one_mul] at this
    omega
  · intro p hp hf
    have hf : (if p < np_n U + np_n V then false else np_F U (f p) && np_F V (s p)) = true := hf
    by_cases c : p < np_n U + np_n V
    · rw [if_pos c] at hf
      cases hf
    · rw [if_neg c] at hf
      obtain ⟨g1, g2⟩ := nt_and_b.mp hf
      obtain ⟨h1, h2⟩ := hs p hp (by omega)
      exact ⟨by omega, hp, a2 _ h1 g1, b2 _ h2 g2⟩
  · rintro p q ⟨p1, p2, p3, p4⟩ hq hb
    rw [eB p q p1] at hb
    by_cases c : q < np_n U + np_n V
    · rw [if_pos c] at hb
      cases hb
    · rw [if_neg c] at hb
      obtain ⟨g1, g2⟩ := nt_and_b.mp hb
      obtain ⟨h1, h2⟩ := hs q hq (by omega)
      exact ⟨by omega, hq, a3 _ _ p3 h1 g1, b3 _ _ p4 h2 g2⟩
  · rintro p q ⟨p1, p2, p3, p4⟩ ⟨q1, q2, q3, q4⟩ e
    have e : c1 (f p) * k2 + c2 (s p) = c1 (f q) * k2 + c2 (s q) := e
    have hc1 := (b1 _ p4).2
    have hc2 := (b1 _ q4).2
    have ed : c1 (f p) = c1 (f q) := by
      have x1 : (c1 (f p) * k2 + c2 (s p)) / k2 = c1 (f p) := by
        rw [Nat.add_comm, Nat.add_mul_div_right _ _ (by omega), Nat.div_eq_of_lt hc1, Nat.zero_add]
      have x2 : (c1 (f q) * k2 + c2 (s q)) / k2 = c1 (f q) := by
        rw [Nat.add_comm, Nat.add_mul_div_right _ _ (by omega), Nat.div_eq_of_lt hc2, Nat.zero_add]
      rw [← x1, ← x2, e]
    rw [ed] at e
    obtain ⟨e1, e2⟩ := a4 _ _ p3 q3 ed
    obtain ⟨e3, e4⟩ := b4 _ _ p4 q4 (by omega)
    refine ⟨by rw [eL p p1, eL q q1, e1, e3], fun r hr => ?_⟩
    rw [eB p r p1, eB q r q1]
    by_cases c : r < np_n U + np_n V
    · rw [if_pos c, if_pos c]
    · rw [if_neg c, if_neg c]
      obtain ⟨h1, h2⟩ := hs r hr (by omega)
      rw [e2 _ h1, e4 _ h2]
theorem nc_le {U : np_A} {k l : Nat} (h : nc_ok U k) (hl : k ≤ l) : nc_ok U l := by
  obtain ⟨c, Al, a1, a2⟩ := h
  exact ⟨c, Al, fun p hp => ⟨(a1 p hp).1, Nat.lt_of_lt_of_le (a1 p hp).2 hl⟩, a2⟩
