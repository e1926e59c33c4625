/-! ===== colours of fused places ===== -/
theorem nc_fuse {U V : np_A} {k1 k2 : Nat} {xs : List (Nat × Nat)} (hU : nc_ok U k1) (hV : nc_ok V k2) (hx : ∀ k, k < xs.length → (np_x xs k).1 < np_n U ∧ (np_x xs k).2 < np_n V ∧ np_F V (np_x xs k).2 = true) : nc_ok (np_fuse U V xs) (k1 + k2) := by
  obtain ⟨c1, A1, a1, a2, a3, a4⟩ := hU
  obtain ⟨c2, A2, b1, b2, b3, b4⟩ := hV
  -- the place of the second that a place stands for
  let f : Nat → Nat := fun p => if p < np_n U + np_n V then p - np_n U else (np_x xs (p - (np_n U + np_n V))).2
  have eB : ∀ p q, np_n U ≤ p → np_B (np_fuse U V xs) p q = if q < np_n U then false else if q < np_n U + np_n V then np_B V (f p) (q - np_n U) else false := fun p q hp => by
    show (if p < np_n U then _ else if q < np_n U then false else if q < np_n U + np_n V then (if p < np_n U + np_n V then np_B V (p - np_n U) (q - np_n U) else np_B V (np_x xs (p - (np_n U + np_n V))).2 (q - np_n U)) else false) = _
    rw [if_neg (by omega)]
    by_cases c : p < np_n U + np_n V
    · rw [if_pos c]
      show _ = if q < np_n U then false else if q < np_n U + np_n V then np_B V (if p < np_n U + np_n V then p - np_n U else (np_x xs (p - (np_n U + np_n V))).2) (q - np_n U) else false
      rw [if_pos c]
    · rw [if_neg c]
      show _ = if q < np_n U then false else if q < np_n U + np_n V then np_B V (if p < np_n U + np_n V then p - np_n U else (np_x xs (p - (np_n U + np_n V))).2) (q - np_n U) else false
      rw [if_neg c]
  have eL : ∀ p, np_n U ≤ p → np_L (np_fuse U V xs) p = np_L V (f p) := fun p hp => by
    show (if p < np_n U then false else if p < np_n U + np_n V then np_L V (p - np_n U) else np_L V (np_x xs (p - (np_n U + np_n V))).2) = np_L V (if p < np_n U + np_n V then p - np_n U else (np_x xs (p - (np_n U + np_n V))).2)
    rw [if_neg (by omega)]
    by_cases c : p < np_n U + np_n V
    · rw [if_pos c, if_pos c]
    · rw [if_neg c, if_neg c]
  have eU : ∀ p q, p < np_n U → np_B (np_fuse U V xs) p q = if q < np_n U then np_B U p q else if q < np_n U + np_n V then false else np_B U p (np_x xs (q - (np_n U + np_n V))).1 := fun p q hp => if_pos hp
  have hnn : np_n (np_fuse U V xs) = np_n U + np_n V + xs.length := rfl
  refine ⟨fun p => if p < np_n U then c1 p else k1 + c2 (f p), fun p => p < np_n U + np_n V + xs.length ∧ ((p < np_n U ∧ A1 p) ∨ (np_n U ≤ p ∧ A2 (f p))), ?_, ?_, ?_, ?_⟩
  · rintro p ⟨h0, ⟨z1, z2⟩ | ⟨z1, z2⟩⟩
    · have := (a1 p z2).2
      show p < np_n (np_fuse U V xs) ∧ (if p < np_n U then c1 p else k1 + c2 (f p)) < k1 + k2
      rw [if_pos z1]
      omega
    · have := b1 _ z2
      show p < np_n (np_fuse U V xs) ∧ (if p < np_n U then c1 p else k1 + c2 (f p)) < k1 + k2
      rw [if_neg (by omega)]
      omega
  · intro p hp hf
    have hf : (if p < np_n U then np_F U p else if p < np_n U + np_n V then false else np_F U (np_x xs (p - (np_n U + np_n V))).1) = true := hf
    rcases Nat.lt_or_ge p (np_n U) with z | z
    · rw [if_pos z] at hf
      exact ⟨by omega, Or.inl ⟨z, a2 p z hf⟩⟩
    · rw [if_neg (by omega)] at hf
      by_cases c : p < np_n U + np_n V
      · rw [if_pos c] at hf
        cases hf
      · have g := hx (p - (np_n U + np_n V)) (by omega)
        refine ⟨by omega, Or.inr ⟨z, ?_⟩⟩
        show A2 (if p < np_n U + np_n V then p - np_n U else (np_x xs (p - (np_n U + np_n V))).2)
        rw [if_neg c]
        exact b2 _ g.2.1 g.2.2
  · rintro p q ⟨h0, ⟨z1, z2⟩ | ⟨z1, z2⟩⟩ hq hb
    · rw [eU p q z1] at hb
      by_cases c : q < np_n U
      · rw [if_pos c] at hb
        exact ⟨by omega, Or.inl ⟨c, a3 p q z2 c hb⟩⟩
      · rw [if_neg c] at hb
        by_cases c2 : q < np_n U + np_n V
        · rw [if_pos c2] at hb
          cases hb
        · have g := hx (q - (np_n U + np_n V)) (by omega)
          refine ⟨by omega, Or.inr ⟨by omega, ?_⟩⟩
          show A2 (if q < np_n U + np_n V then q - np_n U else (np_x xs (q - (np_n U + np_n V))).2)
          rw [if_neg c2]
          exact b2 _ g.2.1 g.2.2
    · rw [eB p q z1] at hb
      by_cases c : q < np_n U
      · rw [if_pos c] at hb
        cases hb
      · rw [if_neg c] at hb
        by_cases c2 : q < np_n U + np_n V
        · rw [if_pos c2] at hb
          refine ⟨by omega, Or.inr ⟨by omega, ?_⟩⟩
          show A2 (if q < np_n U + np_n V then q - np_n U else (np_x xs (q - (np_n U + np_n V))).2)
          rw [if_pos c2]
          exact b3 _ _ z2 (by omega) hb
        · rw [if_neg c2] at hb
          cases hb
  · rintro p q ⟨hp0, ⟨z1, z2⟩ | ⟨z1, z2⟩⟩ ⟨hq0, ⟨y1, y2⟩ | ⟨y1, y2⟩⟩ e
    · have e : (if p < np_n U then c1 p else k1 + c2 (f p)) = (if q < np_n U then c1 q else k1 + c2 (f q)) := e
      rw [if_pos z1, if_pos y1] at e
      obtain ⟨e1, e2⟩ := a4 p q z2 y2 e
      have l1 : np_L (np_fuse U V xs) p = false := if_pos z1
      have l2 : np_L (np_fuse U V xs) q = false := if_pos y1
      refine ⟨by rw [l1, l2], fun r hr => ?_⟩
      rw [eU p r z1, eU q r y1]
      by_cases c : r < np_n U
      · rw [if_pos c, if_pos c]
        exact e2 r c
      · rw [if_neg c, if_neg c]
        by_cases c2 : r < np_n U + np_n V
        · rw [if_pos c2, if_pos c2]
        · rw [if_neg c2, if_neg c2]
          exact e2 _ (hx _ (by omega)).1
    · have e : (if p < np_n U then c1 p else k1 + c2 (f p)) = (if q < np_n U then c1 q else k1 + c2 (f q)) := e
      rw [if_pos z1, if_neg (by omega)] at e
      have := (a1 p z2).2
      omega
    · have e : (if p < np_n U then c1 p else k1 + c2 (f p)) = (if q < np_n U then c1 q else k1 + c2 (f q)) := e
      rw [if_neg (by omega), if_pos y1] at e
      have := (a1 q y2).2
      omega
    · have e : (if p < np_n U then c1 p else k1 + c2 (f p)) = (if q < np_n U then c1 q else k1 + c2 (f q)) := e
      rw [if_neg (by omega), if_neg (by omega)] at e
      obtain ⟨e1, e2⟩ := b4 _ _ z2 y2 (by omega)
      refine ⟨by rw [eL p z1, eL q y1]; exact e1, fun r hr => ?_⟩
      rw [eB p r z1, eB q r y1]
      by_cases c : r < np_n U
      · rw [if_pos c, if_pos c]
      · rw [if_neg c, if_neg c]
        by_cases c2 : r < np_n U + np_n V
        · rw [if_pos c2, if_pos c2]
          exact e2 _ (by omega)
        · rw [if_neg c2, if_neg c2]
