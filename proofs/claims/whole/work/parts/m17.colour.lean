/-! ===== colours of places ===== -/
/-- places fall into k colours: those of a colour lead to the same places and end alike -/
def nc_ok (U : np_A) (k : Nat) : Prop := ∃ (c : Nat → Nat) (Al : Nat → Prop), (∀ p, Al p → p < np_n U ∧ c p < k) ∧ (∀ p, p < np_n U → np_F U p = true → Al p) ∧ (∀ p q, Al p → q < np_n U → np_B U p q = true → Al q) ∧ ∀ p q, Al p → Al q → c p = c q → np_L U p = np_L U q ∧ ∀ r, r < np_n U → np_B U p r = np_B U q r
theorem nc_cond (m : Nat → Bool) : nc_ok (np_cond m) 1 := by
  refine ⟨fun _ => 0, fun p => p = 0, ?_, ?_, ?_, ?_⟩
  · rintro p rfl
    exact ⟨Nat.zero_lt_one, Nat.zero_lt_one⟩
  · intro p _ h
    exact of_decide_eq_true h
  · intro p q _ _ h
    cases h
  · rintro p q rfl rfl _
    exact ⟨rfl, fun _ _ => rfl⟩
theorem nc_star {b : Bool} {U : np_A} {k : Nat} (h : nc_ok U k) : nc_ok (np_star b U) k := by
  obtain ⟨c, Al, h1, h2, h3, h4⟩ := h
  refine ⟨c, Al, h1, h2, ?_, ?_⟩
  · intro p q hp hq hb
    rcases nt_or_b.mp hb with g | g
    · exact h3 p q hp hq g
    · exact h2 q hq (nt_and_b.mp g).2
  · intro p q hp hq e
    obtain ⟨e1, e2⟩ := h4 p q hp hq e
    refine ⟨e1, fun r hr => ?_⟩
    show (np_B U p r || (np_L U p && np_F U r)) = (np_B U q r || (np_L U q && np_F U r))
    rw [e1, e2 r hr]
theorem nc_side {U V O : np_A} {k1 k2 : Nat} {X : Nat → Nat → Bool} (hU : nc_ok U k1) (hV : nc_ok V k2) (hn : np_n O = np_n U + np_n V) (hB : np_B O = np_sB U V X) (hXL : ∀ p q, np_L U p = np_L U q → ∀ r, X p r = X q r) (hXF : ∀ p r, X p r = true → np_F V r = true) (hF1 : ∀ p, p < np_n U → np_F O p = true → np_F U p = true) (hF2 : ∀ p, np_n U ≤ p → np_F O p = true → np_F V (p - np_n U) = true) (hL1 : ∀ p q, p < np_n U → q < np_n U → np_L U p = np_L U q → np_L O p = np_L O q) (hL2 : ∀ p q, np_n U ≤ p → np_n U ≤ q → np_L V (p - np_n U) = np_L V (q - np_n U) → np_L O p = np_L O q) : nc_ok O (k1 + k2) := by
  obtain ⟨c1, A1, a1, a2, a3, a4⟩ := hU
  obtain ⟨c2, A2, b1, b2, b3, b4⟩ := hV
  refine ⟨fun p => if p < np_n U then c1 p else k1 + c2 (p - np_n U), fun p => (p < np_n U ∧ A1 p) ∨ (np_n U ≤ p ∧ A2 (p - np_n U)), ?_, ?_, ?_, ?_⟩
  · rintro p (⟨z1, z2⟩ | ⟨z1, z2⟩)
    · have := (a1 p z2).2
      show p < np_n O ∧ (if p < np_n U then c1 p else k1 + c2 (p - np_n U)) < k1 + k2
      rw [if_pos z1]
      omega
    · have := b1 _ z2
      show p < np_n O ∧ (if p < np_n U then c1 p else k1 + c2 (p - np_n U)) < k1 + k2
      rw [if_neg (by omega)]
      omega
  · intro p hp hf
    rcases Nat.lt_or_ge p (np_n U) with z | z
    · exact Or.inl ⟨z, a2 p z (hF1 p z hf)⟩
    · exact Or.inr ⟨z, b2 _ (by omega) (hF2 p z hf)⟩
  · rintro p q (⟨z1, z2⟩ | ⟨z1, z2⟩) hq hb
    · rw [hB] at hb
      rcases (np_sB_1 z1).mp hb with ⟨y1, y2⟩ | ⟨y1, y2⟩
      · exact Or.inl ⟨y1, a3 p q z2 y1 y2⟩
      · exact Or.inr ⟨y1, b2 _ (by omega) (hXF _ _ y2)⟩
    · rw [hB] at hb
      obtain ⟨y1, y2⟩ := (np_sB_2 z1).mp hb
      exact Or.inr ⟨y1, b3 _ _ z2 (by omega) y2⟩
  · rintro p q (⟨z1, z2⟩ | ⟨z1, z2⟩) (⟨y1, y2⟩ | ⟨y1, y2⟩) e
    · have e : (if p < np_n U then c1 p else k1 + c2 (p - np_n U)) = (if q < np_n U then c1 q else k1 + c2 (q - np_n U)) := e
      rw [if_pos z1, if_pos y1] at e
      obtain ⟨e1, e2⟩ := a4 p q z2 y2 e
      refine ⟨hL1 p q z1 y1 e1, fun r hr => ?_⟩
      rw [hB]
      unfold np_sB
      rw [if_pos z1, if_pos y1]
      by_cases c : r < np_n U
      · rw [if_pos c, if_pos c]
        exact e2 r c
      · rw [if_neg c, if_neg c]
        exact hXL p q e1 _
    · have e : (if p < np_n U then c1 p else k1 + c2 (p - np_n U)) = (if q < np_n U then c1 q else k1 + c2 (q - np_n U)) := e
      rw [if_pos z1, if_neg (by omega)] at e
      have := (a1 p z2).2
      omega
    · have e : (if p < np_n U then c1 p else k1 + c2 (p - np_n U)) = (if q < np_n U then c1 q else k1 + c2 (q - np_n U)) := e
      rw [if_neg (by omega), if_pos y1] at e
      have := (a1 q y2).2
      omega
    · have e : (if p < np_n U then c1 p else k1 + c2 (p - np_n U)) = (if q < np_n U then c1 q else k1 + c2 (q - np_n U)) := e
      rw [if_neg (by omega), if_neg (by omega)] at e
      obtain ⟨e1, e2⟩ := b4 _ _ z2 y2 (by omega)
      refine ⟨hL2 p q z1 y1 e1, fun r hr => ?_⟩
      rw [hB]
      unfold np_sB
      rw [if_neg (show ¬ p < np_n U by omega), if_neg (show ¬ q < np_n U by omega)]
      by_cases c : r < np_n U
      · rw [if_pos c, if_pos c]
      · rw [if_neg c, if_neg c]
        exact e2 _ (by omega)
theorem nc_then {U V : np_A} {k1 k2 : Nat} (hU : nc_ok U k1) (hV : nc_ok V k2) : nc_ok (np_then U V) (k1 + k2) := by
  refine nc_side (O := np_then U V) (X := fun p q => np_L U p && np_F V q) hU hV rfl rfl (fun p q e r => by show (np_L U p && _) = (np_L U q && _); rw [e]) (fun p r h => (nt_and_b.mp h).2) (fun p hp h => ?_) (fun p hp h => ?_) (fun p q hp hq e => ?_) (fun p q hp hq e => ?_)
  · have h : (if p < np_n U then np_F U p else np_e U && np_F V (p - np_n U)) = true := h
    rw [if_pos hp] at h
    exact h
  · have h : (if p < np_n U then np_F U p else np_e U && np_F V (p - np_n U)) = true := h
    rw [if_neg (by omega)] at h
    exact (nt_and_b.mp h).2
  · show (if p < np_n U then np_e V && np_L U p else np_L V (p - np_n U)) = (if q < np_n U then np_e V && np_L U q else np_L V (q - np_n U))
    rw [if_pos hp, if_pos hq, e]
  · show (if p < np_n U then np_e V && np_L U p else np_L V (p - np_n U)) = (if q < np_n U then np_e V && np_L U q else np_L V (q - np_n U))
    rw [if_neg (by omega), if_neg (by omega), e]
theorem nc_or {U V : np_A} {k1 k2 : Nat} (hU : nc_ok U k1) (hV : nc_ok V k2) : nc_ok (np_or U V) (k1 + k2) := by
  refine nc_side (O := np_or U V) (X := fun _ _ => false) hU hV rfl rfl (fun p q e r => rfl) (fun p r h => by cases h) (fun p hp h => ?_) (fun p hp h => ?_) (fun p q hp hq e => ?_) (fun p q hp hq e => ?_)
  · have h : (if p < np_n U then np_F U p else np_F V (p - np_n U)) = true := h
    rw [if_pos hp] at h
    exact h
  · have h : (if p < np_n U then np_F U p else np_F V (p - np_n U)) = true := h
    rw [if_neg (by omega)] at h
    exact h
  · show (if p < np_n U then np_L U p else np_L V (p - np_n U)) = (if q < np_n U then np_L U q else np_L V (q - np_n U))
    rw [if_pos hp, if_pos hq, e]
  · show (if p < np_n U then np_L U p else np_L V (p - np_n U)) = (if q < np_n U then np_L U q else np_L V (q - np_n U))
    rw [if_neg (by omega), if_neg (by omega), e]
