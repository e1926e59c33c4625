/-! ===== places of a sequence, as the reference makes them ===== -/
/-- places; their letters; those behind; first ones; last ones; of none -/
abbrev np_A : Type := Nat × (Nat → Nat → Bool) × (Nat → Nat → Bool) × (Nat → Bool) × (Nat → Bool) × Bool
def np_n (U : np_A) : Nat := U.1
def np_M (U : np_A) : Nat → Nat → Bool := U.2.1
def np_B (U : np_A) : Nat → Nat → Bool := U.2.2.1
def np_F (U : np_A) : Nat → Bool := U.2.2.2.1
def np_L (U : np_A) : Nat → Bool := U.2.2.2.2.1
def np_e (U : np_A) : Bool := U.2.2.2.2.2
def np_cond (m : Nat → Bool) : np_A := (1, fun _ => m, fun _ _ => false, fun p => decide (p = 0), fun p => decide (p = 0), false)
def np_sM (U V : np_A) (p : Nat) : Nat → Bool := if p < np_n U then np_M U p else np_M V (p - np_n U)
def np_sB (U V : np_A) (X : Nat → Nat → Bool) (p q : Nat) : Bool := if p < np_n U then (if q < np_n U then np_B U p q else X p (q - np_n U)) else if q < np_n U then false else np_B V (p - np_n U) (q - np_n U)
def np_then (U V : np_A) : np_A := (np_n U + np_n V, np_sM U V, np_sB U V (fun p q => np_L U p && np_F V q), fun p => if p < np_n U then np_F U p else np_e U && np_F V (p - np_n U), fun p => if p < np_n U then np_e V && np_L U p else np_L V (p - np_n U), np_e U && np_e V)
def np_or (U V : np_A) : np_A := (np_n U + np_n V, np_sM U V, np_sB U V (fun _ _ => false), fun p => if p < np_n U then np_F U p else np_F V (p - np_n U), fun p => if p < np_n U then np_L U p else np_L V (p - np_n U), np_e U || np_e V)
/-- the pairs of a last place of one and a first place of the other, in order -/
def np_fr (U V : np_A) (p : Nat) : Nat → List (Nat × Nat)
  | 0 => []
  | q + 1 => np_fr U V p q ++ (if (np_L U p && np_F V q) = true then [(p, q)] else [])
def np_fp (U V : np_A) : Nat → List (Nat × Nat)
  | 0 => []
  | p + 1 => np_fp U V p ++ np_fr U V p (np_n V)
def np_x (xs : List (Nat × Nat)) (k : Nat) : Nat × Nat := (xs[k]?).getD (0, 0)
def np_fuse (U V : np_A) (xs : List (Nat × Nat)) : np_A := (np_n U + np_n V + xs.length,
  fun p => if p < np_n U + np_n V then np_sM U V p else fun v => np_M U (np_x xs (p - (np_n U + np_n V))).1 v && np_M V (np_x xs (p - (np_n U + np_n V))).2 v,
  fun p q => if p < np_n U then (if q < np_n U then np_B U p q else if q < np_n U + np_n V then false else np_B U p (np_x xs (q - (np_n U + np_n V))).1) else
    if q < np_n U then false else if q < np_n U + np_n V then (if p < np_n U + np_n V then np_B V (p - np_n U) (q - np_n U) else np_B V (np_x xs (p - (np_n U + np_n V))).2 (q - np_n U)) else false,
  fun p => if p < np_n U then np_F U p else if p < np_n U + np_n V then false else np_F U (np_x xs (p - (np_n U + np_n V))).1,
  fun p => if p < np_n U then false else if p < np_n U + np_n V then np_L V (p - np_n U) else np_L V (np_x xs (p - (np_n U + np_n V))).2, false)
def np_and (U V : np_A) : np_A := (np_n U + np_n V + np_n U * np_n V,
  fun p => if p < np_n U + np_n V then np_sM U V p else fun v => np_M U ((p - (np_n U + np_n V)) / np_n V) v && np_M V ((p - (np_n U + np_n V)) % np_n V) v,
  fun p q => if p < np_n U + np_n V then (if q < np_n U + np_n V then np_sB U V (fun _ _ => false) p q else false) else if q < np_n U + np_n V then false else
    np_B U ((p - (np_n U + np_n V)) / np_n V) ((q - (np_n U + np_n V)) / np_n V) && np_B V ((p - (np_n U + np_n V)) % np_n V) ((q - (np_n U + np_n V)) % np_n V),
  fun p => if p < np_n U + np_n V then false else np_F U ((p - (np_n U + np_n V)) / np_n V) && np_F V ((p - (np_n U + np_n V)) % np_n V),
  fun p => if p < np_n U + np_n V then false else np_L U ((p - (np_n U + np_n V)) / np_n V) && np_L V ((p - (np_n U + np_n V)) % np_n V), np_e U && np_e V)
def np_star (b : Bool) (U : np_A) : np_A := (np_n U, np_M U, fun p q => np_B U p q || (np_L U p && np_F U q), np_F U, np_L U, np_e U || b)
def np_need (U : np_A) (lo : Nat) : Nat := if np_e U = true then 1 else if 1 < lo then lo else 1
def np_times (lo hi : Nat) (U : np_A) : np_A := if hi = 0 then (np_n U, np_M U, np_B U, fun _ => false, fun _ => false, true) else
  (np_n U * hi, fun p => np_M U (p % np_n U), fun p q => if q / np_n U = p / np_n U then np_B U (p % np_n U) (q % np_n U) else if q / np_n U = p / np_n U + 1 then np_L U (p % np_n U) && np_F U (q % np_n U) else false,
  fun p => decide (p < np_n U) && np_F U p, fun p => np_L U (p % np_n U) && decide (np_need U lo ≤ p / np_n U + 1), decide (lo = 0) || np_e U)
def np_occ (n : Nat) (wb : Bool) (m : Nat → Bool) : np_A := (1 + nt_S n wb, fun p => if p = 0 then m else if p % 2 = 1 then (fun v => ! m v) else m,
  fun p q => decide (1 ≤ p) && (decide (q = 1 + 2 * (p / 2)) || decide (q = 2 + 2 * (p / 2))), fun p => decide (p = 1) || decide (p = 2 ∧ 0 < n), fun p => decide (1 ≤ p) && decide (p / 2 = n), decide (n = 0))
/-- places stand for states -/
def np_sim (U : np_A) (A : nt_A) : Prop := ∃ (rep : Nat → Nat) (Al : Nat → Prop), (∀ p, Al p → p < np_n U ∧ rep p < nt_n A) ∧ (∀ p, p < np_n U → np_F U p = true → Al p) ∧ (∀ p q, Al p → q < np_n U → np_B U p q = true → Al q) ∧
  (∀ p, Al p → (np_L U p = true ↔ nt_L A (rep p) = true)) ∧ (∀ s l, nt_h A s l ↔ ∃ p, p < np_n U ∧ np_F U p = true ∧ rep p = s ∧ nl_ok (np_M U p) l) ∧
  (∀ p, Al p → ∀ t l, nt_D A (rep p) t l ↔ ∃ q, q < np_n U ∧ np_B U p q = true ∧ rep q = t ∧ nl_ok (np_M U q) l) ∧ np_e U = nt_e A
theorem np_cond_s (m : Nat → Bool) : np_sim (np_cond m) (nt_cond m) := by
  refine ⟨fun _ => 0, fun p => p = 0, ?_, ?_, ?_, ?_, ?_, ?_, rfl⟩
  · rintro p rfl
    exact ⟨Nat.zero_lt_one, Nat.zero_lt_one⟩
  · intro p _ h
    exact of_decide_eq_true h
  · intro p q _ _ h
    cases h
  · rintro p rfl
    exact ⟨fun _ => rfl, fun _ => rfl⟩
  · intro s l
    constructor
    · rintro ⟨h1, h2, h3⟩
      have h1 : s < 1 := h1
      exact ⟨0, Nat.zero_lt_one, rfl, (show 0 = s by omega), h3⟩
    · rintro ⟨p, h1, h2, h3, h4⟩
      have h3 : 0 = s := h3
      subst h3
      exact ⟨Nat.zero_lt_one, rfl, h4⟩
  · rintro p rfl t l
    constructor
    · rintro ⟨_, _, h, _⟩
      cases h
    · rintro ⟨q, _, h, _⟩
      cases h
theorem np_star_s {b : Bool} {U : np_A} {A : nt_A} (h : np_sim U A) : np_sim (np_star b U) (nt_star b A) := by
  obtain ⟨rep, Al, h1, h2, h3, h4, h5, h6, h7⟩ := h
  refine ⟨rep, Al, h1, h2, ?_, h4, h5, ?_, ?_⟩
  · intro p q hp hq hb
    rcases nt_or_b.mp hb with g | g
    · exact h3 p q hp hq g
    · exact h2 q hq (nt_and_b.mp g).2
  · intro p hp t l
    rw [nt_star_D, h6 p hp t l, h5 t l]
    constructor
    · rintro (⟨q, a, b, c, d⟩ | ⟨f, q, a, b, c, d⟩)
      · exact ⟨q, a, nt_or_b.mpr (Or.inl b), c, d⟩
      · exact ⟨q, a, nt_or_b.mpr (Or.inr (nt_and_b.mpr ⟨(h4 p hp).mpr f.2, b⟩)), c, d⟩
    · rintro ⟨q, a, b, c, d⟩
      rcases nt_or_b.mp b with g | g
      · exact Or.inl ⟨q, a, g, c, d⟩
      · exact Or.inr ⟨⟨(h1 p hp).2, (h4 p hp).mp (nt_and_b.mp g).1⟩, q, a, (nt_and_b.mp g).2, c, d⟩
  · show (np_e U || b) = (nt_e A || b)
    rw [h7]
/-- two side by side: what stands for what -/
def np_rep (U : np_A) (n : Nat) (r1 r2 : Nat → Nat) (p : Nat) : Nat := if p < np_n U then r1 p else n + r2 (p - np_n U)
theorem np_sB_1 {U V : np_A} {X : Nat → Nat → Bool} {p q : Nat} (hp : p < np_n U) : np_sB U V X p q = true ↔ (q < np_n U ∧ np_B U p q = true) ∨ (np_n U ≤ q ∧ X p (q - np_n U) = true) := by
  unfold np_sB
  rw [if_pos hp]
  by_cases hq : q < np_n U
  · rw [if_pos hq]
    exact ⟨fun h => Or.inl ⟨hq, h⟩, fun h => h.elim (fun z => z.2) (fun z => by omega)⟩
  · rw [if_neg hq]
    exact ⟨fun h => Or.inr ⟨by omega, h⟩, fun h => h.elim (fun z => (hq z.1).elim) (fun z => z.2)⟩
theorem np_sB_2 {U V : np_A} {X : Nat → Nat → Bool} {p q : Nat} (hp : np_n U ≤ p) : np_sB U V X p q = true ↔ np_n U ≤ q ∧ np_B V (p - np_n U) (q - np_n U) = true := by
  unfold np_sB
  rw [if_neg (by omega)]
  by_cases hq : q < np_n U
  · rw [if_pos hq]
    exact ⟨fun h => (by cases h), fun h => by omega⟩
  · rw [if_neg hq]
    exact ⟨fun h => ⟨by omega, h⟩, fun h => h.2⟩
theorem np_sM_1 {U V : np_A} {p : Nat} (hp : p < np_n U) : np_sM U V p = np_M U p := if_pos hp
theorem np_sM_2 {U V : np_A} {p : Nat} (hp : np_n U ≤ p) : np_sM U V p = np_M V (p - np_n U) := if_neg (by omega)
theorem np_rep_1 {U : np_A} {n p : Nat} {r1 r2 : Nat → Nat} (hp : p < np_n U) : np_rep U n r1 r2 p = r1 p := if_pos hp
theorem np_rep_2 {U : np_A} {n p : Nat} {r1 r2 : Nat → Nat} (hp : np_n U ≤ p) : np_rep U n r1 r2 p = n + r2 (p - np_n U) := if_neg (by omega)
/-- steps within one of two side by side -/
theorem np_D0_1 {A B : nt_A} {s t : Nat} {l : Option Nat} (hs : s < nt_n A) : nt_D0 A B s t l ↔ nt_D A s t l := ⟨fun h => h.elim id (fun z => by have := z.1; omega), Or.inl⟩
theorem np_D0_2 {A B : nt_A} {s t : Nat} {l : Option Nat} : nt_D0 A B (nt_n A + s) t l ↔ ∃ u, t = nt_n A + u ∧ nt_D B s u l := by
  constructor
  · rintro (h | ⟨_, h2, h3⟩)
    · have := h.1
      omega
    · rw [Nat.add_sub_cancel_left] at h3
      exact ⟨t - nt_n A, by omega, h3⟩
  · rintro ⟨u, rfl, h⟩
    refine Or.inr ⟨by omega, by omega, ?_⟩
    rw [Nat.add_sub_cancel_left, Nat.add_sub_cancel_left]
    exact h
theorem np_hB {A B : nt_A} {s : Nat} {l : Option Nat} : nt_hB A B s l ↔ ∃ u, s = nt_n A + u ∧ nt_h B u l := by
  constructor
  · rintro ⟨h1, h2⟩
    exact ⟨s - nt_n A, by omega, h2⟩
  · rintro ⟨u, rfl, h⟩
    refine ⟨by omega, ?_⟩
    rw [Nat.add_sub_cancel_left]
    exact h
theorem np_then_s {U V : np_A} {A B : nt_A} (hU : np_sim U A) (hV : np_sim V B) : np_sim (np_then U V) (nt_chain A B) := by
  obtain ⟨r1, L1, a1, a2, a3, a4, a5, a6, a7⟩ := hU
  obtain ⟨r2, L2, b1, b2, b3, b4, b5, b6, b7⟩ := hV
  have eF : ∀ p, np_F (np_then U V) p = if p < np_n U then np_F U p else np_e U && np_F V (p - np_n U) := fun _ => rfl
  have eL : ∀ p, np_L (np_then U V) p = if p < np_n U then np_e V && np_L U p else np_L V (p - np_n U) := fun _ => rfl
  have eN : np_n (np_then U V) = np_n U + np_n V := rfl
  have eB : np_B (np_then U V) = np_sB U V (fun p q => np_L U p && np_F V q) := rfl
  have eM : np_M (np_then U V) = np_sM U V := rfl
  refine ⟨np_rep U (nt_n A) r1 r2, fun p => (p < np_n U ∧ L1 p) ∨ (np_n U ≤ p ∧ L2 (p - np_n U)), ?_, ?_, ?_, ?_, ?_, ?_, ?_⟩
  · rintro p (⟨h1, h2⟩ | ⟨h1, h2⟩)
    · rw [np_rep_1 h1, eN]
      have := (a1 p h2).2
      exact ⟨by omega, by show r1 p < nt_n A + nt_n B; omega⟩
    · rw [np_rep_2 h1, eN]
      have := b1 _ h2
      exact ⟨by omega, by show nt_n A + _ < nt_n A + nt_n B; omega⟩
  · intro p hp hf
    rw [eN] at hp
    rw [eF] at hf
    by_cases h : p < np_n U
    · rw [if_pos h] at hf
      exact Or.inl ⟨h, a2 p h hf⟩
    · rw [if_neg h] at hf
      exact Or.inr ⟨by omega, b2 _ (by omega) (nt_and_b.mp hf).2⟩
  · rintro p q (⟨h1, h2⟩ | ⟨h1, h2⟩) hq hb
    · rw [eN] at hq
      rw [eB, np_sB_1 h1] at hb
      rcases hb with ⟨g1, g2⟩ | ⟨g1, g2⟩
      · exact Or.inl ⟨g1, a3 p q h2 g1 g2⟩
      · exact Or.inr ⟨g1, b2 _ (by omega) (nt_and_b.mp g2).2⟩
    · rw [eN] at hq
      rw [eB, np_sB_2 h1] at hb
      exact Or.inr ⟨hb.1, b3 _ _ h2 (by omega) hb.2⟩
  · rintro p (⟨h1, h2⟩ | ⟨h1, h2⟩)
    · rw [np_rep_1 h1, eL, if_pos h1]
      have hr := (a1 p h2).2
      show _ ↔ (if r1 p < nt_n A then nt_e B && nt_L A (r1 p) else nt_L B (r1 p - nt_n A)) = true
      rw [if_pos hr, nt_and_b, nt_and_b, a4 p h2, b7]
    · rw [np_rep_2 h1, eL, if_neg (by omega)]
      show _ ↔ (if nt_n A + r2 (p - np_n U) < nt_n A then _ else nt_L B (nt_n A + r2 (p - np_n U) - nt_n A)) = true
      rw [if_neg (by omega), Nat.add_sub_cancel_left, b4 _ h2]
  · intro s l
    rw [nt_chain_h, a5 s l, np_hB]
    constructor
    · rintro (⟨p, p1, p2, p3, p4⟩ | ⟨he, u, rfl, hu⟩)
      · refine ⟨p, by omega, ?_, ?_, ?_⟩
        · rw [eF, if_pos p1]; exact p2
        · rw [np_rep_1 p1]; exact p3
        · rw [eM, np_sM_1 p1]; exact p4
      · obtain ⟨p, p1, p2, p3, p4⟩ := (b5 u l).mp hu
        refine ⟨np_n U + p, by omega, ?_, ?_, ?_⟩
        · rw [eF, if_neg (by omega), Nat.add_sub_cancel_left]
          exact nt_and_b.mpr ⟨by rw [a7]; exact he, p2⟩
        · rw [np_rep_2 (by omega), Nat.add_sub_cancel_left, p3]
        · rw [eM, np_sM_2 (by omega), Nat.add_sub_cancel_left]; exact p4
    · rintro ⟨p, p1, p2, p3, p4⟩
      rw [eN] at p1
      rw [eF] at p2
      rw [eM] at p4
      by_cases h : p < np_n U
      · rw [if_pos h] at p2
        rw [np_rep_1 h] at p3
        rw [np_sM_1 h] at p4
        exact Or.inl ⟨p, h, p2, p3, p4⟩
      · rw [if_neg h] at p2
        rw [np_rep_2 (by omega)] at p3
        rw [np_sM_2 (by omega)] at p4
        have := nt_and_b.mp p2
        exact Or.inr ⟨by rw [← a7]; exact this.1, r2 (p - np_n U), p3.symm, (b5 _ l).mpr ⟨p - np_n U, by omega, this.2, rfl, p4⟩⟩
  · rintro p (⟨h1, h2⟩ | ⟨h1, h2⟩) t l
    · have hr := (a1 p h2).2
      rw [np_rep_1 h1, nt_chain_D1 _ _ _ hr, np_D0_1 hr, a6 p h2 t l, np_hB]
      constructor
      · rintro (⟨q, q1, q2, q3, q4⟩ | ⟨hf, u, rfl, hu⟩)
        · refine ⟨q, by omega, ?_, ?_, ?_⟩
          · rw [eB, np_sB_1 h1]; exact Or.inl ⟨q1, q2⟩
          · rw [np_rep_1 q1]; exact q3
          · rw [eM, np_sM_1 q1]; exact q4
        · obtain ⟨q, q1, q2, q3, q4⟩ := (b5 u l).mp hu
          refine ⟨np_n U + q, by omega, ?_, ?_, ?_⟩
          · rw [eB, np_sB_1 h1, Nat.add_sub_cancel_left]
            exact Or.inr ⟨by omega, nt_and_b.mpr ⟨(a4 p h2).mpr hf.2, q2⟩⟩
          · rw [np_rep_2 (by omega), Nat.add_sub_cancel_left, q3]
          · rw [eM, np_sM_2 (by omega), Nat.add_sub_cancel_left]; exact q4
      · rintro ⟨q, q1, q2, q3, q4⟩
        rw [eN] at q1
        rw [eM] at q4
        rw [eB, np_sB_1 h1] at q2
        rcases q2 with ⟨g1, g2⟩ | ⟨g1, g2⟩
        · rw [np_rep_1 g1] at q3
          rw [np_sM_1 g1] at q4
          exact Or.inl ⟨q, g1, g2, q3, q4⟩
        · rw [np_rep_2 g1] at q3
          rw [np_sM_2 g1] at q4
          have := nt_and_b.mp g2
          exact Or.inr ⟨⟨hr, (a4 p h2).mp this.1⟩, _, q3.symm, (b5 _ l).mpr ⟨q - np_n U, by omega, this.2, rfl, q4⟩⟩
    · rw [np_rep_2 h1, nt_chain_D2 _ _ _ (by omega), np_D0_2]
      constructor
      · rintro ⟨u, rfl, hu⟩
        obtain ⟨q, q1, q2, q3, q4⟩ := (b6 _ h2 u l).mp hu
        refine ⟨np_n U + q, by omega, ?_, ?_, ?_⟩
        · rw [eB, np_sB_2 h1, Nat.add_sub_cancel_left]
          exact ⟨by omega, q2⟩
        · rw [np_rep_2 (by omega), Nat.add_sub_cancel_left, q3]
        · rw [eM, np_sM_2 (by omega), Nat.add_sub_cancel_left]; exact q4
      · rintro ⟨q, q1, q2, q3, q4⟩
        rw [eN] at q1
        rw [eM] at q4
        rw [eB, np_sB_2 h1] at q2
        rw [np_rep_2 q2.1] at q3
        rw [np_sM_2 q2.1] at q4
        exact ⟨_, q3.symm, (b6 _ h2 _ l).mpr ⟨q - np_n U, by omega, q2.2, rfl, q4⟩⟩
  · show (np_e U && np_e V) = (nt_e A && nt_e B)
    rw [a7, b7]
theorem np_or_s {U V : np_A} {A B : nt_A} (hU : np_sim U A) (hV : np_sim V B) : np_sim (np_or U V) (nt_or A B) := by
  obtain ⟨r1, L1, a1, a2, a3, a4, a5, a6, a7⟩ := hU
  obtain ⟨r2, L2, b1, b2, b3, b4, b5, b6, b7⟩ := hV
  have eF : ∀ p, np_F (np_or U V) p = if p < np_n U then np_F U p else np_F V (p - np_n U) := fun _ => rfl
  have eL : ∀ p, np_L (np_or U V) p = if p < np_n U then np_L U p else np_L V (p - np_n U) := fun _ => rfl
  have eN : np_n (np_or U V) = np_n U + np_n V := rfl
  have eB : np_B (np_or U V) = np_sB U V (fun p q => false) := rfl
  have eM : np_M (np_or U V) = np_sM U V := rfl
  refine ⟨np_rep U (nt_n A) r1 r2, fun p => (p < np_n U ∧ L1 p) ∨ (np_n U ≤ p ∧ L2 (p - np_n U)), ?_, ?_, ?_, ?_, ?_, ?_, ?_⟩
  · rintro p (⟨h1, h2⟩ | ⟨h1, h2⟩)
    · rw [np_rep_1 h1, eN]
      have := (a1 p h2).2
      exact ⟨by omega, by show r1 p < nt_n A + nt_n B; omega⟩
    · rw [np_rep_2 h1, eN]
      have := b1 _ h2
      exact ⟨by omega, by show nt_n A + _ < nt_n A + nt_n B; omega⟩
  · intro p hp hf
    rw [eN] at hp
    rw [eF] at hf
    by_cases h : p < np_n U
    · rw [if_pos h] at hf
      exact Or.inl ⟨h, a2 p h hf⟩
    · rw [if_neg h] at hf
      exact Or.inr ⟨by omega, b2 _ (by omega) hf⟩
  · rintro p q (⟨h1, h2⟩ | ⟨h1, h2⟩) hq hb
    · rw [eN] at hq
      rw [eB, np_sB_1 h1] at hb
      rcases hb with ⟨g1, g2⟩ | ⟨g1, g2⟩
      · exact Or.inl ⟨g1, a3 p q h2 g1 g2⟩
      · cases g2
    · rw [eN] at hq
      rw [eB, np_sB_2 h1] at hb
      exact Or.inr ⟨hb.1, b3 _ _ h2 (by omega) hb.2⟩
  · rintro p (⟨h1, h2⟩ | ⟨h1, h2⟩)
    · rw [np_rep_1 h1, eL, if_pos h1]
      have hr := (a1 p h2).2
      show _ ↔ (if r1 p < nt_n A then nt_L A (r1 p) else nt_L B (r1 p - nt_n A)) = true
      rw [if_pos hr, a4 p h2]
    · rw [np_rep_2 h1, eL, if_neg (by omega)]
      show _ ↔ (if nt_n A + r2 (p - np_n U) < nt_n A then _ else nt_L B (nt_n A + r2 (p - np_n U) - nt_n A)) = true
      rw [if_neg (by omega), Nat.add_sub_cancel_left, b4 _ h2]
  · intro s l
    rw [nt_or_h, a5 s l, np_hB]
    constructor
    · rintro (⟨p, p1, p2, p3, p4⟩ | ⟨u, rfl, hu⟩)
      · refine ⟨p, by omega, ?_, ?_, ?_⟩
        · rw [eF, if_pos p1]; exact p2
        · rw [np_rep_1 p1]; exact p3
        · rw [eM, np_sM_1 p1]; exact p4
      · obtain ⟨p, p1, p2, p3, p4⟩ := (b5 u l).mp hu
        refine ⟨np_n U + p, by omega, ?_, ?_, ?_⟩
        · rw [eF, if_neg (by omega), Nat.add_sub_cancel_left]
          exact p2
        · rw [np_rep_2 (by omega), Nat.add_sub_cancel_left, p3]
        · rw [eM, np_sM_2 (by omega), Nat.add_sub_cancel_left]; exact p4
    · rintro ⟨p, p1, p2, p3, p4⟩
      rw [eN] at p1
      rw [eF] at p2
      rw [eM] at p4
      by_cases h : p < np_n U
      · rw [if_pos h] at p2
        rw [np_rep_1 h] at p3
        rw [np_sM_1 h] at p4
        exact Or.inl ⟨p, h, p2, p3, p4⟩
      · rw [if_neg h] at p2
        rw [np_rep_2 (by omega)] at p3
        rw [np_sM_2 (by omega)] at p4
        exact Or.inr ⟨r2 (p - np_n U), p3.symm, (b5 _ l).mpr ⟨p - np_n U, by omega, p2, rfl, p4⟩⟩
  · rintro p (⟨h1, h2⟩ | ⟨h1, h2⟩) t l
    · have hr := (a1 p h2).2
      rw [np_rep_1 h1, nt_or_D, np_D0_1 hr, a6 p h2 t l]
      constructor
      · rintro ⟨q, q1, q2, q3, q4⟩
        refine ⟨q, by omega, ?_, ?_, ?_⟩
        · rw [eB, np_sB_1 h1]; exact Or.inl ⟨q1, q2⟩
        · rw [np_rep_1 q1]; exact q3
        · rw [eM, np_sM_1 q1]; exact q4
      · rintro ⟨q, q1, q2, q3, q4⟩
        rw [eM] at q4
        rw [eB, np_sB_1 h1] at q2
        rcases q2 with ⟨g1, g2⟩ | ⟨g1, g2⟩
        · rw [np_rep_1 g1] at q3
          rw [np_sM_1 g1] at q4
          exact ⟨q, g1, g2, q3, q4⟩
        · cases g2
    · rw [np_rep_2 h1, nt_or_D, np_D0_2]
      constructor
      · rintro ⟨u, rfl, hu⟩
        obtain ⟨q, q1, q2, q3, q4⟩ := (b6 _ h2 u l).mp hu
        refine ⟨np_n U + q, by omega, ?_, ?_, ?_⟩
        · rw [eB, np_sB_2 h1, Nat.add_sub_cancel_left]
          exact ⟨by omega, q2⟩
        · rw [np_rep_2 (by omega), Nat.add_sub_cancel_left, q3]
        · rw [eM, np_sM_2 (by omega), Nat.add_sub_cancel_left]; exact q4
      · rintro ⟨q, q1, q2, q3, q4⟩
        rw [eN] at q1
        rw [eM] at q4
        rw [eB, np_sB_2 h1] at q2
        rw [np_rep_2 q2.1] at q3
        rw [np_sM_2 q2.1] at q4
        exact ⟨_, q3.symm, (b6 _ h2 _ l).mpr ⟨q - np_n U, by omega, q2.2, rfl, q4⟩⟩
  · show (np_e U || np_e V) = (nt_e A || nt_e B)
    rw [a7, b7]
