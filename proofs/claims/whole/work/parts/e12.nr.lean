/-! ===== places stand for states: fused, paired, repeated, counted ===== -/
def np_full (U V : np_A) (xs : List (Nat × Nat)) : Prop := (∀ k, k < xs.length → (np_x xs k).1 < np_n U ∧ (np_x xs k).2 < np_n V ∧ np_L U (np_x xs k).1 = true ∧ np_F V (np_x xs k).2 = true) ∧ ∀ p q, p < np_n U → q < np_n V → np_L U p = true → np_F V q = true → ∃ k, k < xs.length ∧ np_x xs k = (p, q)
def np_repf (U V : np_A) (xs : List (Nat × Nat)) (n : Nat) (r1 r2 : Nat → Nat) (p : Nat) : Nat := if p < np_n U then r1 p else if p < np_n U + np_n V then n + r2 (p - np_n U) else n + r2 (np_x xs (p - (np_n U + np_n V))).2
theorem np_fuse_s {U V : np_A} {A B : nt_A} {xs : List (Nat × Nat)} (hU : np_sim U A) (hV : np_sim V B) (hx : np_full U V xs) : np_sim (np_fuse U V xs) (nt_fuse A B) := by
  obtain ⟨r1, L1, a1, a2, a3, a4, a5, a6, a7⟩ := hU
  obtain ⟨r2, L2, b1, b2, b3, b4, b5, b6, b7⟩ := hV
  obtain ⟨x1, x2⟩ := hx
  have eN : np_n (np_fuse U V xs) = np_n U + np_n V + xs.length := rfl
  have R1 : ∀ p, p < np_n U → np_repf U V xs (nt_n A) r1 r2 p = r1 p := fun p h => if_pos h
  have R2 : ∀ p, np_n U ≤ p → p < np_n U + np_n V → np_repf U V xs (nt_n A) r1 r2 p = nt_n A + r2 (p - np_n U) := fun p h h2 => by
    unfold np_repf
    rw [if_neg (by omega), if_pos h2]
  have R3 : ∀ k, np_repf U V xs (nt_n A) r1 r2 (np_n U + np_n V + k) = nt_n A + r2 (np_x xs k).2 := fun k => by
    unfold np_repf
    rw [if_neg (by omega), if_neg (by omega), Nat.add_sub_cancel_left]
  have M1 : ∀ p, p < np_n U → np_M (np_fuse U V xs) p = np_M U p := fun p h => by
    show (if p < np_n U + np_n V then np_sM U V p else _) = _
    rw [if_pos (by omega), np_sM_1 h]
  have M2 : ∀ p, np_n U ≤ p → p < np_n U + np_n V → np_M (np_fuse U V xs) p = np_M V (p - np_n U) := fun p h h2 => by
    show (if p < np_n U + np_n V then np_sM U V p else _) = _
    rw [if_pos h2, np_sM_2 h]
  have M3 : ∀ k, np_M (np_fuse U V xs) (np_n U + np_n V + k) = fun v => np_M U (np_x xs k).1 v && np_M V (np_x xs k).2 v := fun k => by
    show (if np_n U + np_n V + k < np_n U + np_n V then np_sM U V _ else fun v => np_M U (np_x xs (np_n U + np_n V + k - (np_n U + np_n V))).1 v && np_M V (np_x xs (np_n U + np_n V + k - (np_n U + np_n V))).2 v) = _
    rw [if_neg (by omega), Nat.add_sub_cancel_left]
  have F1 : ∀ p, p < np_n U → np_F (np_fuse U V xs) p = np_F U p := fun p h => if_pos h
  have F2 : ∀ p, np_n U ≤ p → p < np_n U + np_n V → np_F (np_fuse U V xs) p = false := fun p h h2 => by
    show (if p < np_n U then _ else if p < np_n U + np_n V then false else _) = _
    rw [if_neg (by omega), if_pos h2]
  have F3 : ∀ k, np_F (np_fuse U V xs) (np_n U + np_n V + k) = np_F U (np_x xs k).1 := fun k => by
    show (if np_n U + np_n V + k < np_n U then _ else if np_n U + np_n V + k < np_n U + np_n V then false else np_F U (np_x xs (np_n U + np_n V + k - (np_n U + np_n V))).1) = _
    rw [if_neg (by omega), if_neg (by omega), Nat.add_sub_cancel_left]
  have G1 : ∀ p, p < np_n U → np_L (np_fuse U V xs) p = false := fun p h => if_pos h
  have G2 : ∀ p, np_n U ≤ p → p < np_n U + np_n V → np_L (np_fuse U V xs) p = np_L V (p - np_n U) := fun p h h2 => by
    show (if p < np_n U then _ else if p < np_n U + np_n V then np_L V (p - np_n U) else _) = _
    rw [if_neg (by omega), if_pos h2]
  have G3 : ∀ k, np_L (np_fuse U V xs) (np_n U + np_n V + k) = np_L V (np_x xs k).2 := fun k => by
    show (if np_n U + np_n V + k < np_n U then _ else if np_n U + np_n V + k < np_n U + np_n V then _ else np_L V (np_x xs (np_n U + np_n V + k - (np_n U + np_n V))).2) = _
    rw [if_neg (by omega), if_neg (by omega), Nat.add_sub_cancel_left]
  have B1 : ∀ p q, p < np_n U → (np_B (np_fuse U V xs) p q = true ↔ (q < np_n U ∧ np_B U p q = true) ∨ ∃ k, q = np_n U + np_n V + k ∧ np_B U p (np_x xs k).1 = true) := fun p q h => by
    show (if p < np_n U then (if q < np_n U then np_B U p q else if q < np_n U + np_n V then false else np_B U p (np_x xs (q - (np_n U + np_n V))).1) else _) = true ↔ _
    rw [if_pos h]
    by_cases hq : q < np_n U
    · rw [if_pos hq]
      exact ⟨fun g => Or.inl ⟨hq, g⟩, fun g => g.elim (fun z => z.2) (fun ⟨k, z, _⟩ => by omega)⟩
    · rw [if_neg hq]
      by_cases hq2 : q < np_n U + np_n V
      · rw [if_pos hq2]
        exact ⟨fun g => (by cases g), fun g => g.elim (fun z => (hq z.1).elim) (fun ⟨k, z, _⟩ => by omega)⟩
      · rw [if_neg hq2]
        constructor
        · exact fun g => Or.inr ⟨q - (np_n U + np_n V), by omega, g⟩
        · rintro (⟨z, _⟩ | ⟨k, rfl, z⟩)
          · exact (hq z).elim
          · rw [Nat.add_sub_cancel_left]; exact z
  have B2 : ∀ p q, np_n U ≤ p → p < np_n U + np_n V → (np_B (np_fuse U V xs) p q = true ↔ np_n U ≤ q ∧ q < np_n U + np_n V ∧ np_B V (p - np_n U) (q - np_n U) = true) := fun p q h h2 => by
    show (if p < np_n U then _ else if q < np_n U then false else if q < np_n U + np_n V then (if p < np_n U + np_n V then np_B V (p - np_n U) (q - np_n U) else _) else false) = true ↔ _
    rw [if_neg (by omega)]
    by_cases hq : q < np_n U
    · rw [if_pos hq]
      exact ⟨fun g => (by cases g), fun g => by omega⟩
    · rw [if_neg hq]
      by_cases hq2 : q < np_n U + np_n V
      · rw [if_pos hq2, if_pos h2]
        exact ⟨fun g => ⟨by omega, hq2, g⟩, fun g => g.2.2⟩
      · rw [if_neg hq2]
        exact ⟨fun g => (by cases g), fun g => (hq2 g.2.1).elim⟩
  have B3 : ∀ k q, (np_B (np_fuse U V xs) (np_n U + np_n V + k) q = true ↔ np_n U ≤ q ∧ q < np_n U + np_n V ∧ np_B V (np_x xs k).2 (q - np_n U) = true) := fun k q => by
    show (if np_n U + np_n V + k < np_n U then _ else if q < np_n U then false else if q < np_n U + np_n V then (if np_n U + np_n V + k < np_n U + np_n V then _ else np_B V (np_x xs (np_n U + np_n V + k - (np_n U + np_n V))).2 (q - np_n U)) else false) = true ↔ _
    rw [if_neg (by omega)]
    by_cases hq : q < np_n U
    · rw [if_pos hq]
      exact ⟨fun g => (by cases g), fun g => by omega⟩
    · rw [if_neg hq]
      by_cases hq2 : q < np_n U + np_n V
      · rw [if_pos hq2, if_neg (by omega), Nat.add_sub_cancel_left]
        exact ⟨fun g => ⟨by omega, hq2, g⟩, fun g => g.2.2⟩
      · rw [if_neg hq2]
        exact ⟨fun g => (by cases g), fun g => (hq2 g.2.1).elim⟩
  have hxL : ∀ k, k < xs.length → L2 (np_x xs k).2 := fun k hk => b2 _ (x1 k hk).2.1 (x1 k hk).2.2.2
  refine ⟨np_repf U V xs (nt_n A) r1 r2, fun p => (p < np_n U ∧ L1 p) ∨ (np_n U ≤ p ∧ p < np_n U + np_n V ∧ L2 (p - np_n U)) ∨ ∃ k, p = np_n U + np_n V + k ∧ k < xs.length, ?_, ?_, ?_, ?_, ?_, ?_, rfl⟩
  · rintro p (⟨h1, h2⟩ | ⟨h1, h2, h3⟩ | ⟨k, rfl, hk⟩)
    · rw [R1 p h1, eN]
      have := (a1 p h2).2
      exact ⟨by omega, by show r1 p < nt_n A + nt_n B; omega⟩
    · rw [R2 p h1 h2, eN]
      have := b1 _ h3
      exact ⟨by omega, by show nt_n A + _ < nt_n A + nt_n B; omega⟩
    · rw [R3, eN]
      have := b1 _ (hxL k hk)
      exact ⟨by omega, by show nt_n A + _ < nt_n A + nt_n B; omega⟩
  · intro p hp hf
    rw [eN] at hp
    by_cases h : p < np_n U
    · rw [F1 p h] at hf
      exact Or.inl ⟨h, a2 p h hf⟩
    · by_cases h2 : p < np_n U + np_n V
      · rw [F2 p (by omega) h2] at hf
        cases hf
      · exact Or.inr (Or.inr ⟨p - (np_n U + np_n V), by omega, by omega⟩)
  · rintro p q (⟨h1, h2⟩ | ⟨h1, h2, h3⟩ | ⟨k, rfl, hk⟩) hq hb
    · rw [eN] at hq
      rcases (B1 p q h1).mp hb with ⟨g1, g2⟩ | ⟨k, rfl, g2⟩
      · exact Or.inl ⟨g1, a3 p q h2 g1 g2⟩
      · exact Or.inr (Or.inr ⟨k, rfl, by omega⟩)
    · obtain ⟨g1, g2, g3⟩ := (B2 p q h1 h2).mp hb
      exact Or.inr (Or.inl ⟨g1, g2, b3 _ _ h3 (by omega) g3⟩)
    · obtain ⟨g1, g2, g3⟩ := (B3 k q).mp hb
      exact Or.inr (Or.inl ⟨g1, g2, b3 _ _ (hxL k hk) (by omega) g3⟩)
  · rintro p (⟨h1, h2⟩ | ⟨h1, h2, h3⟩ | ⟨k, rfl, hk⟩)
    · rw [R1 p h1, G1 p h1]
      have hr := (a1 p h2).2
      show _ ↔ (if r1 p < nt_n A then false else _) = true
      rw [if_pos hr]
    · rw [R2 p h1 h2, G2 p h1 h2]
      show _ ↔ (if nt_n A + r2 (p - np_n U) < nt_n A then false else nt_L B (nt_n A + r2 (p - np_n U) - nt_n A)) = true
      rw [if_neg (by omega), Nat.add_sub_cancel_left, b4 _ h3]
    · rw [R3, G3]
      show _ ↔ (if nt_n A + r2 (np_x xs k).2 < nt_n A then false else nt_L B (nt_n A + r2 (np_x xs k).2 - nt_n A)) = true
      rw [if_neg (by omega), Nat.add_sub_cancel_left, b4 _ (hxL k hk)]
  · intro s l
    rw [nt_fuse_hh, a5 s l, np_hB]
    constructor
    · rintro (⟨p, p1, p2, p3, p4⟩ | ⟨⟨z, z1, z2⟩, u, rfl, hu⟩)
      · exact ⟨p, by omega, by rw [F1 p p1]; exact p2, by rw [R1 p p1]; exact p3, by rw [M1 p p1]; exact p4⟩
      · obtain ⟨p, p1, p2, p3, p4⟩ := (a5 z l).mp z1
        obtain ⟨q, q1, q2, q3, q4⟩ := (b5 u l).mp hu
        have hL : np_L U p = true := (a4 p (a2 p p1 p2)).mpr (by rw [p3]; exact z2.2)
        obtain ⟨k, k1, k2⟩ := x2 p q p1 q1 hL q2
        refine ⟨np_n U + np_n V + k, by omega, ?_, ?_, ?_⟩
        · rw [F3, k2]; exact p2
        · rw [R3, k2, q3]
        · rw [M3, k2, nl_ok_and]; exact ⟨p4, q4⟩
    · rintro ⟨p, p1, p2, p3, p4⟩
      rw [eN] at p1
      by_cases h : p < np_n U
      · rw [F1 p h] at p2
        rw [R1 p h] at p3
        rw [M1 p h] at p4
        exact Or.inl ⟨p, h, p2, p3, p4⟩
      · by_cases h2 : p < np_n U + np_n V
        · rw [F2 p (by omega) h2] at p2
          cases p2
        · obtain ⟨k, rfl⟩ : ∃ k, p = np_n U + np_n V + k := ⟨p - (np_n U + np_n V), by omega⟩
          have hk : k < xs.length := by omega
          rw [F3] at p2
          rw [R3] at p3
          rw [M3, nl_ok_and] at p4
          obtain ⟨c1, c2, c3, c4⟩ := x1 k hk
          have hal := a2 _ c1 p2
          exact Or.inr ⟨⟨r1 (np_x xs k).1, (a5 _ l).mpr ⟨_, c1, p2, rfl, p4.1⟩, (a1 _ hal).2, (a4 _ hal).mp c3⟩, _, p3.symm, (b5 _ l).mpr ⟨_, c2, c4, rfl, p4.2⟩⟩
  · rintro p (⟨h1, h2⟩ | ⟨h1, h2, h3⟩ | ⟨k, rfl, hk⟩) t l
    · have hr := (a1 p h2).2
      rw [R1 p h1, nt_fuse_D1 _ _ _ hr, np_D0_1 hr, a6 p h2 t l, np_hB]
      constructor
      · rintro (⟨q, q1, q2, q3, q4⟩ | ⟨⟨z, z1, z2⟩, u, rfl, hu⟩)
        · exact ⟨q, by omega, (B1 p q h1).mpr (Or.inl ⟨q1, q2⟩), by rw [R1 q q1]; exact q3, by rw [M1 q q1]; exact q4⟩
        · obtain ⟨y, y1, y2, y3, y4⟩ := (a6 p h2 z l).mp ((np_D0_1 hr).mp z1)
          obtain ⟨q, q1, q2, q3, q4⟩ := (b5 u l).mp hu
          have hL : np_L U y = true := (a4 y (a3 p y h2 y1 y2)).mpr (by rw [y3]; exact z2.2)
          obtain ⟨k, k1, k2⟩ := x2 y q y1 q1 hL q2
          refine ⟨np_n U + np_n V + k, by omega, (B1 p _ h1).mpr (Or.inr ⟨k, rfl, by rw [k2]; exact y2⟩), ?_, ?_⟩
          · rw [R3, k2, q3]
          · rw [M3, k2, nl_ok_and]; exact ⟨y4, q4⟩
      · rintro ⟨q, q1, q2, q3, q4⟩
        rw [eN] at q1
        rcases (B1 p q h1).mp q2 with ⟨g1, g2⟩ | ⟨k, rfl, g2⟩
        · rw [R1 q g1] at q3
          rw [M1 q g1] at q4
          exact Or.inl ⟨q, g1, g2, q3, q4⟩
        · have hk : k < xs.length := by omega
          rw [R3] at q3
          rw [M3, nl_ok_and] at q4
          obtain ⟨c1, c2, c3, c4⟩ := x1 k hk
          have hal := a3 p _ h2 c1 g2
          exact Or.inr ⟨⟨r1 (np_x xs k).1, (np_D0_1 hr).mpr ((a6 p h2 _ l).mpr ⟨_, c1, g2, rfl, q4.1⟩), (a1 _ hal).2, (a4 _ hal).mp c3⟩, _, q3.symm, (b5 _ l).mpr ⟨_, c2, c4, rfl, q4.2⟩⟩
    · rw [R2 p h1 h2, nt_fuse_D2 _ _ _ (by omega), np_D0_2]
      constructor
      · rintro ⟨u, rfl, hu⟩
        obtain ⟨q, q1, q2, q3, q4⟩ := (b6 _ h3 u l).mp hu
        refine ⟨np_n U + q, by omega, (B2 p _ h1 h2).mpr ⟨by omega, by omega, by rw [Nat.add_sub_cancel_left]; exact q2⟩, ?_, ?_⟩
        · rw [R2 _ (by omega) (by omega), Nat.add_sub_cancel_left, q3]
        · rw [M2 _ (by omega) (by omega), Nat.add_sub_cancel_left]; exact q4
      · rintro ⟨q, q1, q2, q3, q4⟩
        obtain ⟨g1, g2, g3⟩ := (B2 p q h1 h2).mp q2
        rw [R2 q g1 g2] at q3
        rw [M2 q g1 g2] at q4
        exact ⟨_, q3.symm, (b6 _ h3 _ l).mpr ⟨q - np_n U, by omega, g3, rfl, q4⟩⟩
    · rw [R3, nt_fuse_D2 _ _ _ (by omega), np_D0_2]
      constructor
      · rintro ⟨u, rfl, hu⟩
        obtain ⟨q, q1, q2, q3, q4⟩ := (b6 _ (hxL k hk) u l).mp hu
        refine ⟨np_n U + q, by omega, (B3 k _).mpr ⟨by omega, by omega, by rw [Nat.add_sub_cancel_left]; exact q2⟩, ?_, ?_⟩
        · rw [R2 _ (by omega) (by omega), Nat.add_sub_cancel_left, q3]
        · rw [M2 _ (by omega) (by omega), Nat.add_sub_cancel_left]; exact q4
      · rintro ⟨q, q1, q2, q3, q4⟩
        obtain ⟨g1, g2, g3⟩ := (B3 k q).mp q2
        rw [R2 q g1 g2] at q3
        rw [M2 q g1 g2] at q4
        exact ⟨_, q3.symm, (b6 _ (hxL k hk) _ l).mpr ⟨q - np_n U, by omega, g3, rfl, q4⟩⟩
theorem np_and_s {U V : np_A} {A B : nt_A} (hU : np_sim U A) (hV : np_sim V B) : np_sim (np_and U V) (nt_and A B) := by
  obtain ⟨r1, L1, a1, a2, a3, a4, a5, a6, a7⟩ := hU
  obtain ⟨r2, L2, b1, b2, b3, b4, b5, b6, b7⟩ := hV
  have eN : np_n (np_and U V) = np_n U + np_n V + np_n U * np_n V := rfl
  have eD : ∀ p, p < np_n U + np_n V + np_n U * np_n V → np_n U + np_n V ≤ p → (p - (np_n U + np_n V)) / np_n V < np_n U ∧ (p - (np_n U + np_n V)) % np_n V < np_n V ∧ p = np_n U + np_n V + ((p - (np_n U + np_n V)) / np_n V * np_n V + (p - (np_n U + np_n V)) % np_n V) := fun p h1 h2 => by
    obtain ⟨d1, d2, d3⟩ := nt_div (n := np_n V) (m := np_n U) (z := p - (np_n U + np_n V)) (by omega)
    refine ⟨d2, d3, ?_⟩
    rw [Nat.div_add_mod']
    omega
  have eP : ∀ x y, x < np_n U → y < np_n V → np_n U + np_n V + (x * np_n V + y) < np_n U + np_n V + np_n U * np_n V ∧ (np_n U + np_n V + (x * np_n V + y) - (np_n U + np_n V)) / np_n V = x ∧ (np_n U + np_n V + (x * np_n V + y) - (np_n U + np_n V)) % np_n V = y := fun x y hx hy => by
    rw [Nat.add_sub_cancel_left]
    obtain ⟨d1, d2, d3⟩ := nt_pair (n := np_n V) (m := np_n U) hx hy
    exact ⟨by omega, d2, d3⟩
  -- states
  have eS : ∀ s u, s < nt_n A → u < nt_n B → nt_n A + nt_n B + (s * nt_n B + u) < nt_n A + nt_n B + nt_n A * nt_n B ∧ (nt_n A + nt_n B + (s * nt_n B + u) - (nt_n A + nt_n B)) / nt_n B = s ∧ (nt_n A + nt_n B + (s * nt_n B + u) - (nt_n A + nt_n B)) % nt_n B = u := fun x y hx hy => by
    rw [Nat.add_sub_cancel_left]
    obtain ⟨d1, d2, d3⟩ := nt_pair (n := nt_n B) (m := nt_n A) hx hy
    exact ⟨by omega, d2, d3⟩
  have eT : ∀ z, nt_n A + nt_n B ≤ z → z < nt_n A + nt_n B + nt_n A * nt_n B → z = nt_n A + nt_n B + ((z - (nt_n A + nt_n B)) / nt_n B * nt_n B + (z - (nt_n A + nt_n B)) % nt_n B) := fun z h1 h2 => by
    rw [Nat.div_add_mod']
    omega
  have F1 : ∀ x y, x < np_n U → y < np_n V → (np_F (np_and U V) (np_n U + np_n V + (x * np_n V + y)) = true ↔ np_F U x = true ∧ np_F V y = true) := fun x y hx hy => by
    show (if np_n U + np_n V + (x * np_n V + y) < np_n U + np_n V then false else np_F U ((np_n U + np_n V + (x * np_n V + y) - (np_n U + np_n V)) / np_n V) && np_F V ((np_n U + np_n V + (x * np_n V + y) - (np_n U + np_n V)) % np_n V)) = true ↔ _
    rw [if_neg (by omega), (eP x y hx hy).2.1, (eP x y hx hy).2.2, nt_and_b]
  have G1 : ∀ x y, x < np_n U → y < np_n V → (np_L (np_and U V) (np_n U + np_n V + (x * np_n V + y)) = true ↔ np_L U x = true ∧ np_L V y = true) := fun x y hx hy => by
    show (if np_n U + np_n V + (x * np_n V + y) < np_n U + np_n V then false else np_L U ((np_n U + np_n V + (x * np_n V + y) - (np_n U + np_n V)) / np_n V) && np_L V ((np_n U + np_n V + (x * np_n V + y) - (np_n U + np_n V)) % np_n V)) = true ↔ _
    rw [if_neg (by omega), (eP x y hx hy).2.1, (eP x y hx hy).2.2, nt_and_b]
  have M1 : ∀ x y l, x < np_n U → y < np_n V → (nl_ok (np_M (np_and U V) (np_n U + np_n V + (x * np_n V + y))) l ↔ nl_ok (np_M U x) l ∧ nl_ok (np_M V y) l) := fun x y l hx hy => by
    show nl_ok (if np_n U + np_n V + (x * np_n V + y) < np_n U + np_n V then _ else fun v => np_M U ((np_n U + np_n V + (x * np_n V + y) - (np_n U + np_n V)) / np_n V) v && np_M V ((np_n U + np_n V + (x * np_n V + y) - (np_n U + np_n V)) % np_n V) v) l ↔ _
    rw [if_neg (by omega), (eP x y hx hy).2.1, (eP x y hx hy).2.2, nl_ok_and]
  have B1 : ∀ x y q, x < np_n U → y < np_n V → (np_B (np_and U V) (np_n U + np_n V + (x * np_n V + y)) q = true ↔ np_n U + np_n V ≤ q ∧ np_B U x ((q - (np_n U + np_n V)) / np_n V) = true ∧ np_B V y ((q - (np_n U + np_n V)) % np_n V) = true) := fun x y q hx hy => by
    show (if np_n U + np_n V + (x * np_n V + y) < np_n U + np_n V then _ else if q < np_n U + np_n V then false else np_B U ((np_n U + np_n V + (x * np_n V + y) - (np_n U + np_n V)) / np_n V) ((q - (np_n U + np_n V)) / np_n V) && np_B V ((np_n U + np_n V + (x * np_n V + y) - (np_n U + np_n V)) % np_n V) ((q - (np_n U + np_n V)) % np_n V)) = true ↔ _
    rw [if_neg (by omega), (eP x y hx hy).2.1, (eP x y hx hy).2.2]
    by_cases hq : q < np_n U + np_n V
    · rw [if_pos hq]
      exact ⟨fun g => (by cases g), fun g => by omega⟩
    · rw [if_neg hq, nt_and_b]
      exact ⟨fun g => ⟨by omega, g⟩, fun g => g.2⟩
  refine ⟨fun p => nt_n A + nt_n B + (r1 ((p - (np_n U + np_n V)) / np_n V) * nt_n B + r2 ((p - (np_n U + np_n V)) % np_n V)), fun p => ∃ x y, x < np_n U ∧ y < np_n V ∧ p = np_n U + np_n V + (x * np_n V + y) ∧ L1 x ∧ L2 y, ?_, ?_, ?_, ?_, ?_, ?_, ?_⟩
  · rintro p ⟨x, y, hx, hy, rfl, h1, h2⟩
    obtain ⟨c1, c2, c3⟩ := eP x y hx hy
    refine ⟨c1, ?_⟩
    dsimp only
    rw [c2, c3]
    exact (eS _ _ (a1 x h1).2 (b1 y h2).2).1
  · intro p hp hf
    rw [eN] at hp
    by_cases h : p < np_n U + np_n V
    · have : np_F (np_and U V) p = false := if_pos h
      rw [this] at hf
      cases hf
    · obtain ⟨c1, c2, c3⟩ := eD p hp (by omega)
      rw [c3] at hf
      obtain ⟨f1, f2⟩ := (F1 _ _ c1 c2).mp hf
      exact ⟨_, _, c1, c2, c3, a2 _ c1 f1, b2 _ c2 f2⟩
  · rintro p q ⟨x, y, hx, hy, rfl, h1, h2⟩ hq hb
    rw [eN] at hq
    obtain ⟨g1, g2, g3⟩ := (B1 x y q hx hy).mp hb
    obtain ⟨c1, c2, c3⟩ := eD q hq g1
    exact ⟨_, _, c1, c2, c3, a3 x _ h1 c1 g2, b3 y _ h2 c2 g3⟩
  · rintro p ⟨x, y, hx, hy, rfl, h1, h2⟩
    obtain ⟨c1, c2, c3⟩ := eP x y hx hy
    obtain ⟨s1, s2, s3⟩ := eS _ _ (a1 x h1).2 (b1 y h2).2
    dsimp only
    rw [c2, c3, G1 x y hx hy, a4 x h1, b4 y h2]
    show _ ↔ (if nt_n A + nt_n B + (r1 x * nt_n B + r2 y) < nt_n A + nt_n B then false else nt_L A ((nt_n A + nt_n B + (r1 x * nt_n B + r2 y) - (nt_n A + nt_n B)) / nt_n B) && nt_L B ((nt_n A + nt_n B + (r1 x * nt_n B + r2 y) - (nt_n A + nt_n B)) % nt_n B)) = true
    rw [if_neg (by omega), s2, s3, nt_and_b]
  · intro s l
    rw [nt_and_h]
    constructor
    · rintro ⟨⟨q1, q2⟩, h1, h2⟩
      obtain ⟨u, hu, h3⟩ := np_hB.mp h2
      obtain ⟨x, x1, x2, x3, x4⟩ := (a5 _ l).mp h1
      obtain ⟨y, y1, y2, y3, y4⟩ := (b5 u l).mp h3
      obtain ⟨c1, c2, c3⟩ := eP x y x1 y1
      refine ⟨_, c1, (F1 x y x1 y1).mpr ⟨x2, y2⟩, ?_, (M1 x y l x1 y1).mpr ⟨x4, y4⟩⟩
      dsimp only
      rw [c2, c3, x3, y3, show u = (s - (nt_n A + nt_n B)) % nt_n B by omega]
      exact (eT s q1 q2).symm
    · rintro ⟨p, p1, p2, p3, p4⟩
      rw [eN] at p1
      by_cases h : p < np_n U + np_n V
      · have : np_F (np_and U V) p = false := if_pos h
        rw [this] at p2
        cases p2
      · obtain ⟨c1, c2, c3⟩ := eD p p1 (by omega)
        dsimp only at p3
        generalize (p - (np_n U + np_n V)) / np_n V = x at *
        generalize (p - (np_n U + np_n V)) % np_n V = y at *
        subst c3
        obtain ⟨f1, f2⟩ := (F1 x y c1 c2).mp p2
        obtain ⟨m1, m2⟩ := (M1 x y l c1 c2).mp p4
        obtain ⟨s1, s2, s3⟩ := eS _ _ (a1 x (a2 x c1 f1)).2 (b1 y (b2 y c2 f2)).2
        subst p3
        refine ⟨⟨by omega, s1⟩, ?_, ?_⟩
        · rw [s2]; exact (a5 _ l).mpr ⟨x, c1, f1, rfl, m1⟩
        · rw [s3]; exact np_hB.mpr ⟨_, rfl, (b5 _ l).mpr ⟨y, c2, f2, rfl, m2⟩⟩
  · rintro p ⟨x, y, hx, hy, rfl, h1, h2⟩ t l
    obtain ⟨c1, c2, c3⟩ := eP x y hx hy
    obtain ⟨s1, s2, s3⟩ := eS _ _ (a1 x h1).2 (b1 y h2).2
    dsimp only
    rw [c2, c3, nt_and_D (by omega) s1, s2, s3, a6 x h1, b6 y h2]
    constructor
    · rintro ⟨⟨t1, t2⟩, ⟨q, q1, q2, q3, q4⟩, ⟨u, u1, u2, u3, u4⟩⟩
      obtain ⟨d1, d2, d3⟩ := eP q u q1 u1
      refine ⟨_, d1, (B1 x y _ hx hy).mpr ⟨by omega, by rw [d2]; exact q2, by rw [d3]; exact u2⟩, ?_, (M1 q u l q1 u1).mpr ⟨q4, u4⟩⟩
      rw [d2, d3, q3, u3]
      exact (eT t t1 t2).symm
    · rintro ⟨q, q1, q2, q3, q4⟩
      rw [eN] at q1
      obtain ⟨g1, g2, g3⟩ := (B1 x y q hx hy).mp q2
      obtain ⟨d1, d2, d3⟩ := eD q q1 g1
      generalize (q - (np_n U + np_n V)) / np_n V = x2 at *
      generalize (q - (np_n U + np_n V)) % np_n V = y2 at *
      subst d3
      obtain ⟨m1, m2⟩ := (M1 x2 y2 l d1 d2).mp q4
      obtain ⟨e1, e2, e3⟩ := eS _ _ (a1 x2 (a3 x x2 h1 d1 g2)).2 (b1 y2 (b3 y y2 h2 d2 g3)).2
      subst q3
      exact ⟨⟨by omega, e1⟩, ⟨x2, d1, g2, e2.symm, m1⟩, ⟨y2, d2, g3, e3.symm, m2⟩⟩
  · show (np_e U && np_e V) = (nt_e A && nt_e B)
    rw [a7, b7]
