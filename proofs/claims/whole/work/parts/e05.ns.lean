/-! ===== rows of what is woven ===== -/
section NS
variable {A B : nt_A} {w : Nat → Option Nat}
theorem nt_side {O : nt_A} {X : Nat → Nat → Bool} {Y : Nat → Nat → Nat → Bool} (hn : nt_n O = nt_n A + nt_n B) (hE : ∀ s t, nt_E O s t = nt_sE A B X s t) (hM : ∀ s t, nt_M O s t = nt_sM A B Y s t) (s t : Nat) (l : Option Nat) :
    (s < nt_n A → (nt_D O s t l ↔ nt_D0 A B s t l ∨ (nt_n A ≤ t ∧ t - nt_n A < nt_n B ∧ X s (t - nt_n A) = true ∧ nl_ok (Y s (t - nt_n A)) l))) ∧ (nt_n A ≤ s → (nt_D O s t l ↔ nt_D0 A B s t l)) := by
  unfold nt_D
  rw [hn, hE, hM]
  unfold nt_sE nt_sM
  constructor
  · intro hs
    rw [if_pos hs, if_pos hs]
    by_cases ht : t < nt_n A
    · rw [if_pos ht, if_pos ht]
      constructor
      · rintro ⟨_, _, h3, h4⟩
        exact Or.inl (Or.inl ⟨hs, ht, h3, h4⟩)
      · rintro ((⟨_, _, h3, h4⟩ | ⟨h, _⟩) | ⟨h, _⟩)
        · exact ⟨by omega, by omega, h3, h4⟩
        · omega
        · omega
    · rw [if_neg ht, if_neg ht]
      constructor
      · rintro ⟨_, h2, h3, h4⟩
        exact Or.inr ⟨by omega, by omega, h3, h4⟩
      · rintro ((⟨_, h, _⟩ | ⟨h, _⟩) | ⟨h1, h2, h3, h4⟩)
        · omega
        · omega
        · exact ⟨by omega, by omega, h3, h4⟩
  · intro hs
    have hs1 : ¬ s < nt_n A := by omega
    rw [if_neg hs1, if_neg hs1]
    by_cases ht : t < nt_n A
    · rw [if_pos ht]
      constructor
      · rintro ⟨_, _, h3, _⟩
        cases h3
      · rintro (⟨h, _⟩ | ⟨_, h, _⟩)
        · omega
        · omega
    · rw [if_neg ht]
      constructor
      · rintro ⟨h1, h2, h3, h4⟩
        exact Or.inr ⟨hs, by omega, by omega, by omega, h3, h4⟩
      · rintro (⟨h, _⟩ | ⟨_, _, h1, h2, h3, h4⟩)
        · omega
        · exact ⟨by omega, by omega, h3, h4⟩
theorem nt_D0_1 : ∀ s t l, s < nt_n A → nt_D0 A B s t l → t < nt_n A := by
  rintro s t l hs (h | ⟨h, _⟩)
  · exact h.2.1
  · omega
theorem nt_D0_2 : ∀ s t l, nt_n A ≤ s → nt_D0 A B s t l → nt_n A ≤ t := by
  rintro s t l hs (h | ⟨_, h, _⟩)
  · have := h.1
    omega
  · exact h
theorem nt_a_left {e : Prop} {i j : Nat} : na_a (nt_D0 A B) (nt_h A) (nt_f A) e w i j ↔ na_a (nt_D A) (nt_h A) (nt_f A) e w i j := na_a_of (nt_left A B w i j)
theorem nt_a_right {e : Prop} {i j : Nat} : na_a (nt_D0 A B) (nt_hB A B) (nt_fB A B) e w i j ↔ na_a (nt_D B) (nt_h B) (nt_f B) e w i j := na_a_of (nt_right A B w i j)
theorem nt_and_b {a b : Bool} : (a && b) = true ↔ a = true ∧ b = true := by cases a <;> cases b <;> decide
theorem nt_or_b {a b : Bool} : (a || b) = true ↔ a = true ∨ b = true := by cases a <;> cases b <;> decide
theorem nt_chain_D1 : ∀ s t l, s < nt_n A → (nt_D (nt_chain A B) s t l ↔ nt_D0 A B s t l ∨ (nt_f A s ∧ nt_hB A B t l)) := by
  intro s t l hs
  rw [(nt_side (O := nt_chain A B) (X := fun s t => nt_L A s && nt_F B t) (Y := fun _ t v => nt_H B t v) rfl (fun _ _ => rfl) (fun _ _ => rfl) s t l).1 hs]
  unfold nt_f nt_hB nt_h
  rw [nt_and_b]
  constructor
  · rintro (h | ⟨h1, h2, ⟨h3, h4⟩, h5⟩)
    · exact Or.inl h
    · exact Or.inr ⟨⟨hs, h3⟩, h1, h2, h4, h5⟩
  · rintro (h | ⟨⟨_, h3⟩, h1, h2, h4, h5⟩)
    · exact Or.inl h
    · exact Or.inr ⟨h1, h2, ⟨h3, h4⟩, h5⟩
theorem nt_chain_D2 : ∀ s t l, nt_n A ≤ s → (nt_D (nt_chain A B) s t l ↔ nt_D0 A B s t l) := fun s t l hs => (nt_side (O := nt_chain A B) (X := fun s t => nt_L A s && nt_F B t) (Y := fun _ t v => nt_H B t v) rfl (fun _ _ => rfl) (fun _ _ => rfl) s t l).2 hs
theorem nt_chain_h : ∀ s l, nt_h (nt_chain A B) s l ↔ nt_h A s l ∨ (nt_e A = true ∧ nt_hB A B s l) := by
  intro s l
  show s < nt_n A + nt_n B ∧ (if s < nt_n A then nt_F A s else nt_e A && nt_F B (s - nt_n A)) = true ∧ nl_ok (nt_sH A B s) l ↔ _
  unfold nt_sH nt_hB nt_h
  by_cases hs : s < nt_n A
  · rw [if_pos hs, if_pos hs]
    constructor
    · rintro ⟨_, h2, h3⟩
      exact Or.inl ⟨hs, h2, h3⟩
    · rintro (⟨_, h2, h3⟩ | ⟨_, h, _⟩)
      · exact ⟨by omega, h2, h3⟩
      · omega
  · rw [if_neg hs, if_neg hs, nt_and_b]
    constructor
    · rintro ⟨h1, ⟨h2, h3⟩, h4⟩
      exact Or.inr ⟨h2, by omega, by omega, h3, h4⟩
    · rintro (⟨h, _⟩ | ⟨h2, _, h1, h3, h4⟩)
      · omega
      · exact ⟨by omega, ⟨h2, h3⟩, h4⟩
theorem nt_chain_f : ∀ s, nt_f (nt_chain A B) s ↔ nt_fB A B s ∨ (nt_e B = true ∧ nt_f A s) := by
  intro s
  show s < nt_n A + nt_n B ∧ (if s < nt_n A then nt_e B && nt_L A s else nt_L B (s - nt_n A)) = true ↔ _
  unfold nt_fB nt_f
  by_cases hs : s < nt_n A
  · rw [if_pos hs, nt_and_b]
    constructor
    · rintro ⟨_, h2, h3⟩
      exact Or.inr ⟨h2, hs, h3⟩
    · rintro (⟨h, _⟩ | ⟨h1, h2, h3⟩)
      · omega
      · exact ⟨by omega, h1, h3⟩
  · rw [if_neg hs]
    constructor
    · rintro ⟨h1, h2⟩
      exact Or.inl ⟨by omega, by omega, h2⟩
    · rintro (⟨h, h1, h2⟩ | ⟨h1, h2, h3⟩)
      · exact ⟨by omega, h2⟩
      · omega
theorem nt_chain_a (i j : Nat) : nt_a (nt_chain A B) w i j ↔ ∃ k, nt_a A w i k ∧ nt_a B w k j := by
  unfold nt_a
  rw [na_chain (D := nt_D0 A B) (D2 := nt_D (nt_chain A B)) (P1 := fun s => s < nt_n A) (P2 := fun s => nt_n A ≤ s) (H1 := nt_h A) (H2 := nt_hB A B) (H3 := nt_h (nt_chain A B)) (F1 := nt_f A) (F2 := nt_fB A B) (F3 := nt_f (nt_chain A B)) (e := nt_e (nt_chain A B) = true) (e1 := nt_e A = true) (e2 := nt_e B = true) (fun s h1 h2 => by omega) nt_D0_1 nt_D0_2 (fun s l h => h.1) (fun s l h => h.1) (fun s h => h.1) (fun s h => h.1) nt_chain_D1 nt_chain_D2 nt_chain_h nt_chain_f nt_and_b i j]
  constructor
  · rintro ⟨k, h1, h2⟩
    exact ⟨k, nt_a_left.mp h1, nt_a_right.mp h2⟩
  · rintro ⟨k, h1, h2⟩
    exact ⟨k, nt_a_left.mpr h1, nt_a_right.mpr h2⟩
theorem nt_or_D : ∀ s t l, nt_D (nt_or A B) s t l ↔ nt_D0 A B s t l := by
  intro s t l
  by_cases hs : s < nt_n A
  · rw [(nt_side (O := nt_or A B) (X := fun _ _ => false) (Y := fun _ _ _ => false) rfl (fun _ _ => rfl) (fun _ _ => rfl) s t l).1 hs]
    constructor
    · rintro (h | ⟨_, _, h, _⟩)
      · exact h
      · cases h
    · exact Or.inl
  · exact (nt_side (O := nt_or A B) (X := fun _ _ => false) (Y := fun _ _ _ => false) rfl (fun _ _ => rfl) (fun _ _ => rfl) s t l).2 (by omega)
theorem nt_or_h : ∀ s l, nt_h (nt_or A B) s l ↔ nt_h A s l ∨ nt_hB A B s l := by
  intro s l
  show s < nt_n A + nt_n B ∧ (if s < nt_n A then nt_F A s else nt_F B (s - nt_n A)) = true ∧ nl_ok (nt_sH A B s) l ↔ _
  unfold nt_sH nt_hB nt_h
  by_cases hs : s < nt_n A
  · rw [if_pos hs, if_pos hs]
    constructor
    · rintro ⟨_, h2, h3⟩
      exact Or.inl ⟨hs, h2, h3⟩
    · rintro (⟨_, h2, h3⟩ | ⟨h, _⟩)
      · exact ⟨by omega, h2, h3⟩
      · omega
  · rw [if_neg hs, if_neg hs]
    constructor
    · rintro ⟨h1, h2, h4⟩
      exact Or.inr ⟨by omega, by omega, h2, h4⟩
    · rintro (⟨h, _⟩ | ⟨_, h1, h3, h4⟩)
      · omega
      · exact ⟨by omega, h3, h4⟩
theorem nt_or_f : ∀ s, nt_f (nt_or A B) s ↔ nt_f A s ∨ nt_fB A B s := by
  intro s
  show s < nt_n A + nt_n B ∧ (if s < nt_n A then nt_L A s else nt_L B (s - nt_n A)) = true ↔ _
  unfold nt_fB nt_f
  by_cases hs : s < nt_n A
  · rw [if_pos hs]
    constructor
    · rintro ⟨_, h2⟩
      exact Or.inl ⟨hs, h2⟩
    · rintro (⟨h, h2⟩ | ⟨h1, _⟩)
      · exact ⟨by omega, h2⟩
      · omega
  · rw [if_neg hs]
    constructor
    · rintro ⟨h1, h2⟩
      exact Or.inr ⟨by omega, by omega, h2⟩
    · rintro (⟨h, _⟩ | ⟨_, h1, h2⟩)
      · omega
      · exact ⟨by omega, h2⟩
theorem nt_or_a (i j : Nat) : nt_a (nt_or A B) w i j ↔ nt_a A w i j ∨ nt_a B w i j := by
  unfold nt_a
  rw [na_a_of (na_r_cong nt_or_D (fun _ _ => Iff.rfl) (fun _ => Iff.rfl) i j)]
  rw [na_or (D := nt_D0 A B) (P1 := fun s => s < nt_n A) (P2 := fun s => nt_n A ≤ s) (H1 := nt_h A) (H2 := nt_hB A B) (H3 := nt_h (nt_or A B)) (F1 := nt_f A) (F2 := nt_fB A B) (F3 := nt_f (nt_or A B)) (e := nt_e (nt_or A B) = true) (e1 := nt_e A = true) (e2 := nt_e B = true) (fun s h1 h2 => by omega) nt_D0_1 nt_D0_2 (fun s l h => h.1) (fun s l h => h.1) (fun s h => h.1) (fun s h => h.1) nt_or_h nt_or_f nt_or_b i j, nt_a_left, nt_a_right]
theorem nt_fuse_x {s : Nat} {l : Option Nat} {m : Nat → Bool} : (nt_any (nt_n A) (fun z => nt_E A s z && nt_L A z) = true ∧ nl_ok (fun v => nt_any (nt_n A) (fun z => nt_E A s z && nt_L A z && nt_M A s z v) && m v) l) ↔ ((∃ z, z < nt_n A ∧ nt_E A s z = true ∧ nl_ok (nt_M A s z) l ∧ nt_L A z = true) ∧ nl_ok m l) := by
  cases l with
  | none =>
    rw [nt_any_iff]
    constructor
    · rintro ⟨⟨z, h1, h2⟩, _⟩
      exact ⟨⟨z, h1, (nt_and_b.mp h2).1, trivial, (nt_and_b.mp h2).2⟩, trivial⟩
    · rintro ⟨⟨z, h1, h2, _, h3⟩, _⟩
      exact ⟨⟨z, h1, nt_and_b.mpr ⟨h2, h3⟩⟩, trivial⟩
  | some v =>
    show _ ∧ (nt_any (nt_n A) (fun z => nt_E A s z && nt_L A z && nt_M A s z v) && m v) = true ↔ (∃ z, z < nt_n A ∧ nt_E A s z = true ∧ nt_M A s z v = true ∧ nt_L A z = true) ∧ m v = true
    rw [nt_and_b, nt_any_iff, nt_any_iff]
    constructor
    · rintro ⟨_, ⟨z, h1, h2⟩, h3⟩
      rw [nt_and_b, nt_and_b] at h2
      exact ⟨⟨z, h1, h2.1.1, h2.2, h2.1.2⟩, h3⟩
    · rintro ⟨⟨z, h1, h2, h3, h4⟩, h5⟩
      exact ⟨⟨z, h1, nt_and_b.mpr ⟨h2, h4⟩⟩, ⟨z, h1, nt_and_b.mpr ⟨nt_and_b.mpr ⟨h2, h4⟩, h3⟩⟩, h5⟩
theorem nt_fuse_h {l : Option Nat} {m : Nat → Bool} : (nt_any (nt_n A) (fun z => nt_F A z && nt_L A z) = true ∧ nl_ok (fun v => m v && nt_any (nt_n A) (fun z => nt_F A z && nt_L A z && nt_H A z v)) l) ↔ ((∃ z, z < nt_n A ∧ nt_F A z = true ∧ nl_ok (nt_H A z) l ∧ nt_L A z = true) ∧ nl_ok m l) := by
  cases l with
  | none =>
    rw [nt_any_iff]
    constructor
    · rintro ⟨⟨z, h1, h2⟩, _⟩
      exact ⟨⟨z, h1, (nt_and_b.mp h2).1, trivial, (nt_and_b.mp h2).2⟩, trivial⟩
    · rintro ⟨⟨z, h1, h2, _, h3⟩, _⟩
      exact ⟨⟨z, h1, nt_and_b.mpr ⟨h2, h3⟩⟩, trivial⟩
  | some v =>
    show _ ∧ (m v && nt_any (nt_n A) (fun z => nt_F A z && nt_L A z && nt_H A z v)) = true ↔ (∃ z, z < nt_n A ∧ nt_F A z = true ∧ nt_H A z v = true ∧ nt_L A z = true) ∧ m v = true
    rw [nt_and_b, nt_any_iff, nt_any_iff]
    constructor
    · rintro ⟨_, h3, ⟨z, h1, h2⟩⟩
      rw [nt_and_b, nt_and_b] at h2
      exact ⟨⟨z, h1, h2.1.1, h2.2, h2.1.2⟩, h3⟩
    · rintro ⟨⟨z, h1, h2, h3, h4⟩, h5⟩
      exact ⟨⟨z, h1, nt_and_b.mpr ⟨h2, h4⟩⟩, h5, ⟨z, h1, nt_and_b.mpr ⟨nt_and_b.mpr ⟨h2, h4⟩, h3⟩⟩⟩
theorem nt_fuse_f : ∀ s, nt_f (nt_fuse A B) s ↔ nt_fB A B s := by
  intro s
  show s < nt_n A + nt_n B ∧ (if s < nt_n A then false else nt_L B (s - nt_n A)) = true ↔ nt_n A ≤ s ∧ s - nt_n A < nt_n B ∧ nt_L B (s - nt_n A) = true
  by_cases hs : s < nt_n A
  · rw [if_pos hs]
    constructor
    · rintro ⟨_, h⟩
      cases h
    · rintro ⟨h, _⟩
      omega
  · rw [if_neg hs]
    constructor
    · rintro ⟨h1, h2⟩
      exact ⟨by omega, by omega, h2⟩
    · rintro ⟨h1, h2, h3⟩
      exact ⟨by omega, h3⟩
theorem nt_fuse_D1 : ∀ s t l, s < nt_n A → (nt_D (nt_fuse A B) s t l ↔ nt_D0 A B s t l ∨ ((∃ z, nt_D0 A B s z l ∧ nt_f A z) ∧ nt_hB A B t l)) := by
  intro s t l hs
  rw [(nt_side (O := nt_fuse A B) (X := fun s t => nt_any (nt_n A) (fun z => nt_E A s z && nt_L A z) && nt_F B t) (Y := fun s t v => nt_any (nt_n A) (fun z => nt_E A s z && nt_L A z && nt_M A s z v) && nt_H B t v) rfl (fun _ _ => rfl) (fun _ _ => rfl) s t l).1 hs, nt_and_b]
  constructor
  · rintro (h | ⟨h1, h2, ⟨h3, h4⟩, h5⟩)
    · exact Or.inl h
    · obtain ⟨⟨z, z1, z2, z3, z4⟩, h6⟩ := nt_fuse_x.mp ⟨h3, h5⟩
      exact Or.inr ⟨⟨z, Or.inl ⟨hs, z1, z2, z3⟩, z1, z4⟩, h1, h2, h4, h6⟩
  · rintro (h | ⟨⟨z, z1 | ⟨z1, _⟩, z2, z3⟩, h1, h2, h4, h6⟩)
    · exact Or.inl h
    · obtain ⟨_, _, y3, y4⟩ := z1
      obtain ⟨h3, h5⟩ := nt_fuse_x.mpr ⟨⟨z, z2, y3, y4, z3⟩, h6⟩
      exact Or.inr ⟨h1, h2, ⟨h3, h4⟩, h5⟩
    · omega
theorem nt_fuse_D2 : ∀ s t l, nt_n A ≤ s → (nt_D (nt_fuse A B) s t l ↔ nt_D0 A B s t l) := fun s t l hs => (nt_side (O := nt_fuse A B) (X := fun s t => nt_any (nt_n A) (fun z => nt_E A s z && nt_L A z) && nt_F B t) (Y := fun s t v => nt_any (nt_n A) (fun z => nt_E A s z && nt_L A z && nt_M A s z v) && nt_H B t v) rfl (fun _ _ => rfl) (fun _ _ => rfl) s t l).2 hs
theorem nt_fuse_hh : ∀ s l, nt_h (nt_fuse A B) s l ↔ nt_h A s l ∨ ((∃ z, nt_h A z l ∧ nt_f A z) ∧ nt_hB A B s l) := by
  intro s l
  show s < nt_n A + nt_n B ∧ (if s < nt_n A then nt_F A s else nt_any (nt_n A) (fun z => nt_F A z && nt_L A z) && nt_F B (s - nt_n A)) = true ∧ nl_ok (if s < nt_n A then nt_H A s else if nt_F B (s - nt_n A) = true then (fun v => nt_H B (s - nt_n A) v && nt_any (nt_n A) (fun z => nt_F A z && nt_L A z && nt_H A z v)) else nt_H B (s - nt_n A)) l ↔ _
  by_cases hs : s < nt_n A
  · rw [if_pos hs, if_pos hs]
    constructor
    · rintro ⟨_, h2, h3⟩
      exact Or.inl ⟨hs, h2, h3⟩
    · rintro (⟨_, h2, h3⟩ | ⟨_, h, _⟩)
      · exact ⟨by omega, h2, h3⟩
      · omega
  · rw [if_neg hs, if_neg hs, nt_and_b]
    constructor
    · rintro ⟨h1, ⟨h2, h3⟩, h4⟩
      rw [if_pos h3] at h4
      obtain ⟨⟨z, z1, z2, z3, z4⟩, h6⟩ := nt_fuse_h.mp ⟨h2, h4⟩
      exact Or.inr ⟨⟨z, ⟨z1, z2, z3⟩, z1, z4⟩, by omega, by omega, h3, h6⟩
    · rintro (⟨h, _⟩ | ⟨⟨z, ⟨z1, z2, z3⟩, _, z4⟩, _, h1, h3, h6⟩)
      · omega
      · obtain ⟨h2, h4⟩ := nt_fuse_h.mpr ⟨⟨z, z1, z2, z3, z4⟩, h6⟩
        refine ⟨by omega, ⟨h2, h3⟩, ?_⟩
        rw [if_pos h3]
        exact h4
theorem nt_fuse_a (i j : Nat) : nt_a (nt_fuse A B) w i j ↔ ∃ k, i ≤ k ∧ nt_a A w i (k + 1) ∧ nt_r B w k j := by
  unfold nt_a
  rw [na_a_of (na_r_cong (fun _ _ _ => Iff.rfl) (fun _ _ => Iff.rfl) nt_fuse_f i j)]
  have he : (nt_e (nt_fuse A B) = true) = False := eq_false (fun h => by cases h)
  rw [he, na_fuse (D := nt_D0 A B) (D2 := nt_D (nt_fuse A B)) (P1 := fun s => s < nt_n A) (P2 := fun s => nt_n A ≤ s) (H1 := nt_h A) (H2 := nt_hB A B) (H3 := nt_h (nt_fuse A B)) (F1 := nt_f A) (F2 := nt_fB A B) (e1 := nt_e A = true) (fun s h1 h2 => by omega) nt_D0_1 nt_D0_2 (fun s l h => h.1) (fun s l h => h.1) (fun s h => h.1) nt_fuse_D1 nt_fuse_D2 nt_fuse_hh i j]
  constructor
  · rintro ⟨k, h0, h1, h2⟩
    exact ⟨k, h0, nt_a_left.mp h1, (nt_right A B w k j).mp h2⟩
  · rintro ⟨k, h0, h1, h2⟩
    exact ⟨k, h0, nt_a_left.mpr h1, (nt_right A B w k j).mpr h2⟩
end NS
