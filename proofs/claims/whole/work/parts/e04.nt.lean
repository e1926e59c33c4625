/-! ===== what is woven, as tables: states from 0 on ===== -/
/-- states; steps; their letters; letters of entry; first ones; last ones; of none -/
abbrev nt_A : Type := Nat × (Nat → Nat → Bool) × (Nat → Nat → Nat → Bool) × (Nat → Nat → Bool) × (Nat → Bool) × (Nat → Bool) × Bool
def nt_n (A : nt_A) : Nat := A.1
def nt_E (A : nt_A) : Nat → Nat → Bool := A.2.1
def nt_M (A : nt_A) : Nat → Nat → Nat → Bool := A.2.2.1
def nt_H (A : nt_A) : Nat → Nat → Bool := A.2.2.2.1
def nt_F (A : nt_A) : Nat → Bool := A.2.2.2.2.1
def nt_L (A : nt_A) : Nat → Bool := A.2.2.2.2.2.1
def nt_e (A : nt_A) : Bool := A.2.2.2.2.2.2
/-- a letter, or a wild one -/
def nl_ok (f : Nat → Bool) : Option Nat → Prop
  | none => True
  | some v => f v = true
def nt_D (A : nt_A) (s t : Nat) (l : Option Nat) : Prop := s < nt_n A ∧ t < nt_n A ∧ nt_E A s t = true ∧ nl_ok (nt_M A s t) l
def nt_h (A : nt_A) (s : Nat) (l : Option Nat) : Prop := s < nt_n A ∧ nt_F A s = true ∧ nl_ok (nt_H A s) l
def nt_f (A : nt_A) (s : Nat) : Prop := s < nt_n A ∧ nt_L A s = true
def nt_a (A : nt_A) (w : Nat → Option Nat) (i j : Nat) : Prop := na_a (nt_D A) (nt_h A) (nt_f A) (nt_e A = true) w i j
def nt_r (A : nt_A) (w : Nat → Option Nat) (i j : Nat) : Prop := na_r (nt_D A) (nt_h A) (nt_f A) w i j
/-- some state below n -/
def nt_any (n : Nat) (f : Nat → Bool) : Bool := (List.range n).any f
theorem nt_any_iff {n : Nat} {f : Nat → Bool} : nt_any n f = true ↔ ∃ z, z < n ∧ f z = true := by
  unfold nt_any
  rw [List.any_eq_true]
  constructor
  · rintro ⟨z, h1, h2⟩
    exact ⟨z, List.mem_range.mp h1, h2⟩
  · rintro ⟨z, h1, h2⟩
    exact ⟨z, List.mem_range.mpr h1, h2⟩
def nt_cond (m : Nat → Bool) : nt_A := (1, fun _ _ => false, fun _ _ _ => false, fun _ v => m v, fun _ => true, fun _ => true, false)
/-- two side by side -/
def nt_sE (A B : nt_A) (X : Nat → Nat → Bool) (s t : Nat) : Bool := if s < nt_n A then (if t < nt_n A then nt_E A s t else X s (t - nt_n A)) else if t < nt_n A then false else nt_E B (s - nt_n A) (t - nt_n A)
def nt_sM (A B : nt_A) (X : Nat → Nat → Nat → Bool) (s t : Nat) : Nat → Bool := if s < nt_n A then (if t < nt_n A then nt_M A s t else X s (t - nt_n A)) else nt_M B (s - nt_n A) (t - nt_n A)
def nt_sH (A B : nt_A) (s : Nat) : Nat → Bool := if s < nt_n A then nt_H A s else nt_H B (s - nt_n A)
def nt_chain (A B : nt_A) : nt_A := (nt_n A + nt_n B, nt_sE A B (fun s t => nt_L A s && nt_F B t), nt_sM A B (fun _ t v => nt_H B t v),
  nt_sH A B, fun s => if s < nt_n A then nt_F A s else nt_e A && nt_F B (s - nt_n A),
  fun s => if s < nt_n A then nt_e B && nt_L A s else nt_L B (s - nt_n A), nt_e A && nt_e B)
def nt_or (A B : nt_A) : nt_A := (nt_n A + nt_n B, nt_sE A B (fun _ _ => false), nt_sM A B (fun _ _ _ => false),
  nt_sH A B, fun s => if s < nt_n A then nt_F A s else nt_F B (s - nt_n A),
  fun s => if s < nt_n A then nt_L A s else nt_L B (s - nt_n A), nt_e A || nt_e B)
def nt_fuse (A B : nt_A) : nt_A := (nt_n A + nt_n B, nt_sE A B (fun s t => nt_any (nt_n A) (fun z => nt_E A s z && nt_L A z) && nt_F B t),
  nt_sM A B (fun s t v => nt_any (nt_n A) (fun z => nt_E A s z && nt_L A z && nt_M A s z v) && nt_H B t v),
  fun s => if s < nt_n A then nt_H A s else if nt_F B (s - nt_n A) = true then (fun v => nt_H B (s - nt_n A) v && nt_any (nt_n A) (fun z => nt_F A z && nt_L A z && nt_H A z v)) else nt_H B (s - nt_n A),
  fun s => if s < nt_n A then nt_F A s else nt_any (nt_n A) (fun z => nt_F A z && nt_L A z) && nt_F B (s - nt_n A),
  fun s => if s < nt_n A then false else nt_L B (s - nt_n A), false)
def nt_and (A B : nt_A) : nt_A := (nt_n A + nt_n B + nt_n A * nt_n B,
  fun s t => if s < nt_n A + nt_n B then (if t < nt_n A + nt_n B then nt_sE A B (fun _ _ => false) s t else false) else if t < nt_n A + nt_n B then false else
    nt_E A ((s - (nt_n A + nt_n B)) / nt_n B) ((t - (nt_n A + nt_n B)) / nt_n B) && nt_E B ((s - (nt_n A + nt_n B)) % nt_n B) ((t - (nt_n A + nt_n B)) % nt_n B),
  fun s t => if s < nt_n A + nt_n B then nt_sM A B (fun _ _ _ => false) s t else fun v =>
    nt_M A ((s - (nt_n A + nt_n B)) / nt_n B) ((t - (nt_n A + nt_n B)) / nt_n B) v && nt_M B ((s - (nt_n A + nt_n B)) % nt_n B) ((t - (nt_n A + nt_n B)) % nt_n B) v,
  fun s => if s < nt_n A + nt_n B then nt_sH A B s else fun v => nt_H A ((s - (nt_n A + nt_n B)) / nt_n B) v && nt_H B ((s - (nt_n A + nt_n B)) % nt_n B) v,
  fun s => if s < nt_n A + nt_n B then false else nt_F A ((s - (nt_n A + nt_n B)) / nt_n B) && nt_F B ((s - (nt_n A + nt_n B)) % nt_n B),
  fun s => if s < nt_n A + nt_n B then false else nt_L A ((s - (nt_n A + nt_n B)) / nt_n B) && nt_L B ((s - (nt_n A + nt_n B)) % nt_n B), nt_e A && nt_e B)
def nt_star (b : Bool) (A : nt_A) : nt_A := (nt_n A, fun s t => nt_E A s t || (nt_L A s && nt_F A t), fun s t v => (nt_E A s t && nt_M A s t v) || (nt_L A s && nt_F A t && nt_H A t v), nt_H A, nt_F A, nt_L A, nt_e A || b)
def nt_ls (A : nt_A) (lo : Nat) : Nat := if nt_e A = true then 0 else lo
def nt_times (lo hi : Nat) (A : nt_A) : nt_A := if hi = 0 then (nt_n A, nt_E A, nt_M A, nt_H A, fun _ => false, fun _ => false, true) else
  (nt_n A * hi, fun s t => if t / nt_n A = s / nt_n A then nt_E A (s % nt_n A) (t % nt_n A) else if t / nt_n A = s / nt_n A + 1 then nt_L A (s % nt_n A) && nt_F A (t % nt_n A) else false,
  fun s t => if t / nt_n A = s / nt_n A then nt_M A (s % nt_n A) (t % nt_n A) else nt_H A (t % nt_n A),
  fun s => nt_H A (s % nt_n A), fun s => decide (s < nt_n A) && nt_F A s, fun s => nt_L A (s % nt_n A) && decide (nt_ls A lo ≤ s / nt_n A + 1), decide (nt_ls A lo = 0))
def nt_S (n : Nat) (wb : Bool) : Nat := 2 * n + (if wb = true then 1 else 0)
def nt_count (n : Nat) (wb : Bool) (m : Nat → Bool) : nt_A := (nt_S n wb, fun s t => decide (t = 2 * ((s + 1) / 2)) || decide (t = 2 * ((s + 1) / 2) + 1), fun _ t => if t % 2 = 0 then (fun v => ! m v) else m,
  fun s => if s % 2 = 0 then (fun v => ! m v) else m, fun s => decide (s = 0) || decide (s = 1 ∧ 0 < n), fun s => decide ((s + 1) / 2 = n), decide (n = 0))
/-! ===== states moved ===== -/
theorem na_p_f {α : Type} {D D0 : Nat → Nat → α → Prop} {w : Nat → α} {f : Nat → Nat} {P : Nat → Prop} (hP : ∀ s t l, P s → D s t l → P t) (hD : ∀ s t l, P s → (D0 (f s) t l ↔ ∃ u, t = f u ∧ D s u l)) : ∀ n k s t, P s → (na_p D0 w n k (f s) t ↔ ∃ u, t = f u ∧ na_p D w n k s u)
  | 0, k, s, t, hs => by
    constructor
    · intro h
      have h : f s = t := h
      exact ⟨s, h.symm, rfl⟩
    · rintro ⟨u, h1, h2⟩
      have h2 : s = u := h2
      subst h2
      exact h1.symm
  | n + 1, k, s, t, hs => by
    constructor
    · rintro ⟨v, h1, h2⟩
      obtain ⟨u, rfl, g⟩ := (hD s v _ hs).mp h1
      obtain ⟨x, g1, g2⟩ := (na_p_f hP hD n (k + 1) u t (hP _ _ _ hs g)).mp h2
      exact ⟨x, g1, u, g, g2⟩
    · rintro ⟨x, g1, u, g, g2⟩
      exact ⟨f u, (hD s _ _ hs).mpr ⟨u, rfl, g⟩, (na_p_f hP hD n (k + 1) u t (hP _ _ _ hs g)).mpr ⟨x, g1, g2⟩⟩
theorem na_r_f {α : Type} {D D0 : Nat → Nat → α → Prop} {H H0 : Nat → α → Prop} {F F0 : Nat → Prop} {w : Nat → α} {f : Nat → Nat} {P : Nat → Prop} (hP : ∀ s t l, P s → D s t l → P t) (hD : ∀ s t l, P s → (D0 (f s) t l ↔ ∃ u, t = f u ∧ D s u l))
    (kP : ∀ s l, H s l → P s) (hH : ∀ s l, H0 s l ↔ ∃ u, s = f u ∧ H u l) (hF : ∀ s, P s → (F0 (f s) ↔ F s)) (i j : Nat) : na_r D0 H0 F0 w i j ↔ na_r D H F w i j := by
  constructor
  · rintro ⟨n, s, t, h1, h2, h3, h4⟩
    obtain ⟨u, rfl, g⟩ := (hH _ _).mp h2
    obtain ⟨x, rfl, g2⟩ := (na_p_f hP hD n (i + 1) u t (kP _ _ g)).mp h3
    have px := (na_p_in (P := P) (D := D) (D2 := D) (fun s t l hs h => ⟨hP s t l hs h, h⟩) n (i + 1) u x (kP _ _ g) g2).1
    exact ⟨n, u, x, h1, g, g2, (hF x px).mp h4⟩
  · rintro ⟨n, u, x, h1, g, g2, h4⟩
    have px := (na_p_in (P := P) (D := D) (D2 := D) (fun s t l hs h => ⟨hP s t l hs h, h⟩) n (i + 1) u x (kP _ _ g) g2).1
    exact ⟨n, f u, f x, h1, (hH _ _).mpr ⟨u, rfl, g⟩, (na_p_f hP hD n (i + 1) u _ (kP _ _ g)).mpr ⟨x, rfl, g2⟩, (hF x px).mpr h4⟩
theorem na_r_cong {α : Type} {D D0 : Nat → Nat → α → Prop} {H H0 : Nat → α → Prop} {F F0 : Nat → Prop} {w : Nat → α} (hD : ∀ s t l, D0 s t l ↔ D s t l) (hH : ∀ s l, H0 s l ↔ H s l) (hF : ∀ s, F0 s ↔ F s) (i j : Nat) : na_r D0 H0 F0 w i j ↔ na_r D H F w i j :=
  na_r_f (f := id) (P := fun _ => True) (fun _ _ _ _ _ => trivial) (fun s t l _ => ⟨fun h => ⟨t, rfl, (hD _ _ _).mp h⟩, fun ⟨u, h1, h2⟩ => (hD _ _ _).mpr (by subst h1; exact h2)⟩) (fun _ _ _ => trivial) (fun s l => ⟨fun h => ⟨s, rfl, (hH _ _).mp h⟩, fun ⟨u, h1, h2⟩ => (hH _ _).mpr (by subst h1; exact h2)⟩) (fun s _ => hF s) i j
theorem na_a_of {α : Type} {D D0 : Nat → Nat → α → Prop} {H H0 : Nat → α → Prop} {F F0 : Nat → Prop} {e : Prop} {w : Nat → α} {i j : Nat} (h : na_r D0 H0 F0 w i j ↔ na_r D H F w i j) : na_a D0 H0 F0 e w i j ↔ na_a D H F e w i j := by
  unfold na_a
  rw [h]
/-- two side by side, apart -/
def nt_D0 (A B : nt_A) (s t : Nat) (l : Option Nat) : Prop := nt_D A s t l ∨ (nt_n A ≤ s ∧ nt_n A ≤ t ∧ nt_D B (s - nt_n A) (t - nt_n A) l)
def nt_hB (A B : nt_A) (s : Nat) (l : Option Nat) : Prop := nt_n A ≤ s ∧ nt_h B (s - nt_n A) l
def nt_fB (A B : nt_A) (s : Nat) : Prop := nt_n A ≤ s ∧ nt_f B (s - nt_n A)
theorem nt_left (A B : nt_A) (w : Nat → Option Nat) (i j : Nat) : na_r (nt_D0 A B) (nt_h A) (nt_f A) w i j ↔ nt_r A w i j := by
  refine na_r_f (f := id) (P := fun s => s < nt_n A) (fun s t l _ h => h.2.1) (fun s t l hs => ⟨fun h => ⟨t, rfl, h.elim id (fun z => by have := z.1; simp only [id] at this; omega)⟩, fun ⟨u, h1, h2⟩ => Or.inl (by subst h1; exact h2)⟩) (fun s l h => h.1) (fun s l => ⟨fun h => ⟨s, rfl, h⟩, fun ⟨u, h1, h2⟩ => by subst h1; exact h2⟩) (fun s _ => Iff.rfl) i j
theorem nt_right (A B : nt_A) (w : Nat → Option Nat) (i j : Nat) : na_r (nt_D0 A B) (nt_hB A B) (nt_fB A B) w i j ↔ nt_r B w i j := by
  have g1 : ∀ s t l, s < nt_n B → (nt_D0 A B (s + nt_n A) t l ↔ ∃ u, t = u + nt_n A ∧ nt_D B s u l) := by
    intro s t l hs
    constructor
    · rintro (h | ⟨h1, h2, h3⟩)
      · have := h.1
        omega
      · refine ⟨t - nt_n A, by omega, ?_⟩
        rw [Nat.add_sub_cancel] at h3
        exact h3
    · rintro ⟨u, rfl, h2⟩
      refine Or.inr ⟨by omega, by omega, ?_⟩
      rw [Nat.add_sub_cancel, Nat.add_sub_cancel]
      exact h2
  have g2 : ∀ s l, nt_hB A B s l ↔ ∃ u, s = u + nt_n A ∧ nt_h B u l := by
    intro s l
    constructor
    · rintro ⟨h1, h2⟩
      exact ⟨s - nt_n A, by omega, h2⟩
    · rintro ⟨u, rfl, h2⟩
      refine ⟨by omega, ?_⟩
      rw [Nat.add_sub_cancel]
      exact h2
  have g3 : ∀ s, s < nt_n B → (nt_fB A B (s + nt_n A) ↔ nt_f B s) := by
    intro s _
    unfold nt_fB
    rw [Nat.add_sub_cancel]
    exact ⟨fun h => h.2, fun h => ⟨by omega, h⟩⟩
  exact na_r_f (f := fun s => s + nt_n A) (P := fun s => s < nt_n B) (fun s t l _ h => h.2.1) g1 (fun s l h => h.1) g2 g3 i j
