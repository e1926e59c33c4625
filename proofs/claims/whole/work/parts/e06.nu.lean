/-! ===== rows of what is woven: of both, repeated, counted ===== -/
section NU
variable {A B : nt_A} {w : Nat → Option Nat}
theorem nl_ok_and {f g : Nat → Bool} {l : Option Nat} : nl_ok (fun v => f v && g v) l ↔ nl_ok f l ∧ nl_ok g l := by
  cases l with
  | none => exact ⟨fun _ => ⟨trivial, trivial⟩, fun _ => trivial⟩
  | some v => exact nt_and_b
theorem nt_div {n m z : Nat} (h : z < m * n) : 0 < n ∧ z / n < m ∧ z % n < n := by
  have hn : 0 < n := by
    rcases Nat.eq_zero_or_pos n with e | e
    · rw [e, Nat.mul_zero] at h; omega
    · exact e
  exact ⟨hn, (Nat.div_lt_iff_lt_mul hn).mpr h, Nat.mod_lt _ hn⟩
theorem nt_pair {n m x y : Nat} (hx : x < m) (hy : y < n) : x * n + y < m * n ∧ (x * n + y) / n = x ∧ (x * n + y) % n = y := by
  have h1 : x * n + n ≤ m * n := by
    have := Nat.mul_le_mul_right n (show x + 1 ≤ m from hx)
    rw [Nat.add_mul, Nat.one_mul] at this
    exact this
  refine ⟨by omega, ?_, ?_⟩
  · rw [Nat.add_comm, Nat.add_mul_div_right _ _ (by omega), Nat.div_eq_of_lt hy, Nat.zero_add]
  · rw [Nat.add_comm, Nat.add_mul_mod_self_right, Nat.mod_eq_of_lt hy]
theorem nt_and_D {s t : Nat} {l : Option Nat} (hs : nt_n A + nt_n B ≤ s) (hs2 : s < nt_n A + nt_n B + nt_n A * nt_n B) : nt_D (nt_and A B) s t l ↔ (nt_n A + nt_n B ≤ t ∧ t < nt_n A + nt_n B + nt_n A * nt_n B) ∧ nt_D A ((s - (nt_n A + nt_n B)) / nt_n B) ((t - (nt_n A + nt_n B)) / nt_n B) l ∧ nt_D B ((s - (nt_n A + nt_n B)) % nt_n B) ((t - (nt_n A + nt_n B)) % nt_n B) l := by
  obtain ⟨d1, d2, d3⟩ := nt_div (n := nt_n B) (m := nt_n A) (z := s - (nt_n A + nt_n B)) (by omega)
  have e1 : nt_E (nt_and A B) s t = if t < nt_n A + nt_n B then false else nt_E A ((s - (nt_n A + nt_n B)) / nt_n B) ((t - (nt_n A + nt_n B)) / nt_n B) && nt_E B ((s - (nt_n A + nt_n B)) % nt_n B) ((t - (nt_n A + nt_n B)) % nt_n B) := by
    show (if s < nt_n A + nt_n B then _ else _) = _
    rw [if_neg (by omega)]
  have e2 : nt_M (nt_and A B) s t = fun v => nt_M A ((s - (nt_n A + nt_n B)) / nt_n B) ((t - (nt_n A + nt_n B)) / nt_n B) v && nt_M B ((s - (nt_n A + nt_n B)) % nt_n B) ((t - (nt_n A + nt_n B)) % nt_n B) v := by
    show (if s < nt_n A + nt_n B then _ else _) = _
    rw [if_neg (by omega)]
  have e0 : nt_n (nt_and A B) = nt_n A + nt_n B + nt_n A * nt_n B := rfl
  unfold nt_D
  rw [e1, e2, nl_ok_and, e0]
  constructor
  · rintro ⟨_, h2, h3, h4, h5⟩
    by_cases ht : t < nt_n A + nt_n B
    · rw [if_pos ht] at h3
      cases h3
    · rw [if_neg ht, nt_and_b] at h3
      obtain ⟨c1, c2, c3⟩ := nt_div (n := nt_n B) (m := nt_n A) (z := t - (nt_n A + nt_n B)) (by omega)
      exact ⟨⟨by omega, h2⟩, ⟨d2, c2, h3.1, h4⟩, ⟨d3, c3, h3.2, h5⟩⟩
  · rintro ⟨⟨t1, t2⟩, ⟨_, _, h3, h4⟩, ⟨_, _, h5, h6⟩⟩
    refine ⟨hs2, t2, ?_, h4, h6⟩
    rw [if_neg (by omega), nt_and_b]
    exact ⟨h3, h5⟩
theorem nt_and_h : ∀ z l, nt_h (nt_and A B) z l ↔ (nt_n A + nt_n B ≤ z ∧ z < nt_n A + nt_n B + nt_n A * nt_n B) ∧ nt_h A ((z - (nt_n A + nt_n B)) / nt_n B) l ∧ nt_hB A B (nt_n A + (z - (nt_n A + nt_n B)) % nt_n B) l := by
  intro z l
  show z < nt_n A + nt_n B + nt_n A * nt_n B ∧ (if z < nt_n A + nt_n B then false else nt_F A ((z - (nt_n A + nt_n B)) / nt_n B) && nt_F B ((z - (nt_n A + nt_n B)) % nt_n B)) = true ∧ nl_ok (if z < nt_n A + nt_n B then nt_sH A B z else fun v => nt_H A ((z - (nt_n A + nt_n B)) / nt_n B) v && nt_H B ((z - (nt_n A + nt_n B)) % nt_n B) v) l ↔ _
  by_cases hz : z < nt_n A + nt_n B
  · rw [if_pos hz]
    constructor
    · rintro ⟨_, h, _⟩
      cases h
    · rintro ⟨⟨h, _⟩, _⟩
      omega
  · rw [if_neg hz, if_neg hz, nt_and_b, nl_ok_and]
    unfold nt_h nt_hB nt_h
    constructor
    · rintro ⟨h1, ⟨h2, h3⟩, h4, h5⟩
      obtain ⟨d1, d2, d3⟩ := nt_div (n := nt_n B) (m := nt_n A) (z := z - (nt_n A + nt_n B)) (by omega)
      refine ⟨⟨by omega, h1⟩, ⟨d2, h2, h4⟩, by omega, ?_⟩
      rw [Nat.add_sub_cancel_left]
      exact ⟨d3, h3, h5⟩
    · rintro ⟨⟨h0, h1⟩, ⟨_, h2, h4⟩, _, h6⟩
      rw [Nat.add_sub_cancel_left] at h6
      exact ⟨h1, ⟨h2, h6.2.1⟩, h4, h6.2.2⟩
theorem nt_and_f : ∀ z, nt_f (nt_and A B) z ↔ (nt_n A + nt_n B ≤ z ∧ z < nt_n A + nt_n B + nt_n A * nt_n B) ∧ nt_f A ((z - (nt_n A + nt_n B)) / nt_n B) ∧ nt_fB A B (nt_n A + (z - (nt_n A + nt_n B)) % nt_n B) := by
  intro z
  show z < nt_n A + nt_n B + nt_n A * nt_n B ∧ (if z < nt_n A + nt_n B then false else nt_L A ((z - (nt_n A + nt_n B)) / nt_n B) && nt_L B ((z - (nt_n A + nt_n B)) % nt_n B)) = true ↔ _
  by_cases hz : z < nt_n A + nt_n B
  · rw [if_pos hz]
    constructor
    · rintro ⟨_, h⟩
      cases h
    · rintro ⟨⟨h, _⟩, _⟩
      omega
  · rw [if_neg hz, nt_and_b]
    unfold nt_f nt_fB nt_f
    constructor
    · rintro ⟨h1, h2, h3⟩
      obtain ⟨d1, d2, d3⟩ := nt_div (n := nt_n B) (m := nt_n A) (z := z - (nt_n A + nt_n B)) (by omega)
      refine ⟨⟨by omega, h1⟩, ⟨d2, h2⟩, by omega, ?_⟩
      rw [Nat.add_sub_cancel_left]
      exact ⟨d3, h3⟩
    · rintro ⟨⟨h0, h1⟩, ⟨_, h2⟩, _, h6⟩
      rw [Nat.add_sub_cancel_left] at h6
      exact ⟨h1, h2, h6.2⟩
theorem nt_and_a (i j : Nat) : nt_a (nt_and A B) w i j ↔ nt_a A w i j ∧ nt_a B w i j := by
  unfold nt_a
  rw [na_and (D := nt_D0 A B) (D2 := nt_D (nt_and A B)) (P1 := fun s => s < nt_n A) (P2 := fun s => nt_n A ≤ s ∧ s < nt_n A + nt_n B) (Q := fun z => nt_n A + nt_n B ≤ z ∧ z < nt_n A + nt_n B + nt_n A * nt_n B)
    (one := fun z => (z - (nt_n A + nt_n B)) / nt_n B) (two := fun z => nt_n A + (z - (nt_n A + nt_n B)) % nt_n B) (pr := fun x y => nt_n A + nt_n B + (x * nt_n B + (y - nt_n A)))
    (H1 := nt_h A) (H2 := nt_hB A B) (H3 := nt_h (nt_and A B)) (F1 := nt_f A) (F2 := nt_fB A B) (F3 := nt_f (nt_and A B)) (e := nt_e (nt_and A B) = true) (e1 := nt_e A = true) (e2 := nt_e B = true) nt_D0_1 ?_ (fun s l h => h.1) (fun s l h => ⟨h.1, by have := h.2.1; omega⟩) (fun s h => h.1) (fun s h => ⟨h.1, by have := h.2.1; omega⟩) ?_ ?_ ?_ nt_and_h nt_and_f nt_and_b i j, nt_a_left, nt_a_right]
  · rintro s t l ⟨h1, h2⟩ (h | ⟨_, h3, h4⟩)
    · have := h.1
      omega
    · have := h4.2.1
      omega
  · rintro z ⟨h1, h2⟩
    obtain ⟨d1, d2, d3⟩ := nt_div (n := nt_n B) (m := nt_n A) (z := z - (nt_n A + nt_n B)) (by omega)
    refine ⟨d2, ⟨by omega, by omega⟩, ?_⟩
    show nt_n A + nt_n B + ((z - (nt_n A + nt_n B)) / nt_n B * nt_n B + (nt_n A + (z - (nt_n A + nt_n B)) % nt_n B - nt_n A)) = z
    rw [Nat.add_sub_cancel_left, Nat.div_add_mod']
    omega
  · rintro x y hx ⟨hy1, hy2⟩
    obtain ⟨d1, d2, d3⟩ := nt_pair (n := nt_n B) (m := nt_n A) (x := x) (y := y - nt_n A) hx (by omega)
    refine ⟨⟨by omega, by omega⟩, ?_, ?_⟩
    · show (nt_n A + nt_n B + (x * nt_n B + (y - nt_n A)) - (nt_n A + nt_n B)) / nt_n B = x
      rw [Nat.add_sub_cancel_left, d2]
    · show nt_n A + (nt_n A + nt_n B + (x * nt_n B + (y - nt_n A)) - (nt_n A + nt_n B)) % nt_n B = y
      rw [Nat.add_sub_cancel_left, d3]
      omega
  · rintro z t l ⟨h1, h2⟩
    rw [nt_and_D h1 h2]
    obtain ⟨d1, d2, d3⟩ := nt_div (n := nt_n B) (m := nt_n A) (z := z - (nt_n A + nt_n B)) (by omega)
    constructor
    · rintro ⟨⟨t1, t2⟩, a1, a2⟩
      refine ⟨⟨t1, t2⟩, Or.inl a1, Or.inr ⟨by omega, by omega, ?_⟩⟩
      rw [Nat.add_sub_cancel_left, Nat.add_sub_cancel_left]
      exact a2
    · rintro ⟨⟨t1, t2⟩, a1, a2⟩
      refine ⟨⟨t1, t2⟩, ?_, ?_⟩
      · rcases a1 with a | ⟨a, _⟩
        · exact a
        · omega
      · rcases a2 with a | ⟨_, _, a⟩
        · have := a.1
          omega
        · rw [Nat.add_sub_cancel_left, Nat.add_sub_cancel_left] at a
          exact a
theorem nl_ok_or {f g : Nat → Bool} {a b : Bool} {l : Option Nat} : ((a || b) = true ∧ nl_ok (fun v => (a && f v) || (b && g v)) l) ↔ (a = true ∧ nl_ok f l) ∨ (b = true ∧ nl_ok g l) := by
  cases l with
  | none =>
    show _ ∧ True ↔ _ ∧ True ∨ _ ∧ True
    rw [nt_or_b]
    constructor
    · rintro ⟨h | h, _⟩
      · exact Or.inl ⟨h, trivial⟩
      · exact Or.inr ⟨h, trivial⟩
    · rintro (⟨h, _⟩ | ⟨h, _⟩)
      · exact ⟨Or.inl h, trivial⟩
      · exact ⟨Or.inr h, trivial⟩
  | some v =>
    show _ ∧ ((a && f v) || (b && g v)) = true ↔ _ ∧ f v = true ∨ _ ∧ g v = true
    rw [nt_or_b, nt_or_b, nt_and_b, nt_and_b]
    constructor
    · exact fun h => h.2
    · intro h
      exact ⟨h.elim (fun z => Or.inl z.1) (fun z => Or.inr z.1), h⟩
theorem nt_star_D {b : Bool} : ∀ s t l, nt_D (nt_star b A) s t l ↔ nt_D A s t l ∨ (nt_f A s ∧ nt_h A t l) := by
  intro s t l
  have e0 : nt_D (nt_star b A) s t l ↔ s < nt_n A ∧ t < nt_n A ∧ ((nt_E A s t || (nt_L A s && nt_F A t)) = true ∧ nl_ok (fun v => (nt_E A s t && nt_M A s t v) || ((nt_L A s && nt_F A t) && nt_H A t v)) l) := Iff.rfl
  rw [e0, nl_ok_or, nt_and_b]
  unfold nt_D nt_f nt_h
  constructor
  · rintro ⟨h1, h2, ⟨h3, h4⟩ | ⟨⟨h3, h4⟩, h5⟩⟩
    · exact Or.inl ⟨h1, h2, h3, h4⟩
    · exact Or.inr ⟨⟨h1, h3⟩, h2, h4, h5⟩
  · rintro (⟨h1, h2, h3, h4⟩ | ⟨⟨h1, h3⟩, h2, h4, h5⟩)
    · exact ⟨h1, h2, Or.inl ⟨h3, h4⟩⟩
    · exact ⟨h1, h2, Or.inr ⟨⟨h3, h4⟩, h5⟩⟩
theorem nt_star_r (b : Bool) (i j : Nat) : nt_r (nt_star b A) w i j ↔ ∃ m, na_it (nt_r A w) (m + 1) i j :=
  na_star (D := nt_D A) (D2 := nt_D (nt_star b A)) (H := nt_h A) (F := nt_f A) (P := fun s => s < nt_n A) (fun s t l _ h => h.2.1) (fun s l h => h.1) (fun s t l _ => nt_star_D s t l) i j
/-- [*] -/
theorem nt_star_a (i j : Nat) : nt_a (nt_star true A) w i j ↔ ∃ m, na_it (fun i k => i < k ∧ nt_a A w i k) m i j := by
  have e : ∀ m i j, na_it (fun i k => i < k ∧ nt_a A w i k) m i j ↔ na_it (nt_r A w) m i j := fun m i j => ⟨na_it_mono (fun i k h => (na_a_r h.1).mp h.2) m i j, na_it_mono (fun i k h => ⟨na_r_lt h, Or.inr h⟩) m i j⟩
  show (i = j ∧ (nt_e A || true) = true) ∨ nt_r (nt_star true A) w i j ↔ _
  rw [nt_star_r]
  constructor
  · rintro (⟨h, _⟩ | ⟨m, h⟩)
    · exact ⟨0, h⟩
    · exact ⟨m + 1, (e _ _ _).mpr h⟩
  · rintro ⟨m, h⟩
    match m, h with
    | 0, h => exact Or.inl ⟨h, by rw [Bool.or_true]⟩
    | m + 1, h => exact Or.inr ⟨m, (e _ _ _).mp h⟩
/-- [+] -/
theorem nt_plus_a (i j : Nat) : nt_a (nt_star false A) w i j ↔ ∃ k, nt_a A w i k ∧ ∃ m, na_it (fun i k => i < k ∧ nt_a A w i k) m k j := by
  have e : ∀ m i j, na_it (fun i k => i < k ∧ nt_a A w i k) m i j ↔ na_it (nt_r A w) m i j := fun m i j => ⟨na_it_mono (fun i k h => (na_a_r h.1).mp h.2) m i j, na_it_mono (fun i k h => ⟨na_r_lt h, Or.inr h⟩) m i j⟩
  show (i = j ∧ (nt_e A || false) = true) ∨ nt_r (nt_star false A) w i j ↔ _
  rw [nt_star_r, Bool.or_false]
  constructor
  · rintro (⟨h, g⟩ | ⟨m, k, h1, h2⟩)
    · exact ⟨i, Or.inl ⟨rfl, g⟩, 0, h⟩
    · exact ⟨k, Or.inr h1, m, (e _ _ _).mpr h2⟩
  · rintro ⟨k, ⟨rfl, g⟩ | h1, m, h⟩
    · match m, h with
      | 0, h => exact Or.inl ⟨h, g⟩
      | m + 1, h => exact Or.inr ⟨m, (e _ _ _).mp h⟩
    · exact Or.inr ⟨m, k, h1, (e _ _ _).mp h⟩
theorem nt_times_p {lo hi : Nat} (h0 : ¬ hi = 0) : nt_n (nt_times lo hi A) = nt_n A * hi ∧ nt_e (nt_times lo hi A) = decide (nt_ls A lo = 0) ∧ (∀ s l, nt_h (nt_times lo hi A) s l ↔ nt_h A s l) ∧
    (∀ c x t l, c < hi → x < nt_n A → (nt_D (nt_times lo hi A) (x + nt_n A * c) t l ↔ (∃ y, t = y + nt_n A * c ∧ nt_D A x y l) ∨ (c + 1 < hi ∧ ∃ y, t = y + nt_n A * (c + 1) ∧ nt_f A x ∧ nt_h A y l))) ∧
    (∀ t, nt_f (nt_times lo hi A) t ↔ ∃ c y, c < hi ∧ y < nt_n A ∧ t = y + nt_n A * c ∧ nt_f A y ∧ nt_ls A lo ≤ c + 1) := by
  have e0 : nt_n (nt_times lo hi A) = nt_n A * hi := by unfold nt_times; rw [if_neg h0]; rfl
  have e1 : nt_E (nt_times lo hi A) = fun s t => if t / nt_n A = s / nt_n A then nt_E A (s % nt_n A) (t % nt_n A) else if t / nt_n A = s / nt_n A + 1 then nt_L A (s % nt_n A) && nt_F A (t % nt_n A) else false := by unfold nt_times; rw [if_neg h0]; rfl
  have e2 : nt_M (nt_times lo hi A) = fun s t => if t / nt_n A = s / nt_n A then nt_M A (s % nt_n A) (t % nt_n A) else nt_H A (t % nt_n A) := by unfold nt_times; rw [if_neg h0]; rfl
  have e3 : nt_H (nt_times lo hi A) = fun s => nt_H A (s % nt_n A) := by unfold nt_times; rw [if_neg h0]; rfl
  have e4 : nt_F (nt_times lo hi A) = fun s => decide (s < nt_n A) && nt_F A s := by unfold nt_times; rw [if_neg h0]; rfl
  have e5 : nt_L (nt_times lo hi A) = fun s => nt_L A (s % nt_n A) && decide (nt_ls A lo ≤ s / nt_n A + 1) := by unfold nt_times; rw [if_neg h0]; rfl
  have e6 : nt_e (nt_times lo hi A) = decide (nt_ls A lo = 0) := by unfold nt_times; rw [if_neg h0]; rfl
  have hdm : ∀ x c, x < nt_n A → (x + nt_n A * c) / nt_n A = c ∧ (x + nt_n A * c) % nt_n A = x := by
    intro x c hx
    rw [Nat.add_mul_div_left _ _ (by omega), Nat.div_eq_of_lt hx, Nat.zero_add, Nat.add_mul_mod_self_left, Nat.mod_eq_of_lt hx]
    exact ⟨rfl, rfl⟩
  have hlt : ∀ x c, x < nt_n A → (x + nt_n A * c < nt_n A * hi ↔ c < hi) := by
    intro x c hx
    constructor
    · intro h
      rcases Nat.lt_or_ge c hi with g | g
      · exact g
      · have := Nat.mul_le_mul_left (nt_n A) g
        omega
    · intro h
      have := Nat.mul_le_mul_left (nt_n A) (show c + 1 ≤ hi from h)
      rw [Nat.mul_add, Nat.mul_one] at this
      omega
  have hsp : ∀ t, t < nt_n A * hi → t % nt_n A < nt_n A ∧ t / nt_n A < hi ∧ t = t % nt_n A + nt_n A * (t / nt_n A) := by
    intro t ht
    obtain ⟨d1, d2, d3⟩ := nt_div (n := nt_n A) (m := hi) (z := t) (by rw [Nat.mul_comm]; exact ht)
    exact ⟨d3, d2, (Nat.mod_add_div t (nt_n A)).symm⟩
  have hH : ∀ s l, nt_h (nt_times lo hi A) s l ↔ nt_h A s l := by
    intro s l
    unfold nt_h
    rw [e0, e3, e4]
    constructor
    · rintro ⟨_, h2, h3⟩
      have h2 := nt_and_b.mp h2
      have hs := of_decide_eq_true h2.1
      have h3 : nl_ok (nt_H A (s % nt_n A)) l := h3
      rw [Nat.mod_eq_of_lt hs] at h3
      exact ⟨hs, h2.2, h3⟩
    · rintro ⟨h1, h2, h3⟩
      refine ⟨?_, nt_and_b.mpr ⟨decide_eq_true h1, h2⟩, ?_⟩
      · have := (hlt s 0 h1).mpr (by omega)
        rw [Nat.mul_zero, Nat.add_zero] at this
        exact this
      · show nl_ok (nt_H A (s % nt_n A)) l
        rw [Nat.mod_eq_of_lt h1]
        exact h3
  refine ⟨e0, e6, hH, ?_, ?_⟩
  · intro c x t l hc hx
    obtain ⟨q1, q2⟩ := hdm x c hx
    unfold nt_D
    rw [e0, e1, e2]
    dsimp only
    rw [q1, q2]
    constructor
    · rintro ⟨h1, h2, h3, h4⟩
      obtain ⟨t1, t2, t3⟩ := hsp t h2
      by_cases hc1 : t / nt_n A = c
      · rw [if_pos hc1] at h3 h4
        exact Or.inl ⟨t % nt_n A, by rw [hc1] at t3; exact t3, hx, t1, h3, h4⟩
      · rw [if_neg hc1] at h3 h4
        by_cases hc2 : t / nt_n A = c + 1
        · rw [if_pos hc2, nt_and_b] at h3
          exact Or.inr ⟨by omega, t % nt_n A, by rw [hc2] at t3; exact t3, ⟨hx, h3.1⟩, t1, h3.2, h4⟩
        · rw [if_neg hc2] at h3
          cases h3
    · rintro (⟨y, rfl, _, h2, h3, h4⟩ | ⟨hc1, y, rfl, ⟨_, h3⟩, h2, h4, h5⟩)
      · obtain ⟨r1, r2⟩ := hdm y c h2
        rw [r1, r2, if_pos rfl, if_pos rfl]
        exact ⟨(hlt x c hx).mpr hc, (hlt y c h2).mpr hc, h3, h4⟩
      · obtain ⟨r1, r2⟩ := hdm y (c + 1) h2
        rw [r1, r2, if_neg (show ¬ c + 1 = c by omega), if_neg (show ¬ c + 1 = c by omega), if_pos rfl]
        exact ⟨(hlt x c hx).mpr hc, (hlt y (c + 1) h2).mpr hc1, nt_and_b.mpr ⟨h3, h4⟩, h5⟩
  · intro t
    unfold nt_f
    rw [e0, e5]
    constructor
    · rintro ⟨h1, h2⟩
      obtain ⟨t1, t2, t3⟩ := hsp t h1
      have h2 := nt_and_b.mp h2
      exact ⟨t / nt_n A, t % nt_n A, t2, t1, t3, ⟨t1, h2.1⟩, of_decide_eq_true h2.2⟩
    · rintro ⟨c, y, h1, _, rfl, ⟨h2, h3⟩, h4⟩
      obtain ⟨r1, r2⟩ := hdm y c h2
      refine ⟨(hlt y c h2).mpr h1, ?_⟩
      dsimp only
      rw [r1, r2]
      exact nt_and_b.mpr ⟨h3, decide_eq_true h4⟩
theorem nt_times_a {lo hi : Nat} (hl : lo ≤ hi) (i j : Nat) : nt_a (nt_times lo hi A) w i j ↔ ∃ n, lo ≤ n ∧ n ≤ hi ∧ na_it (nt_a A w) n i j := by
  by_cases h0 : hi = 0
  · subst h0
    have el : lo = 0 := by omega
    subst el
    have e : nt_times 0 0 A = (nt_n A, nt_E A, nt_M A, nt_H A, fun _ => false, fun _ => false, true) := by unfold nt_times; rw [if_pos rfl]
    rw [e]
    constructor
    · rintro (⟨h, _⟩ | ⟨n, s, t, _, h, _⟩)
      · exact ⟨0, Nat.le_refl _, Nat.le_refl _, h⟩
      · have : false = true := h.2.1
        cases this
    · rintro ⟨n, _, h2, h3⟩
      have : n = 0 := by omega
      subst this
      exact Or.inl ⟨h3, rfl⟩
  · obtain ⟨e0, e6, hH, hD, hF⟩ := nt_times_p (A := A) (lo := lo) h0
    unfold nt_a
    rw [na_a_of (na_r_cong (fun _ _ _ => Iff.rfl) hH (fun _ => Iff.rfl) i j), e6, show (decide (nt_ls A lo = 0) = true) = (nt_ls A lo = 0) from propext ⟨of_decide_eq_true, decide_eq_true⟩]
    refine na_times (a := 0) (z := nt_n A) (h := hi) (e := nt_e A = true) (by omega) hl (fun h => by unfold nt_ls; rw [if_pos h]) (fun h => by unfold nt_ls; rw [if_neg h]) (fun s t l _ h => ⟨Nat.zero_le _, by have := h.2.1; omega⟩) (fun s l h => ⟨Nat.zero_le _, by have := h.1; omega⟩) (fun c x t l hc hx => hD c x t l hc (by omega)) ?_ i j
    intro t
    rw [hF t]
    constructor
    · rintro ⟨c, y, h1, h2, h3⟩
      exact ⟨c, y, h1, ⟨Nat.zero_le _, by omega⟩, h3⟩
    · rintro ⟨c, y, h1, h2, h3⟩
      exact ⟨c, y, h1, by omega, h3⟩
theorem nt_count_S {n : Nat} {wb : Bool} : ∀ q, (2 * q < nt_S n wb ↔ q < n ∨ (q = n ∧ wb = true)) ∧ (2 * q + 1 < nt_S n wb ↔ q < n) := by
  intro q
  unfold nt_S
  cases wb
  · rw [if_neg (by decide)]
    refine ⟨⟨fun h => Or.inl (by omega), fun h => ?_⟩, by omega⟩
    rcases h with h | ⟨_, h⟩
    · omega
    · cases h
  · rw [if_pos rfl]
    refine ⟨⟨fun h => ?_, fun h => ?_⟩, by omega⟩
    · by_cases hq : q < n
      · exact Or.inl hq
      · exact Or.inr ⟨by omega, rfl⟩
    · rcases h with h | ⟨h, _⟩ <;> omega
theorem nt_count_p {n : Nat} {wb : Bool} {m : Nat → Bool} : (∀ o t l, o < nt_S n wb → (nt_D (nt_count n wb m) o t l ↔ (t = 2 * ((o + 1) / 2) ∧ 2 * ((o + 1) / 2) < nt_S n wb ∧ nl_ok (fun v => ! m v) l) ∨ (t = 2 * ((o + 1) / 2) + 1 ∧ 2 * ((o + 1) / 2) + 1 < nt_S n wb ∧ nl_ok m l))) ∧
    (∀ s l, nt_h (nt_count n wb m) s l ↔ (s = 0 ∧ 0 < nt_S n wb ∧ nl_ok (fun v => ! m v) l) ∨ (s = 1 ∧ 1 < nt_S n wb ∧ nl_ok m l)) ∧
    (∀ t, nt_f (nt_count n wb m) t ↔ t < nt_S n wb ∧ (t + 1) / 2 = n) := by
  have hS := nt_count_S (n := n) (wb := wb)
  refine ⟨?_, ?_, ?_⟩
  · intro o t l ho
    show o < nt_S n wb ∧ t < nt_S n wb ∧ (decide (t = 2 * ((o + 1) / 2)) || decide (t = 2 * ((o + 1) / 2) + 1)) = true ∧ nl_ok (if t % 2 = 0 then (fun v => ! m v) else m) l ↔ _
    rw [nt_or_b]
    constructor
    · rintro ⟨h1, h2, h3 | h3, h4⟩
      · have h3 := of_decide_eq_true h3
        rw [if_pos (by omega)] at h4
        exact Or.inl ⟨h3, by omega, h4⟩
      · have h3 := of_decide_eq_true h3
        rw [if_neg (by omega)] at h4
        exact Or.inr ⟨h3, by omega, h4⟩
    · rintro (⟨h3, h2, h4⟩ | ⟨h3, h2, h4⟩)
      · refine ⟨ho, by omega, Or.inl (decide_eq_true h3), ?_⟩
        rw [if_pos (by omega)]
        exact h4
      · refine ⟨ho, by omega, Or.inr (decide_eq_true h3), ?_⟩
        rw [if_neg (by omega)]
        exact h4
  · intro s l
    show s < nt_S n wb ∧ (decide (s = 0) || decide (s = 1 ∧ 0 < n)) = true ∧ nl_ok (if s % 2 = 0 then (fun v => ! m v) else m) l ↔ _
    rw [nt_or_b]
    constructor
    · rintro ⟨h1, h3 | h3, h4⟩
      · have h3 := of_decide_eq_true h3
        rw [if_pos (by omega)] at h4
        exact Or.inl ⟨h3, by omega, h4⟩
      · have h3 := of_decide_eq_true h3
        rw [if_neg (by omega)] at h4
        exact Or.inr ⟨by omega, by omega, h4⟩
    · rintro (⟨h3, h2, h4⟩ | ⟨h3, h2, h4⟩)
      · refine ⟨by omega, Or.inl (decide_eq_true h3), ?_⟩
        rw [if_pos (by omega)]
        exact h4
      · have := (hS 0).2.mp (by omega)
        refine ⟨by omega, Or.inr (decide_eq_true ⟨by omega, this⟩), ?_⟩
        rw [if_neg (by omega)]
        exact h4
  · intro t
    rw [show nt_f (nt_count n wb m) t ↔ t < nt_S n wb ∧ decide ((t + 1) / 2 = n) = true from Iff.rfl]
    exact ⟨fun h => ⟨h.1, of_decide_eq_true h.2⟩, fun h => ⟨h.1, decide_eq_true h.2⟩⟩
theorem nt_count_a {n : Nat} {wb : Bool} {m : Nat → Bool} (i j : Nat) : nt_a (nt_count n wb m) w i j ↔ ∃ k, j = i + k ∧ na_oc (nl_ok m) (nl_ok (fun v => ! m v)) (wb = true) w k n i := by
  obtain ⟨cD, cH, cF⟩ := nt_count_p (n := n) (wb := wb) (m := m)
  unfold nt_a
  rw [show (nt_e (nt_count n wb m) = true) = (n = 0) from propext ⟨of_decide_eq_true, decide_eq_true⟩]
  refine na_occ (a := 0) (S := nt_S n wb) (pos := nl_ok m) (neg := nl_ok (fun v => ! m v)) (wb := wb = true) nt_count_S ?_ ?_ ?_ i j
  · intro o t l ho
    rw [Nat.zero_add, Nat.zero_add, Nat.zero_add]
    exact cD o t l ho
  · exact cH
  · intro t
    rw [cF t]
    constructor
    · rintro ⟨h1, h2⟩
      exact ⟨t, h1, by omega, h2⟩
    · rintro ⟨o, h1, h2, h3⟩
      have : t = o := by omega
      subst this
      exact ⟨h1, h3⟩
end NU
