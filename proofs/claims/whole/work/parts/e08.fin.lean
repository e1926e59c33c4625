/-! ===== from the state of no letter on; what leads on ===== -/
section NZ
variable {A : nt_A} {w : Nat → Option Nat}
/-- state 0: no letter yet -/
def nz_D (A : nt_A) (s t : Nat) (l : Option Nat) : Prop := ∃ y, t = y + 1 ∧ ((s = 0 ∧ nt_h A y l) ∨ (∃ x, s = x + 1 ∧ nt_D A x y l))
def nz_F (A : nt_A) (t : Nat) : Prop := (t = 0 ∧ nt_e A = true) ∨ ∃ x, t = x + 1 ∧ nt_f A x
/-- wild letters lead on to an end -/
def nz_l (A : nt_A) (t : Nat) : Prop := ∃ m u, na_p (nz_D A) (fun _ => none) m 0 t u ∧ nz_F A u
/-- the states behind n letters from i on -/
def nz_s (A : nt_A) (w : Nat → Option Nat) (i n t : Nat) : Prop := na_p (nz_D A) w n i 0 t ∧ (0 < n → nz_l A t)
theorem nz_a {i j : Nat} : nt_a A w i j ↔ i ≤ j ∧ ∃ t, na_p (nz_D A) w (j - i) i 0 t ∧ nz_F A t := by
  have hf : ∀ n k s t, na_p (nz_D A) w n k (s + 1) t ↔ ∃ u, t = u + 1 ∧ na_p (nt_D A) w n k s u := by
    intro n k s t
    refine na_p_f (f := fun s => s + 1) (P := fun _ => True) (fun _ _ _ _ _ => trivial) (fun s t l _ => ?_) n k s t trivial
    constructor
    · rintro ⟨y, h1, ⟨h2, _⟩ | ⟨x, h2, h3⟩⟩
      · cases h2
      · have : x = s := by omega
        subst this
        exact ⟨y, h1, h3⟩
    · rintro ⟨y, h1, h3⟩
      exact ⟨y, h1, Or.inr ⟨s, rfl, h3⟩⟩
  constructor
  · rintro (⟨h1, h2⟩ | ⟨n, s, t, h1, h2, h3, h4⟩)
    · refine ⟨by omega, 0, ?_, Or.inl ⟨rfl, h2⟩⟩
      rw [show j - i = 0 by omega]
      rfl
    · refine ⟨by omega, t + 1, ?_, Or.inr ⟨t, rfl, h4⟩⟩
      rw [show j - i = n + 1 by omega]
      exact ⟨s + 1, ⟨s, rfl, Or.inl ⟨rfl, h2⟩⟩, (hf n (i + 1) s _).mpr ⟨t, rfl, h3⟩⟩
  · rintro ⟨h1, t, h2, h3⟩
    obtain ⟨n, hn⟩ : ∃ n, j - i = n := ⟨_, rfl⟩
    rw [hn] at h2
    match n, hn, h2 with
    | 0, hn, h2 =>
      have h2 : 0 = t := h2
      subst h2
      rcases h3 with ⟨_, h⟩ | ⟨x, h, _⟩
      · exact Or.inl ⟨by omega, h⟩
      · cases h
    | n + 1, hn, ⟨u, ⟨y, g1, g2⟩, h2⟩ =>
      subst g1
      rcases g2 with ⟨_, g⟩ | ⟨x, g, _⟩
      · obtain ⟨v, rfl, g3⟩ := (hf n (i + 1) y t).mp h2
        rcases h3 with ⟨h, _⟩ | ⟨x, h, h4⟩
        · cases h
        · have : x = v := by omega
          subst this
          exact Or.inr ⟨n, y, x, by omega, g, g3, h4⟩
      · cases g
theorem nz_none {s t : Nat} {l : Option Nat} (h : nz_D A s t l) : nz_D A s t none := by
  obtain ⟨y, h1, h2⟩ := h
  refine ⟨y, h1, ?_⟩
  rcases h2 with ⟨h2, h3⟩ | ⟨x, h2, h3⟩
  · exact Or.inl ⟨h2, h3.1, h3.2.1, trivial⟩
  · exact Or.inr ⟨x, h2, h3.1, h3.2.1, h3.2.2.1, trivial⟩
theorem na_p_const {α : Type} {D : Nat → Nat → α → Prop} {l : α} : ∀ {n k k2 s t : Nat}, na_p D (fun _ => l) n k s t → na_p D (fun _ => l) n k2 s t
  | 0, _, _, _, _, h => h
  | _ + 1, _, _, _, _, ⟨u, h1, h2⟩ => ⟨u, h1, na_p_const h2⟩
theorem nz_l_back {s t : Nat} {l : Option Nat} (h : nz_D A s t l) (g : nz_l A t) : nz_l A s := by
  obtain ⟨m, u, g1, g2⟩ := g
  exact ⟨m + 1, u, ⟨t, nz_none h, na_p_const g1⟩, g2⟩
theorem nz_l_F {t : Nat} (h : nz_F A t) : nz_l A t := ⟨0, t, rfl, h⟩
theorem nz_s_0 {i t : Nat} : nz_s A w i 0 t ↔ t = 0 := ⟨fun h => Eq.symm h.1, fun h => ⟨Eq.symm h, fun z => by omega⟩⟩
theorem nz_s_1 {i n t : Nat} : nz_s A w i (n + 1) t ↔ ∃ s, nz_s A w i n s ∧ nz_D A s t (w (i + n)) ∧ nz_l A t := by
  unfold nz_s
  rw [na_p_snoc]
  constructor
  · rintro ⟨⟨u, h1, h2⟩, h3⟩
    have hl := h3 (by omega)
    exact ⟨u, ⟨h1, fun _ => nz_l_back h2 hl⟩, h2, hl⟩
  · rintro ⟨s, ⟨h1, _⟩, h2, h3⟩
    exact ⟨⟨s, h1, h2⟩, fun _ => h3⟩
theorem nz_s_a {i n : Nat} : nt_a A w i (i + n) ↔ ∃ t, nz_s A w i n t ∧ nz_F A t := by
  rw [nz_a, Nat.add_sub_cancel_left]
  constructor
  · rintro ⟨_, t, h1, h2⟩
    exact ⟨t, ⟨h1, fun _ => nz_l_F h2⟩, h2⟩
  · rintro ⟨t, h1, h2⟩
    exact ⟨by omega, t, h1.1, h2⟩
/-! ===== layers that fill up ===== -/
noncomputable def nz_c (p : Nat → Prop) (n : Nat) : Nat := ((List.range n).filter (fun t => @decide (p t) (Classical.propDecidable _))).length
theorem nz_c_le (p : Nat → Prop) (n : Nat) : nz_c p n ≤ n := by
  unfold nz_c
  have := List.length_filter_le (fun t => @decide (p t) (Classical.propDecidable _)) (List.range n)
  rw [List.length_range] at this
  exact this
theorem nz_f_mono {p q : Nat → Bool} (h : ∀ x, p x = true → q x = true) : ∀ l : List Nat, (l.filter p).length ≤ (l.filter q).length
  | [] => Nat.le_refl _
  | x :: l => by
    have ih := nz_f_mono h l
    rw [List.filter_cons, List.filter_cons]
    cases hp : p x
    · rw [if_neg (by decide)]
      split
      · rw [List.length_cons]; omega
      · exact ih
    · rw [if_pos rfl, if_pos (h x hp), List.length_cons, List.length_cons]
      omega
theorem nz_f_lt {p q : Nat → Bool} (h : ∀ x, p x = true → q x = true) {y : Nat} (hp : p y = false) (hq : q y = true) : ∀ l : List Nat, y ∈ l → (l.filter p).length < (l.filter q).length
  | [], hy => by cases hy
  | x :: l, hy => by
    rw [List.filter_cons, List.filter_cons]
    by_cases e : y = x
    · subst e
      rw [if_neg (by rw [hp]; decide), if_pos hq, List.length_cons]
      have := nz_f_mono h l
      omega
    · have ih := nz_f_lt h hp hq l ((List.mem_cons.mp hy).resolve_left e)
      cases hx : p x
      · rw [if_neg (by decide)]
        split
        · rw [List.length_cons]; omega
        · exact ih
      · rw [if_pos rfl, if_pos (h x hx), List.length_cons, List.length_cons]
        omega
theorem nz_c_lt {p q : Nat → Prop} {n y : Nat} (h : ∀ x, p x → q x) (hy : y < n) (hp : ¬ p y) (hq : q y) : nz_c p n < nz_c q n := by
  unfold nz_c
  refine nz_f_lt (fun x hx => ?_) (y := y) ?_ ?_ _ (List.mem_range.mpr hy)
  · exact @decide_eq_true _ (Classical.propDecidable _) (h x (@of_decide_eq_true _ (Classical.propDecidable _) hx))
  · exact @decide_eq_false _ (Classical.propDecidable _) hp
  · exact @decide_eq_true _ (Classical.propDecidable _) hq
/-- n things: behind n layers nothing is new -/
theorem nz_lay {R : Nat → Nat → Prop} {n : Nat} (hm : ∀ k t, R k t → R (k + 1) t) (hs : ∀ k, (∀ t, t < n → R (k + 1) t → R k t) → ∀ t, t < n → R (k + 2) t → R (k + 1) t) : ∀ k t, t < n → R k t → R n t := by
  have up : ∀ a k t, R k t → R (k + a) t := by
    intro a
    induction a with
    | zero => exact fun k t h => h
    | succ a ih => exact fun k t h => hm _ _ (ih k t h)
  have st : ∀ k, (∀ t, t < n → R (k + 1) t → R k t) → ∀ a t, t < n → R (k + a) t → R k t := by
    intro k h a
    have h2 : ∀ a t, t < n → R (k + a + 1) t → R (k + a) t := by
      intro a
      induction a with
      | zero => exact h
      | succ a ih => exact hs (k + a) ih
    induction a with
    | zero => exact fun t _ g => g
    | succ a ih => exact fun t ht g => ih t ht (h2 a t ht g)
  have ex : ∃ k, k ≤ n ∧ ∀ t, t < n → R (k + 1) t → R k t := by
    apply Classical.byContradiction
    intro hno
    have gr : ∀ k, k ≤ n + 1 → k ≤ nz_c (R k) n := by
      intro k
      induction k with
      | zero => exact fun _ => Nat.zero_le _
      | succ k ih =>
        intro hk
        have h1 := ih (by omega)
        have h2 : ∃ t, t < n ∧ R (k + 1) t ∧ ¬ R k t := by
          apply Classical.byContradiction
          intro g
          refine hno ⟨k, by omega, fun t ht hr => ?_⟩
          apply Classical.byContradiction
          intro g2
          exact g ⟨t, ht, hr, g2⟩
        obtain ⟨t, t1, t2, t3⟩ := h2
        have := nz_c_lt (p := R k) (q := R (k + 1)) (n := n) (fun x => hm k x) t1 t3 t2
        omega
    have g1 := gr (n + 1) (Nat.le_refl _)
    have g2 := nz_c_le (R (n + 1)) n
    omega
  obtain ⟨k0, h1, h2⟩ := ex
  intro k t ht hr
  have : R k0 t := by
    rcases Nat.le_total k0 k with h | h
    · refine st k0 h2 (k - k0) t ht ?_
      rw [show k0 + (k - k0) = k by omega]
      exact hr
    · have := up (k0 - k) k t hr
      rw [show k + (k0 - k) = k0 by omega] at this
      exact this
  have := up (n - k0) k0 t this
  rw [show k0 + (n - k0) = n by omega] at this
  exact this
theorem nz_D_b {s t : Nat} {l : Option Nat} (h : nz_D A s t l) : s < nt_n A + 1 ∧ t < nt_n A + 1 := by
  obtain ⟨y, h1, ⟨h2, h3⟩ | ⟨x, h2, h3⟩⟩ := h
  · have := h3.1
    omega
  · have := h3.1
    have := h3.2.1
    omega
/-- an end is near: not more wild letters than states -/
theorem nz_near {t : Nat} (ht : t < nt_n A + 1) (h : nz_l A t) : ∃ m u, m ≤ nt_n A + 1 ∧ na_p (nz_D A) (fun _ => none) m 0 t u ∧ nz_F A u := by
  obtain ⟨m, u, h1, h2⟩ := h
  have key := nz_lay (R := fun k t => ∃ m u, m ≤ k ∧ na_p (nz_D A) (fun _ => none) m 0 t u ∧ nz_F A u) (n := nt_n A + 1) (fun k t ⟨m, u, a, b, c⟩ => ⟨m, u, by omega, b, c⟩) (fun k hk t ht ⟨m, u, a, b, c⟩ => by
    match m, a, b with
    | 0, a, b => exact ⟨0, u, by omega, b, c⟩
    | m + 1, a, ⟨v, b1, b2⟩ =>
      obtain ⟨m2, u2, a2, b3, c2⟩ := hk v (nz_D_b b1).2 ⟨m, u, by omega, na_p_const b2, c⟩
      exact ⟨m2 + 1, u2, by omega, ⟨v, b1, na_p_const b3⟩, c2⟩)
  exact key m t ht ⟨m, u, Nat.le_refl _, h1, h2⟩
/-- a row goes on: some wild letters make it good -/
theorem nz_goes {i n Z : Nat} (hZ : i + n + nt_n A + 1 ≤ Z) (hw : ∀ k, i + n ≤ k → w k = none) : (∃ k, i + n ≤ k ∧ k ≤ Z ∧ nt_a A w i k) ↔ ∃ t, nz_s A w i n t ∧ nz_l A t := by
  constructor
  · rintro ⟨k, h1, h2, h3⟩
    obtain ⟨_, t, g1, g2⟩ := nz_a.mp h3
    rw [show k - i = n + (k - (i + n)) by omega] at g1
    obtain ⟨u, a1, a2⟩ := (na_p_add _ _ _ _ _).mp g1
    have hl : nz_l A u := by
      refine ⟨k - (i + n), t, ?_, g2⟩
      have hw2 : ∀ m k s t, i + n ≤ k → na_p (nz_D A) w m k s t → na_p (nz_D A) (fun _ => none) m k s t := by
        intro m
        induction m with
        | zero => exact fun _ _ _ _ h => h
        | succ m ih =>
          rintro k s t hk ⟨v, b1, b2⟩
          exact ⟨v, by rw [hw k hk] at b1; exact b1, ih (k + 1) v t (by omega) b2⟩
      exact na_p_const (hw2 _ _ _ _ (Nat.le_refl _) a2)
    exact ⟨u, ⟨a1, fun _ => hl⟩, hl⟩
  · rintro ⟨t, h1, h2⟩
    have ht : t < nt_n A + 1 := by
      obtain ⟨p, _⟩ := h1
      match n, p with
      | 0, p =>
        have p : 0 = t := p
        omega
      | n + 1, p =>
        obtain ⟨u, _, q⟩ := na_p_snoc.mp p
        exact (nz_D_b q).2
    obtain ⟨m, u, g1, g2, g3⟩ := nz_near ht h2
    refine ⟨i + n + m, by omega, by omega, nz_a.mpr ⟨by omega, u, ?_, g3⟩⟩
    rw [show i + n + m - i = n + m by omega]
    refine (na_p_add _ _ _ _ _).mpr ⟨t, h1.1, ?_⟩
    have hw2 : ∀ m k s t, i + n ≤ k → na_p (nz_D A) (fun _ => none) m k s t → na_p (nz_D A) w m k s t := by
      intro m
      induction m with
      | zero => exact fun _ _ _ _ h => h
      | succ m ih =>
        rintro k s t hk ⟨v, b1, b2⟩
        exact ⟨v, by rw [hw k hk]; exact b1, ih (k + 1) v t (by omega) b2⟩
    exact hw2 _ _ _ _ (Nat.le_refl _) (na_p_const g2)
end NZ
