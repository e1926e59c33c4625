/-! ===== nodes of a sequence, and their rows ===== -/
/-- kind, left, right, least, most -/
abbrev nq_N : Type := Nat × Nat × Nat × Nat × Nat
def nq_k (x : nq_N) : Nat := x.1
def nq_l (x : nq_N) : Nat := x.2.1
def nq_r (x : nq_N) : Nat := x.2.2.1
def nq_a (x : nq_N) : Nat := x.2.2.2.1
def nq_b (x : nq_N) : Nat := x.2.2.2.2
def nq_row (k : Nat) : Prop := k = 60 ∨ (23 ≤ k ∧ k ≤ 26) ∨ (40 ≤ k ∧ k ≤ 44)
def ns_stp (S : Nat → Nat → Prop) (i k : Nat) : Prop := i < k ∧ S i k
/-- what the rows of a node are, by those of its parts -/
def ns_eq (x : nq_N) (c ca : Nat → Bool) (w : Nat → Option Nat) (Z : Nat) (SA SB : Nat → Nat → Prop) (i j : Nat) : Prop :=
  if nq_k x = 60 then j = i + 1 ∧ i < Z ∧ nl_ok c (w i)
  else if nq_k x = 23 then ∃ k, SA i k ∧ SB k j
  else if nq_k x = 24 then ∃ k, i ≤ k ∧ SA i (k + 1) ∧ SB k j ∧ k < j
  else if nq_k x = 25 then SA i j ∨ SB i j
  else if nq_k x = 26 then SA i j ∧ SB i j
  else if nq_k x = 40 then j ≤ Z ∧ ∃ m, na_it (ns_stp SA) m i j
  else if nq_k x = 41 then ∃ k, SA i k ∧ ∃ m, na_it (ns_stp SA) m k j
  else if nq_k x = 42 then j ≤ Z ∧ ∃ m, nq_a x ≤ m ∧ m ≤ nq_b x ∧ na_it SA m i j
  else j ≤ Z ∧ ∃ k, j = i + k ∧ na_oc (nl_ok ca) (nl_ok (fun v => ! ca v)) (nq_k x = 44) w k (nq_a x) i
def ns_sol (nd : Nat → nq_N) (hc : Nat → Nat → Bool) (w : Nat → Option Nat) (Z cnt : Nat) (S : Nat → Nat → Nat → Prop) : Prop := ∀ n, n < cnt → nq_row (nq_k (nd n)) → ∀ i, i ≤ Z → ∀ j, S n i j ↔ ns_eq (nd n) (hc n) (hc (nq_l (nd n))) w Z (S (nq_l (nd n))) (S (nq_r (nd n))) i j
/-- what is woven of a node -/
def nt_op (x : nq_N) (c ca : Nat → Bool) (A B : nt_A) : nt_A :=
  if nq_k x = 60 then nt_cond c
  else if nq_k x = 23 then nt_chain A B
  else if nq_k x = 24 then nt_fuse A B
  else if nq_k x = 25 then nt_or A B
  else if nq_k x = 26 then nt_and A B
  else if nq_k x = 40 then nt_star true A
  else if nq_k x = 41 then nt_star false A
  else if nq_k x = 42 then nt_times (nq_a x) (nq_b x) A
  else nt_count (nq_a x) (decide (nq_k x = 44)) ca
def nt_sol (nd : Nat → nq_N) (hc : Nat → Nat → Bool) (cnt : Nat) (T : Nat → nt_A) : Prop := ∀ n, n < cnt → nq_row (nq_k (nd n)) → T n = nt_op (nd n) (hc n) (hc (nq_l (nd n))) (T (nq_l (nd n))) (T (nq_r (nd n)))
def nq_two (k : Nat) : Prop := 23 ≤ k ∧ k ≤ 26
def nq_wf (nd : Nat → nq_N) (cnt : Nat) : Prop := ∀ n, n < cnt → nq_row (nq_k (nd n)) → ¬ nq_k (nd n) = 60 → (nq_l (nd n) < n ∧ nq_row (nq_k (nd (nq_l (nd n))))) ∧ (nq_two (nq_k (nd n)) → nq_r (nd n) < n ∧ nq_row (nq_k (nd (nq_r (nd n))))) ∧ (nq_k (nd n) = 42 → nq_a (nd n) ≤ nq_b (nd n)) ∧ (43 ≤ nq_k (nd n) ∧ nq_k (nd n) ≤ 44 → nq_k (nd (nq_l (nd n))) = 60) ∧ (nq_k (nd n) = 43 → 0 < nq_a (nd n))
theorem nt_cond_a {m : Nat → Bool} {w : Nat → Option Nat} (i j : Nat) : nt_a (nt_cond m) w i j ↔ j = i + 1 ∧ nl_ok m (w i) := by
  constructor
  · rintro (⟨_, h⟩ | ⟨n, s, t, h1, h2, h3, h4⟩)
    · cases h
    · match n, h1, h3 with
      | 0, h1, h3 => exact ⟨h1, h2.2.2⟩
      | n + 1, h1, ⟨u, h3, _⟩ =>
        have : false = true := h3.2.2.1
        cases this
  · rintro ⟨h1, h2⟩
    exact Or.inr ⟨0, 0, 0, h1, ⟨Nat.zero_lt_one, rfl, h2⟩, rfl, ⟨Nat.zero_lt_one, rfl⟩⟩
theorem ns_it {S : Nat → Nat → Prop} {Q : Nat → Nat → Prop} {Z : Nat} (hQ : ∀ i j, Q i j → i ≤ j) (h : ∀ i, i ≤ Z → ∀ j, S i j ↔ j ≤ Z ∧ Q i j) : ∀ m i, i ≤ Z → ∀ j, na_it S m i j ↔ j ≤ Z ∧ na_it Q m i j
  | 0, i, hi, j => by
    constructor
    · intro g
      have g : i = j := g
      subst g
      exact ⟨hi, rfl⟩
    · exact fun g => g.2
  | m + 1, i, hi, j => by
    constructor
    · rintro ⟨k, g1, g2⟩
      obtain ⟨a1, a2⟩ := (h i hi k).mp g1
      obtain ⟨b1, b2⟩ := (ns_it hQ h m k a1 j).mp g2
      exact ⟨b1, k, a2, b2⟩
    · rintro ⟨b1, k, a2, b2⟩
      have hk := na_it_le hQ m k j b2
      exact ⟨k, (h i hi k).mpr ⟨by omega, a2⟩, (ns_it hQ h m k (by omega) j).mpr ⟨b1, b2⟩⟩
theorem ns_stp_it {S : Nat → Nat → Prop} {A : nt_A} {w : Nat → Option Nat} {Z : Nat} (h : ∀ i, i ≤ Z → ∀ j, S i j ↔ j ≤ Z ∧ nt_a A w i j) (m i : Nat) (hi : i ≤ Z) (j : Nat) : na_it (ns_stp S) m i j ↔ j ≤ Z ∧ na_it (fun i k => i < k ∧ nt_a A w i k) m i j := by
  refine ns_it (fun i j h => Nat.le_of_lt h.1) (fun i hi j => ?_) m i hi j
  unfold ns_stp
  rw [h i hi j]
  constructor
  · rintro ⟨a, b, c⟩
    exact ⟨b, a, c⟩
  · rintro ⟨b, a, c⟩
    exact ⟨a, b, c⟩
theorem nt_a_le {A : nt_A} {w : Nat → Option Nat} (i j : Nat) (h : nt_a A w i j) : i ≤ j := na_a_le h
/-- what is woven reads the rows of its node -/
theorem ns_main {nd : Nat → nq_N} {hc : Nat → Nat → Bool} {w : Nat → Option Nat} {Z cnt : Nat} {S : Nat → Nat → Nat → Prop} {T : Nat → nt_A} (hS : ns_sol nd hc w Z cnt S) (hT : nt_sol nd hc cnt T) (hw : nq_wf nd cnt) :
    ∀ n, n < cnt → nq_row (nq_k (nd n)) → ∀ i, i ≤ Z → ∀ j, S n i j ↔ j ≤ Z ∧ nt_a (T n) w i j := by
  intro n
  induction n using Nat.strongRecOn with
  | ind n ih =>
    intro hn hr i hi j
    rw [hS n hn hr i hi j, hT n hn hr]
    generalize hx : nd n = x at hr ⊢
    have hw1 := hw n hn
    rw [hx] at hw1
    have hw2 := hw1 hr
    unfold ns_eq nt_op
    by_cases k60 : nq_k x = 60
    · rw [if_pos k60, if_pos k60, nt_cond_a]
      constructor
      · rintro ⟨a, b, c⟩
        exact ⟨by omega, a, c⟩
      · rintro ⟨a, b, c⟩
        exact ⟨b, by omega, c⟩
    rw [if_neg k60, if_neg k60]
    obtain ⟨⟨l1, l2⟩, r1, w1, w2, w3⟩ := hw2 k60
    have hl := ih (nq_l x) l1 (by omega) l2
    have hrr : nq_two (nq_k x) → ∀ i, i ≤ Z → ∀ j, S (nq_r x) i j ↔ j ≤ Z ∧ nt_a (T (nq_r x)) w i j := fun h2 => ih (nq_r x) (r1 h2).1 (by have := (r1 h2).1; omega) (r1 h2).2
    by_cases k23 : nq_k x = 23
    · rw [if_pos k23, if_pos k23, nt_chain_a]
      have hb := hrr (by unfold nq_two; omega)
      constructor
      · rintro ⟨k, a, b⟩
        obtain ⟨a1, a2⟩ := (hl i hi k).mp a
        obtain ⟨b1, b2⟩ := (hb k a1 j).mp b
        exact ⟨b1, k, a2, b2⟩
      · rintro ⟨b1, k, a2, b2⟩
        have := nt_a_le _ _ b2
        exact ⟨k, (hl i hi k).mpr ⟨by omega, a2⟩, (hb k (by omega) j).mpr ⟨b1, b2⟩⟩
    rw [if_neg k23, if_neg k23]
    by_cases k24 : nq_k x = 24
    · rw [if_pos k24, if_pos k24, nt_fuse_a]
      have hb := hrr (by unfold nq_two; omega)
      constructor
      · rintro ⟨k, h0, a, b, h1⟩
        obtain ⟨a1, a2⟩ := (hl i hi (k + 1)).mp a
        obtain ⟨b1, b2⟩ := (hb k (by omega) j).mp b
        exact ⟨b1, k, h0, a2, (na_a_r h1).mp b2⟩
      · rintro ⟨b1, k, h0, a2, b2⟩
        have h1 := na_r_lt b2
        exact ⟨k, h0, (hl i hi (k + 1)).mpr ⟨by omega, a2⟩, (hb k (by omega) j).mpr ⟨b1, Or.inr b2⟩, h1⟩
    rw [if_neg k24, if_neg k24]
    by_cases k25 : nq_k x = 25
    · rw [if_pos k25, if_pos k25, nt_or_a, hl i hi j, hrr (by unfold nq_two; omega) i hi j]
      constructor
      · rintro (⟨a, b⟩ | ⟨a, b⟩)
        · exact ⟨a, Or.inl b⟩
        · exact ⟨a, Or.inr b⟩
      · rintro ⟨a, b | b⟩
        · exact Or.inl ⟨a, b⟩
        · exact Or.inr ⟨a, b⟩
    rw [if_neg k25, if_neg k25]
    by_cases k26 : nq_k x = 26
    · rw [if_pos k26, if_pos k26, nt_and_a, hl i hi j, hrr (by unfold nq_two; omega) i hi j]
      constructor
      · rintro ⟨⟨a, b⟩, ⟨_, c⟩⟩
        exact ⟨a, b, c⟩
      · rintro ⟨a, b, c⟩
        exact ⟨⟨a, b⟩, ⟨a, c⟩⟩
    rw [if_neg k26, if_neg k26]
    by_cases k40 : nq_k x = 40
    · rw [if_pos k40, if_pos k40, nt_star_a]
      constructor
      · rintro ⟨a, m, b⟩
        exact ⟨a, m, ((ns_stp_it hl m i hi j).mp b).2⟩
      · rintro ⟨a, m, b⟩
        exact ⟨a, m, (ns_stp_it hl m i hi j).mpr ⟨a, b⟩⟩
    rw [if_neg k40, if_neg k40]
    by_cases k41 : nq_k x = 41
    · rw [if_pos k41, if_pos k41, nt_plus_a]
      constructor
      · rintro ⟨k, a, m, b⟩
        obtain ⟨a1, a2⟩ := (hl i hi k).mp a
        obtain ⟨b1, b2⟩ := (ns_stp_it hl m k a1 j).mp b
        exact ⟨b1, k, a2, m, b2⟩
      · rintro ⟨b1, k, a2, m, b2⟩
        have := na_it_le (S := fun i k => i < k ∧ nt_a (T (nq_l x)) w i k) (fun i j h => Nat.le_of_lt h.1) m k j b2
        exact ⟨k, (hl i hi k).mpr ⟨by omega, a2⟩, m, (ns_stp_it hl m k (by omega) j).mpr ⟨b1, b2⟩⟩
    rw [if_neg k41, if_neg k41]
    by_cases k42 : nq_k x = 42
    · rw [if_pos k42, if_pos k42, nt_times_a (w1 k42)]
      constructor
      · rintro ⟨a, m, c, d, b⟩
        exact ⟨a, m, c, d, ((ns_it (fun i j h => nt_a_le i j h) hl m i hi j).mp b).2⟩
      · rintro ⟨a, m, c, d, b⟩
        exact ⟨a, m, c, d, (ns_it (fun i j h => nt_a_le i j h) hl m i hi j).mpr ⟨a, b⟩⟩
    rw [if_neg k42, if_neg k42, nt_count_a, show (decide (nq_k x = 44) = true) = (nq_k x = 44) from propext ⟨of_decide_eq_true, decide_eq_true⟩]
