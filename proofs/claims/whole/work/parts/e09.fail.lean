/-! ===== properties: what fails ===== -/
/-- parts; kinds; conditions; second ones; counts; links; what is woven -/
abbrev pd_P : Type := Nat × (Nat → Nat) × (Nat → Nat → Bool) × (Nat → Nat → Bool) × (Nat → Nat) × (Nat → Nat) × (Nat → nt_A)
def pd_m (P : pd_P) : Nat := P.1
def pd_k (P : pd_P) : Nat → Nat := P.2.1
def pd_c (P : pd_P) : Nat → Nat → Bool := P.2.2.1
def pd_d (P : pd_P) : Nat → Nat → Bool := P.2.2.2.1
def pd_t (P : pd_P) : Nat → Nat := P.2.2.2.2.1
def pd_l (P : pd_P) : Nat → Nat := P.2.2.2.2.2.1
def pd_a (P : pd_P) : Nat → nt_A := P.2.2.2.2.2.2
def pd_w (v : Nat → Nat) : Nat → Option Nat := fun k => some (v k)
/-- letters below N, wild ones behind -/
def pd_wn (v : Nat → Nat) (N : Nat) : Nat → Option Nat := fun k => if k < N then some (v k) else none
/-- where parts begin -/
def pd_B (P : pd_P) (v : Nat → Nat) (N : Nat) (B : Nat → Nat → Prop) : Prop := (∀ t, t < N → (B 0 t ↔ t = 0)) ∧ ∀ p, p < pd_m P → ∀ t, t < N →
  (pd_k P p = 2 → (B (p + 1) t ↔ ∃ i, i ≤ t ∧ B p i ∧ nt_a (pd_a P p) (pd_w v) i (t + 1))) ∧
  (pd_k P p = 3 → (B (p + 1) t ↔ ∃ i, i ≤ t ∧ B p i ∧ nt_a (pd_a P p) (pd_w v) i t)) ∧
  (pd_k P p = 4 → (B (p + 1) t ↔ B p t ∧ pd_c P p (v t) = true)) ∧
  (pd_k P p = 5 → (B (p + 1) t ↔ ∃ i, i ≤ t ∧ B p i)) ∧
  (pd_k P p = 7 → (B (p + 1) t ↔ ∃ i, B p i ∧ t = i + pd_t P p)) ∧
  (pd_k P p = 8 → (B (p + 1) t ↔ ∃ i, i ≤ t ∧ B p i ∧ ∀ u, i ≤ u → u ≤ t → pd_c P p (v u) = false)) ∧
  (pd_k P p = 10 → (B (p + 1) t ↔ B p t) ∧ (B (pd_l P p) t ↔ B p t))
/-- a part fails with the letter at t -/
def pd_f (P : pd_P) (v : Nat → Nat) (B : Nat → Nat → Prop) (p t : Nat) : Prop :=
  (pd_k P p = 0 ∧ B p t ∧ pd_c P p (v t) = false) ∨
  (pd_k P p = 1 ∧ ∃ i, i ≤ t ∧ B p i ∧ (∀ j, i ≤ j → j ≤ t → ¬ nt_a (pd_a P p) (pd_w v) i j) ∧ ∀ u, ¬ nz_s (pd_a P p) (pd_w v) i (t + 1 - i) u) ∨
  (pd_k P p = 6 ∧ ∃ i, i ≤ t ∧ (∃ i0, i0 ≤ i ∧ B p i0) ∧ nt_a (pd_a P p) (pd_w v) i (t + 1)) ∨
  (pd_k P p = 9 ∧ (∃ i, i ≤ t ∧ B p i ∧ ∀ u, i ≤ u → u < t → pd_c P p (v u) = false) ∧ pd_d P p (v t) = true)
/-- what fails of a node, by its parts -/
def fl_eq (x : nq_N) (c cl cr : Nat → Bool) (v : Nat → Nat) (N : Nat) (S : Nat → Nat → Prop) (FL FR : Nat → Prop) (i : Nat) : Prop :=
  if nq_k x = 60 then c (v i) = false
  else if nq_k x = 61 then ∀ j, ¬ S i j
  else if nq_k x = 32 then ∃ j, i < j ∧ j ≤ N ∧ S i j ∧ FR (j - 1)
  else if nq_k x = 33 then ∃ j, i ≤ j ∧ j < N ∧ S i j ∧ FR j
  else if nq_k x = 31 then cl (v i) = true ∧ FR i
  else if nq_k x = 10 then ∃ j, i ≤ j ∧ j < N ∧ FL j
  else if nq_k x = 11 then ∃ k j, i ≤ k ∧ k < j ∧ j ≤ N ∧ S k j
  else if nq_k x = 12 then i + nq_a x < N ∧ FL (i + nq_a x)
  else if nq_k x = 13 then ∃ j, i ≤ j ∧ j < N ∧ (∀ u, i ≤ u → u ≤ j → cr (v u) = false) ∧ FL j
  else if nq_k x = 14 then ∃ j, i ≤ j ∧ j < N ∧ cr (v j) = true ∧ ∀ u, i ≤ u → u < j → ¬ (cl (v u) = true ∧ cr (v u) = false)
  else FL i ∨ FR i
def fl_prop (k : Nat) : Prop := k = 60 ∨ k = 61 ∨ (31 ≤ k ∧ k ≤ 33) ∨ (10 ≤ k ∧ k ≤ 15)
def fl_sol (nd : Nat → nq_N) (hc : Nat → Nat → Bool) (v : Nat → Nat) (N cnt : Nat) (S : Nat → Nat → Nat → Prop) (Fl : Nat → Nat → Prop) : Prop := ∀ n, n < cnt → fl_prop (nq_k (nd n)) → ∀ i, i < N → (Fl n i ↔ fl_eq (nd n) (hc n) (hc (nq_l (nd n))) (hc (nq_r (nd n))) v N (S (nq_l (nd n))) (Fl (nq_l (nd n))) (Fl (nq_r (nd n))) i)
/-- a node and the parts from pa n to pb n - 1 -/
def tr_eq (P : pd_P) (x : nq_N) (c cl cr : Nat → Bool) (A : nt_A) (a b al bl ar br : Nat) : Prop :=
  (nq_k x = 60 ∧ pd_k P a = 0 ∧ (∀ v, v < 64 → pd_c P a v = c v) ∧ b = a + 1) ∨
  (nq_k x = 61 ∧ pd_k P a = 1 ∧ pd_a P a = A ∧ b = a + 1) ∨
  (nq_k x = 32 ∧ pd_k P a = 2 ∧ pd_a P a = A ∧ ar = a + 1 ∧ b = br) ∨
  (nq_k x = 33 ∧ pd_k P a = 3 ∧ pd_a P a = A ∧ ar = a + 1 ∧ b = br) ∨
  (nq_k x = 31 ∧ pd_k P a = 4 ∧ (∀ v, v < 64 → pd_c P a v = cl v) ∧ ar = a + 1 ∧ b = br) ∨
  (nq_k x = 10 ∧ pd_k P a = 5 ∧ al = a + 1 ∧ b = bl) ∨
  (nq_k x = 11 ∧ pd_k P a = 6 ∧ pd_a P a = A ∧ b = a + 1) ∨
  (nq_k x = 12 ∧ pd_k P a = 7 ∧ pd_t P a = nq_a x ∧ al = a + 1 ∧ b = bl) ∨
  (nq_k x = 13 ∧ pd_k P a = 8 ∧ (∀ v, v < 64 → pd_c P a v = cr v) ∧ al = a + 1 ∧ b = bl) ∨
  (nq_k x = 14 ∧ pd_k P a = 9 ∧ (∀ v, v < 64 → pd_c P a v = cl v) ∧ (∀ v, v < 64 → pd_d P a v = cr v) ∧ b = a + 1) ∨
  (nq_k x = 15 ∧ pd_k P a = 10 ∧ al = a + 1 ∧ ar = bl ∧ pd_l P a = bl ∧ b = br)
def tr_L (k : Nat) : Prop := k = 10 ∨ k = 12 ∨ k = 13 ∨ k = 15
def tr_R (k : Nat) : Prop := (31 ≤ k ∧ k ≤ 33) ∨ k = 15
def tr_S (k : Nat) : Prop := k = 61 ∨ k = 32 ∨ k = 33 ∨ k = 11
def tr_ok (P : pd_P) (nd : Nat → nq_N) (hc : Nat → Nat → Bool) (T : Nat → nt_A) (Q : Nat → Prop) (pa pb : Nat → Nat) : Prop := ∀ n, Q n → tr_eq P (nd n) (hc n) (hc (nq_l (nd n))) (hc (nq_r (nd n))) (T (nq_l (nd n))) (pa n) (pb n) (pa (nq_l (nd n))) (pb (nq_l (nd n))) (pa (nq_r (nd n))) (pb (nq_r (nd n))) ∧
  (tr_L (nq_k (nd n)) → nq_l (nd n) < n ∧ Q (nq_l (nd n))) ∧ (tr_R (nq_k (nd n)) → nq_r (nd n) < n ∧ Q (nq_r (nd n))) ∧ pa n < pb n ∧ pb n ≤ pd_m P
theorem na_p_w {α : Type} {D : Nat → Nat → α → Prop} {w w2 : Nat → α} : ∀ n k s t, (∀ j, k ≤ j → j < k + n → w j = w2 j) → na_p D w n k s t → na_p D w2 n k s t
  | 0, _, _, _, _, h => h
  | n + 1, k, s, t, hw, ⟨u, h1, h2⟩ => ⟨u, by rw [← hw k (Nat.le_refl _) (by omega)]; exact h1, na_p_w n (k + 1) u t (fun j a b => hw j (by omega) (by omega)) h2⟩
theorem nt_a_w {A : nt_A} {w w2 : Nat → Option Nat} {i j : Nat} (hw : ∀ k, i ≤ k → k < j → w k = w2 k) : nt_a A w i j ↔ nt_a A w2 i j := by
  rw [nz_a, nz_a]
  constructor
  · rintro ⟨h1, t, h2, h3⟩
    exact ⟨h1, t, na_p_w _ _ _ _ (fun k a b => hw k a (by omega)) h2, h3⟩
  · rintro ⟨h1, t, h2, h3⟩
    exact ⟨h1, t, na_p_w _ _ _ _ (fun k a b => (hw k a (by omega)).symm) h2, h3⟩
theorem nz_s_w {A : nt_A} {w w2 : Nat → Option Nat} {i n t : Nat} (hw : ∀ k, i ≤ k → k < i + n → w k = w2 k) : nz_s A w i n t ↔ nz_s A w2 i n t := ⟨fun h => ⟨na_p_w _ _ _ _ hw h.1, h.2⟩, fun h => ⟨na_p_w _ _ _ _ (fun k a b => (hw k a b).symm) h.1, h.2⟩⟩
/-- a row passes through states that go on -/
theorem nz_mid {A : nt_A} {w : Nat → Option Nat} {i k j : Nat} (h : nt_a A w i j) (h1 : i ≤ k) (h2 : k ≤ j) : ∃ u, nz_s A w i (k - i) u := by
  obtain ⟨_, t, g1, g2⟩ := nz_a.mp h
  rw [show j - i = (k - i) + (j - k) by omega] at g1
  obtain ⟨u, a1, a2⟩ := (na_p_add _ _ _ _ _).mp g1
  refine ⟨u, a1, fun _ => ?_⟩
  have : ∀ n k s, na_p (nz_D A) w n k s t → nz_l A s := by
    intro n
    induction n with
    | zero =>
      intro k s h
      have h : s = t := h
      subst h
      exact nz_l_F g2
    | succ n ih =>
      rintro k s ⟨v, b1, b2⟩
      exact nz_l_back b1 (ih _ _ b2)
  exact this _ _ _ a2
theorem pd_wn_lt {v : Nat → Nat} {N k : Nat} (h : k < N) : pd_wn v N k = pd_w v k := by
  unfold pd_wn
  rw [if_pos h]
  rfl
theorem pd_wn_ge {v : Nat → Nat} {N k : Nat} (h : N ≤ k) : pd_wn v N k = none := by
  unfold pd_wn
  rw [if_neg (by omega)]
theorem pd_a_wn {A : nt_A} {v : Nat → Nat} {N i j : Nat} (h : j ≤ N) : nt_a A (pd_wn v N) i j ↔ nt_a A (pd_w v) i j := nt_a_w (fun k _ hk => pd_wn_lt (by omega))
/-- { s } fails from i on -/
theorem pd_plain {A : nt_A} {v : Nat → Nat} {N Z i : Nat} (hi : i < N) (hZ : N + nt_n A + 1 ≤ Z) : (∀ j, ¬ (j ≤ Z ∧ nt_a A (pd_wn v N) i j)) ↔ ∃ t, t < N ∧ i ≤ t ∧ (∀ j, i ≤ j → j ≤ t → ¬ nt_a A (pd_w v) i j) ∧ ∀ u, ¬ nz_s A (pd_w v) i (t + 1 - i) u := by
  constructor
  · intro h
    refine ⟨N - 1, by omega, by omega, fun j h1 h2 h3 => h j ⟨by omega, (pd_a_wn (by omega)).mpr h3⟩, fun u hu => ?_⟩
    have hu2 : nz_s A (pd_wn v N) i (N - 1 + 1 - i) u := (nz_s_w (fun k _ hk => pd_wn_lt (by omega))).mpr hu
    obtain ⟨k, k1, k2, k3⟩ := (nz_goes (A := A) (w := pd_wn v N) (i := i) (n := N - 1 + 1 - i) (Z := Z) (by omega) (fun k hk => pd_wn_ge (by omega))).mpr ⟨u, hu2, hu2.2 (by omega)⟩
    exact h k ⟨k2, k3⟩
  · rintro ⟨t, t1, t2, t3, t4⟩ j ⟨j1, j2⟩
    have hij := nt_a_le _ _ j2
    by_cases hj : j ≤ t
    · exact t3 j hij hj ((pd_a_wn (by omega)).mp j2)
    · obtain ⟨u, hu⟩ := nz_mid (k := t + 1) j2 (by omega) (by omega)
      exact t4 u ((nz_s_w (fun k _ hk => pd_wn_lt (by omega))).mp hu)
/-- what a property's parts find, and what its node has -/
theorem pd_main {P : pd_P} {nd : Nat → nq_N} {hc : Nat → Nat → Bool} {T : Nat → nt_A} {Q : Nat → Prop} {pa pb : Nat → Nat} {v : Nat → Nat} {N Z cnt : Nat} {S : Nat → Nat → Nat → Prop} {Fl : Nat → Nat → Prop} {B : Nat → Nat → Prop}
    (hv : ∀ i, i < N → v i < 64) (htr : tr_ok P nd hc T Q pa pb) (hQ : ∀ n, Q n → n < cnt ∧ fl_prop (nq_k (nd n)))
    (hS : ∀ n, Q n → tr_S (nq_k (nd n)) → (∀ i, i ≤ Z → ∀ j, S (nq_l (nd n)) i j ↔ j ≤ Z ∧ nt_a (T (nq_l (nd n))) (pd_wn v N) i j) ∧ N + nt_n (T (nq_l (nd n))) + 1 ≤ Z)
    (hF : fl_sol nd hc v N cnt S Fl) (hB : pd_B P v N B) :
    ∀ n, Q n → ((∃ t p, t < N ∧ pa n ≤ p ∧ p < pb n ∧ pd_f P v B p t) ↔ ∃ i, i < N ∧ B (pa n) i ∧ Fl n i) := by
  intro n
  induction n using Nat.strongRecOn with
  | ind n ih =>
    intro hq
    obtain ⟨htr1, hL, hR, hab, hbm⟩ := htr n hq
    have hF1 := hF n (hQ n hq).1 (hQ n hq).2
    have hS1 := hS n hq
    have ihL := fun h => ih (nq_l (nd n)) (hL h).1 (hL h).2
    have ihR := fun h => ih (nq_r (nd n)) (hR h).1 (hR h).2
    have hrl := fun h => (htr (nq_l (nd n)) (hL h).2).2.2.2.1
    have hrr := fun h => (htr (nq_r (nd n)) (hR h).2).2.2.2.1
    clear ih htr hF hS hQ hL hR
    generalize nd n = x at *
    generalize pa n = a at *
    generalize pb n = b at *
    generalize pa (nq_l x) = al at *
    generalize pb (nq_l x) = bl at *
    generalize pa (nq_r x) = ar at *
    generalize pb (nq_r x) = br at *
    -- one part alone
    have one : b = a + 1 → ((∃ t p, t < N ∧ a ≤ p ∧ p < b ∧ pd_f P v B p t) ↔ ∃ t, t < N ∧ pd_f P v B a t) := by
      intro e
      constructor
      · rintro ⟨t, p, h1, h2, h3, h4⟩
        have : p = a := by omega
        subst this
        exact ⟨t, h1, h4⟩
      · rintro ⟨t, h1, h4⟩
        exact ⟨t, a, h1, Nat.le_refl _, by omega, h4⟩
    -- a part that fails nothing itself, and the parts behind it
    have sub : ∀ c, pd_k P a = c → ¬ (c = 0 ∨ c = 1 ∨ c = 6 ∨ c = 9) → ∀ t, ¬ pd_f P v B a t := by
      rintro c e hc2 t (⟨h, _⟩ | ⟨h, _⟩ | ⟨h, _⟩ | ⟨h, _⟩) <;> omega
    have more : (∀ t, ¬ pd_f P v B a t) → ∀ b2, a + 1 ≤ b2 → ((∃ t p, t < N ∧ a ≤ p ∧ p < b2 ∧ pd_f P v B p t) ↔ ∃ t p, t < N ∧ a + 1 ≤ p ∧ p < b2 ∧ pd_f P v B p t) := by
      intro hno b2 _
      constructor
      · rintro ⟨t, p, h1, h2, h3, h4⟩
        refine ⟨t, p, h1, ?_, h3, h4⟩
        rcases Nat.eq_or_lt_of_le h2 with e | e
        · subst e
          exact (hno t h4).elim
        · exact e
      · rintro ⟨t, p, h1, h2, h3, h4⟩
        exact ⟨t, p, h1, by omega, h3, h4⟩
    have hB2 := hB.2 a (by omega)
    unfold fl_eq at hF1
    rcases htr1 with ⟨k, e1, e2, e3⟩ | ⟨k, e1, e2, e3⟩ | ⟨k, e1, e2, e3, e4⟩ | ⟨k, e1, e2, e3, e4⟩ | ⟨k, e1, e2, e3, e4⟩ | ⟨k, e1, e3, e4⟩ | ⟨k, e1, e2, e3⟩ | ⟨k, e1, e2, e3, e4⟩ | ⟨k, e1, e2, e3, e4⟩ | ⟨k, e1, e2, e3, e4⟩ | ⟨k, e1, e2, e3, e4, e5⟩
    · -- a condition
      rw [one e3]
      constructor
      · rintro ⟨t, t1, (⟨h, h2, h3⟩ | ⟨h, _⟩ | ⟨h, _⟩ | ⟨h, _⟩)⟩
        · refine ⟨t, t1, h2, ?_⟩
          rw [hF1 t t1, if_pos k, ← e2 _ (hv t t1)]
          exact h3
        all_goals omega
      · rintro ⟨i, i1, i2, i3⟩
        rw [hF1 i i1, if_pos k, ← e2 _ (hv i i1)] at i3
        exact ⟨i, i1, Or.inl ⟨e1, i2, i3⟩⟩
    · -- { s }
      rw [one e3]
      obtain ⟨s1, s2⟩ := hS1 (Or.inl k)
      have key : ∀ i, i < N → (Fl n i ↔ ∃ t, t < N ∧ i ≤ t ∧ (∀ j, i ≤ j → j ≤ t → ¬ nt_a (T (nq_l x)) (pd_w v) i j) ∧ ∀ u, ¬ nz_s (T (nq_l x)) (pd_w v) i (t + 1 - i) u) := by
        intro i hi
        rw [hF1 i hi, if_neg (by omega), if_pos k, ← pd_plain (Z := Z) hi s2]
        constructor
        · exact fun h j g => h j ((s1 i (by omega) j).mpr g)
        · exact fun h j g => h j ((s1 i (by omega) j).mp g)
      constructor
      · rintro ⟨t, t1, (⟨h, _⟩ | ⟨h, i, h2, h3, h4, h5⟩ | ⟨h, _⟩ | ⟨h, _⟩)⟩
        · omega
        · rw [e2] at h4 h5
          exact ⟨i, by omega, h3, (key i (by omega)).mpr ⟨t, t1, h2, h4, h5⟩⟩
        all_goals omega
      · rintro ⟨i, i1, i2, i3⟩
        obtain ⟨t, t1, h2, h4, h5⟩ := (key i i1).mp i3
        rw [← e2] at h4 h5
        exact ⟨t, t1, Or.inr (Or.inl ⟨e1, i, h2, i2, h4, h5⟩)⟩
    · -- { r } |-> p
      have hr := hrr (Or.inl (by omega))
      rw [more (sub 2 e1 (by omega)) b (by omega), ← e3, e4, ihR (Or.inl (by omega))]
      obtain ⟨s1, s2⟩ := hS1 (Or.inr (Or.inl k))
      constructor
      · rintro ⟨t, t1, t2, t3⟩
        rw [e3] at t2
        obtain ⟨i, i1, i2, i3⟩ := ((hB2 t t1).1 e1).mp t2
        refine ⟨i, by omega, i2, ?_⟩
        rw [hF1 i (by omega), if_neg (by omega), if_neg (by omega), if_pos k]
        rw [e2] at i3
        exact ⟨t + 1, by omega, by omega, (s1 i (by omega) (t + 1)).mpr ⟨by omega, (pd_a_wn (by omega)).mpr i3⟩, t3⟩
      · rintro ⟨i, i1, i2, i3⟩
        rw [hF1 i i1, if_neg (by omega), if_neg (by omega), if_pos k] at i3
        obtain ⟨j, j1, j2, j3, j4⟩ := i3
        refine ⟨j - 1, by omega, ?_, j4⟩
        rw [e3]
        refine ((hB2 (j - 1) (by omega)).1 e1).mpr ⟨i, by omega, i2, ?_⟩
        rw [e2, show j - 1 + 1 = j by omega]
        exact (pd_a_wn (by omega)).mp ((s1 i (by omega) j).mp j3).2
    · -- { r } |=> p
      have hr := hrr (Or.inl (by omega))
      rw [more (sub 3 e1 (by omega)) b (by omega), ← e3, e4, ihR (Or.inl (by omega))]
      obtain ⟨s1, s2⟩ := hS1 (Or.inr (Or.inr (Or.inl k)))
      constructor
      · rintro ⟨t, t1, t2, t3⟩
        rw [e3] at t2
        obtain ⟨i, i1, i2, i3⟩ := ((hB2 t t1).2.1 e1).mp t2
        refine ⟨i, by omega, i2, ?_⟩
        rw [hF1 i (by omega), if_neg (by omega), if_neg (by omega), if_neg (by omega), if_pos k]
        rw [e2] at i3
        exact ⟨t, i1, t1, (s1 i (by omega) t).mpr ⟨by omega, (pd_a_wn (by omega)).mpr i3⟩, t3⟩
      · rintro ⟨i, i1, i2, i3⟩
        rw [hF1 i i1, if_neg (by omega), if_neg (by omega), if_neg (by omega), if_pos k] at i3
        obtain ⟨j, j1, j2, j3, j4⟩ := i3
        refine ⟨j, j2, ?_, j4⟩
        rw [e3]
        refine ((hB2 j j2).2.1 e1).mpr ⟨i, j1, i2, ?_⟩
        rw [e2]
        exact (pd_a_wn (by omega)).mp ((s1 i (by omega) j).mp j3).2
    · -- c -> p
      have hr := hrr (Or.inl (by omega))
      rw [more (sub 4 e1 (by omega)) b (by omega), ← e3, e4, ihR (Or.inl (by omega))]
      have key : ∀ i, i < N → (Fl n i ↔ pd_c P a (v i) = true ∧ Fl (nq_r x) i) := by
        intro i hi
        rw [hF1 i hi, if_neg (by omega), if_neg (by omega), if_neg (by omega), if_neg (by omega), if_pos k, e2 _ (hv i hi)]
      constructor
      · rintro ⟨t, t1, t2, t3⟩
        rw [e3] at t2
        obtain ⟨i2, i3⟩ := ((hB2 t t1).2.2.1 e1).mp t2
        exact ⟨t, t1, i2, (key t t1).mpr ⟨i3, t3⟩⟩
      · rintro ⟨i, i1, i2, i3⟩
        obtain ⟨j1, j2⟩ := (key i i1).mp i3
        refine ⟨i, i1, ?_, j2⟩
        rw [e3]
        exact ((hB2 i i1).2.2.1 e1).mpr ⟨i2, j1⟩
    · -- always p
      have hr := hrl (Or.inl k)
      rw [more (sub 5 e1 (by omega)) b (by omega), ← e3, e4, ihL (Or.inl k)]
      have key : ∀ i, i < N → (Fl n i ↔ ∃ j, i ≤ j ∧ j < N ∧ Fl (nq_l x) j) := by
        intro i hi
        rw [hF1 i hi, if_neg (by omega), if_neg (by omega), if_neg (by omega), if_neg (by omega), if_neg (by omega), if_pos k]
      constructor
      · rintro ⟨t, t1, t2, t3⟩
        rw [e3] at t2
        obtain ⟨i, i1, i2⟩ := ((hB2 t t1).2.2.2.1 e1).mp t2
        exact ⟨i, by omega, i2, (key i (by omega)).mpr ⟨t, i1, t1, t3⟩⟩
      · rintro ⟨i, i1, i2, i3⟩
        obtain ⟨j, j1, j2, j3⟩ := (key i i1).mp i3
        refine ⟨j, j2, ?_, j3⟩
        rw [e3]
        exact ((hB2 j j2).2.2.2.1 e1).mpr ⟨i, j1, i2⟩
    · -- never { r }
      rw [one e3]
      obtain ⟨s1, s2⟩ := hS1 (Or.inr (Or.inr (Or.inr k)))
      have key : ∀ i, i < N → (Fl n i ↔ ∃ k j, i ≤ k ∧ k < j ∧ j ≤ N ∧ nt_a (T (nq_l x)) (pd_w v) k j) := by
        intro i hi
        rw [hF1 i hi, if_neg (by omega), if_neg (by omega), if_neg (by omega), if_neg (by omega), if_neg (by omega), if_neg (by omega), if_pos k]
        constructor
        · rintro ⟨k, j, h1, h2, h3, h4⟩
          exact ⟨k, j, h1, h2, h3, (pd_a_wn h3).mp ((s1 k (by omega) j).mp h4).2⟩
        · rintro ⟨k, j, h1, h2, h3, h4⟩
          exact ⟨k, j, h1, h2, h3, (s1 k (by omega) j).mpr ⟨by omega, (pd_a_wn h3).mpr h4⟩⟩
      constructor
      · rintro ⟨t, t1, (⟨h, _⟩ | ⟨h, _⟩ | ⟨h, i, h2, ⟨i0, i1, i2⟩, h4⟩ | ⟨h, _⟩)⟩
        · omega
        · omega
        · rw [e2] at h4
          exact ⟨i0, by omega, i2, (key i0 (by omega)).mpr ⟨i, t + 1, i1, by omega, by omega, h4⟩⟩
        · omega
      · rintro ⟨i, i1, i2, i3⟩
        obtain ⟨k1, j, h1, h2, h3, h4⟩ := (key i i1).mp i3
        refine ⟨j - 1, by omega, Or.inr (Or.inr (Or.inl ⟨e1, k1, by omega, ⟨i, h1, i2⟩, ?_⟩))⟩
        rw [e2, show j - 1 + 1 = j by omega]
        exact h4
    · -- next p
      have hr := hrl (Or.inr (Or.inl k))
      rw [more (sub 7 e1 (by omega)) b (by omega), ← e3, e4, ihL (Or.inr (Or.inl k))]
      have key : ∀ i, i < N → (Fl n i ↔ i + pd_t P a < N ∧ Fl (nq_l x) (i + pd_t P a)) := by
        intro i hi
        rw [hF1 i hi, if_neg (by omega), if_neg (by omega), if_neg (by omega), if_neg (by omega), if_neg (by omega), if_neg (by omega), if_neg (by omega), if_pos k, e2]
      constructor
      · rintro ⟨t, t1, t2, t3⟩
        rw [e3] at t2
        obtain ⟨i, i1, i2⟩ := ((hB2 t t1).2.2.2.2.1 e1).mp t2
        subst i2
        exact ⟨i, by omega, i1, (key i (by omega)).mpr ⟨t1, t3⟩⟩
      · rintro ⟨i, i1, i2, i3⟩
        obtain ⟨j1, j2⟩ := (key i i1).mp i3
        refine ⟨_, j1, ?_, j2⟩
        rw [e3]
        exact ((hB2 _ j1).2.2.2.2.1 e1).mpr ⟨i, i2, rfl⟩
    · -- ( p until c )
      have hr := hrl (Or.inr (Or.inr (Or.inl k)))
      rw [more (sub 8 e1 (by omega)) b (by omega), ← e3, e4, ihL (Or.inr (Or.inr (Or.inl k)))]
      have key : ∀ i, i < N → (Fl n i ↔ ∃ j, i ≤ j ∧ j < N ∧ (∀ u, i ≤ u → u ≤ j → pd_c P a (v u) = false) ∧ Fl (nq_l x) j) := by
        intro i hi
        rw [hF1 i hi, if_neg (by omega), if_neg (by omega), if_neg (by omega), if_neg (by omega), if_neg (by omega), if_neg (by omega), if_neg (by omega), if_neg (by omega), if_pos k]
        constructor
        · rintro ⟨j, h1, h2, h3, h4⟩
          exact ⟨j, h1, h2, fun u u1 u2 => by rw [e2 _ (hv u (by omega))]; exact h3 u u1 u2, h4⟩
        · rintro ⟨j, h1, h2, h3, h4⟩
          exact ⟨j, h1, h2, fun u u1 u2 => by rw [← e2 _ (hv u (by omega))]; exact h3 u u1 u2, h4⟩
      constructor
      · rintro ⟨t, t1, t2, t3⟩
        rw [e3] at t2
        obtain ⟨i, i1, i2, i3⟩ := ((hB2 t t1).2.2.2.2.2.1 e1).mp t2
        exact ⟨i, by omega, i2, (key i (by omega)).mpr ⟨t, i1, t1, i3, t3⟩⟩
      · rintro ⟨i, i1, i2, i3⟩
        obtain ⟨j, j1, j2, j3, j4⟩ := (key i i1).mp i3
        refine ⟨j, j2, ?_, j4⟩
        rw [e3]
        exact ((hB2 j j2).2.2.2.2.2.1 e1).mpr ⟨i, j1, i2, j3⟩
    · -- ( c before d )
      rw [one e4]
      have key : ∀ i, i < N → (Fl n i ↔ ∃ j, i ≤ j ∧ j < N ∧ pd_d P a (v j) = true ∧ ∀ u, i ≤ u → u < j → ¬ (pd_c P a (v u) = true ∧ pd_d P a (v u) = false)) := by
        intro i hi
        rw [hF1 i hi, if_neg (by omega), if_neg (by omega), if_neg (by omega), if_neg (by omega), if_neg (by omega), if_neg (by omega), if_neg (by omega), if_neg (by omega), if_neg (by omega), if_pos k]
        constructor
        · rintro ⟨j, h1, h2, h3, h4⟩
          exact ⟨j, h1, h2, by rw [e3 _ (hv j h2)]; exact h3, fun u u1 u2 => by rw [e2 _ (hv u (by omega)), e3 _ (hv u (by omega))]; exact h4 u u1 u2⟩
        · rintro ⟨j, h1, h2, h3, h4⟩
          exact ⟨j, h1, h2, by rw [← e3 _ (hv j h2)]; exact h3, fun u u1 u2 => by rw [← e2 _ (hv u (by omega)), ← e3 _ (hv u (by omega))]; exact h4 u u1 u2⟩
      constructor
      · rintro ⟨t, t1, (⟨h, _⟩ | ⟨h, _⟩ | ⟨h, _⟩ | ⟨h, ⟨i, h2, h3, h4⟩, h5⟩)⟩
        · omega
        · omega
        · omega
        · refine ⟨i, by omega, h3, (key i (by omega)).mpr ⟨t, h2, t1, h5, fun u u1 u2 u3 => ?_⟩⟩
          rw [h4 u u1 u2] at u3
          cases u3.1
      · rintro ⟨i, i1, i2, i3⟩
        obtain ⟨j, j1, j2, j3, j4⟩ := (key i i1).mp i3
        -- the first letter with d
        have fst : ∀ m, m ≤ j - i → pd_d P a (v (i + m)) = true → ∃ f, i ≤ f ∧ f ≤ j ∧ pd_d P a (v f) = true ∧ ∀ u, i ≤ u → u < f → pd_d P a (v u) = false := by
          intro m
          induction m using Nat.strongRecOn with
          | ind m ihm =>
            intro hm hd
            by_cases hx : ∃ m2, m2 < m ∧ pd_d P a (v (i + m2)) = true
            · obtain ⟨m2, h1, h2⟩ := hx
              exact ihm m2 h1 (by omega) h2
            · refine ⟨i + m, by omega, by omega, hd, fun u u1 u2 => ?_⟩
              cases hb : pd_d P a (v u)
              · rfl
              · exact (hx ⟨u - i, by omega, by rw [show i + (u - i) = u by omega]; exact hb⟩).elim
        obtain ⟨f, f1, f2, f3, f4⟩ := fst (j - i) (Nat.le_refl _) (by rw [show i + (j - i) = j by omega]; exact j3)
        refine ⟨f, by omega, Or.inr (Or.inr (Or.inr ⟨e1, ⟨i, f1, i2, fun u u1 u2 => ?_⟩, f3⟩))⟩
        cases hb : pd_c P a (v u)
        · rfl
        · exact (j4 u u1 (by omega) ⟨hb, f4 u u1 u2⟩).elim
    · -- ( p and q )
      have hl := hrl (Or.inr (Or.inr (Or.inr k)))
      have hr := hrr (Or.inr k)
      rw [more (sub 10 e1 (by omega)) b (by omega)]
      have i1 := ihL (Or.inr (Or.inr (Or.inr k)))
      have i2 := ihR (Or.inr k)
      have key : ∀ i, i < N → (Fl n i ↔ Fl (nq_l x) i ∨ Fl (nq_r x) i) := by
        intro i hi
        rw [hF1 i hi, if_neg (by omega), if_neg (by omega), if_neg (by omega), if_neg (by omega), if_neg (by omega), if_neg (by omega), if_neg (by omega), if_neg (by omega), if_neg (by omega), if_neg (by omega)]
      have hBl : ∀ t, t < N → (B al t ↔ B a t) := fun t ht => by rw [e2]; exact ((hB2 t ht).2.2.2.2.2.2 e1).1
      have hBr : ∀ t, t < N → (B ar t ↔ B a t) := fun t ht => by rw [e3, ← e4]; exact ((hB2 t ht).2.2.2.2.2.2 e1).2
      constructor
      · rintro ⟨t, p, t1, t2, t3, t4⟩
        by_cases hp : p < bl
        · obtain ⟨i, j1, j2, j3⟩ := i1.mp ⟨t, p, t1, by omega, hp, t4⟩
          exact ⟨i, j1, (hBl i j1).mp j2, (key i j1).mpr (Or.inl j3)⟩
        · obtain ⟨i, j1, j2, j3⟩ := i2.mp ⟨t, p, t1, by omega, by omega, t4⟩
          exact ⟨i, j1, (hBr i j1).mp j2, (key i j1).mpr (Or.inr j3)⟩
      · rintro ⟨i, j1, j2, j3⟩
        rcases (key i j1).mp j3 with j4 | j4
        · obtain ⟨t, p, t1, t2, t3, t4⟩ := i1.mpr ⟨i, j1, (hBl i j1).mpr j2, j4⟩
          exact ⟨t, p, t1, by omega, by omega, t4⟩
        · obtain ⟨t, p, t1, t2, t3, t4⟩ := i2.mpr ⟨i, j1, (hBr i j1).mpr j2, j4⟩
          exact ⟨t, p, t1, by omega, by omega, t4⟩
