/-! ===== which parts feed which; plain rows ===== -/
/-- which parts feed which words, within a node -/
theorem sc_tr {P : pd_P} {nd : Nat → nq_N} {hc : Nat → Nat → Bool} {T : Nat → nt_A} {Q : Nat → Prop} {pa pb : Nat → Nat} (htr : tr_ok P nd hc T Q pa pb) : ∀ n, Q n → (∀ p q, pa n ≤ p → p < pb n → sc_T P p q → p < q ∧ q < pb n) ∧ (∀ p s q, pa n ≤ p → p < pb n → pa n ≤ s → s < pb n → sc_T P p q → sc_T P s q → p = s) := by
  intro n
  induction n using Nat.strongRecOn with
  | ind n ih =>
    intro hq
    obtain ⟨htr1, hL, hR, hab, hbm⟩ := htr n hq
    have ihL := fun h => ih (nq_l (nd n)) (hL h).1 (hL h).2
    have ihR := fun h => ih (nq_r (nd n)) (hR h).1 (hR h).2
    have hrl := fun h => (htr (nq_l (nd n)) (hL h).2).2.2.2.1
    have hrr := fun h => (htr (nq_r (nd n)) (hR h).2).2.2.2.1
    clear ih htr hL hR
    generalize nd n = x at *
    generalize pa n = a at *
    generalize pb n = b at *
    generalize pa (nq_l x) = al at *
    generalize pb (nq_l x) = bl at *
    generalize pa (nq_r x) = ar at *
    generalize pb (nq_r x) = br at *
    have one : (pd_k P a = 0 ∨ pd_k P a = 1 ∨ pd_k P a = 6 ∨ pd_k P a = 9) → b = a + 1 → (∀ p q, a ≤ p → p < b → sc_T P p q → p < q ∧ q < b) ∧ (∀ p s q, a ≤ p → p < b → a ≤ s → s < b → sc_T P p q → sc_T P s q → p = s) := by
      intro hk hb
      have no : ∀ p q, a ≤ p → p < b → ¬ sc_T P p q := fun p q h1 h2 h3 => by
        have e : p = a := by omega
        subst e
        rcases h3 with ⟨_, h3⟩ | ⟨h3, _⟩ <;> omega
      exact ⟨fun p q h1 h2 h3 => (no p q h1 h2 h3).elim, fun p s q h1 h2 h3 h4 h5 => (no p q h1 h2 h5).elim⟩
    have two : (pd_k P a = 2 ∨ pd_k P a = 3 ∨ pd_k P a = 4 ∨ pd_k P a = 5 ∨ pd_k P a = 7 ∨ pd_k P a = 8) → a + 1 < b → (∀ p q, a + 1 ≤ p → p < b → sc_T P p q → p < q ∧ q < b) ∧ (∀ p s q, a + 1 ≤ p → p < b → a + 1 ≤ s → s < b → sc_T P p q → sc_T P s q → p = s) → (∀ p q, a ≤ p → p < b → sc_T P p q → p < q ∧ q < b) ∧ (∀ p s q, a ≤ p → p < b → a ≤ s → s < b → sc_T P p q → sc_T P s q → p = s) := by
      rintro hk hb ⟨i1, i2⟩
      have ta : ∀ q, sc_T P a q → q = a + 1 := fun q z => by
        rcases z with ⟨z, _⟩ | ⟨z, _⟩
        · exact z
        · omega
      have r1 : ∀ p q, a ≤ p → p < b → sc_T P p q → p < q ∧ q < b := fun p q h1 h2 h3 => by
        by_cases e : p = a
        · subst e
          have := ta q h3
          omega
        · exact i1 p q (by omega) h2 h3
      refine ⟨r1, fun p s q h1 h2 h3 h4 h5 h6 => ?_⟩
      have g1 := r1 p q h1 h2 h5
      have g2 := r1 s q h3 h4 h6
      by_cases e : p = a
      · by_cases f : s = a
        · omega
        · subst e
          have := ta q h5
          omega
      · by_cases f : s = a
        · subst f
          have := ta q h6
          omega
        · exact i2 p s q (by omega) h2 (by omega) h4 h5 h6
    rcases htr1 with ⟨k, k2, _, e⟩ | ⟨k, k2, _, e⟩ | ⟨k, k2, _, e1, e2⟩ | ⟨k, k2, _, e1, e2⟩ | ⟨k, k2, _, e1, e2⟩ | ⟨k, k2, e1, e2⟩ | ⟨k, k2, _, e⟩ | ⟨k, k2, _, e1, e2⟩ | ⟨k, k2, _, e1, e2⟩ | ⟨k, k2, _, _, e⟩ | ⟨k, k2, e1, e2, e3, e4⟩
    · exact one (by omega) e
    · exact one (by omega) e
    · have hr : tr_R (nq_k x) := by unfold tr_R; omega
      have i := ihR hr
      have g := hrr hr
      rw [e1] at i g
      exact two (by omega) (by omega) (by rw [e2]; exact i)
    · have hr : tr_R (nq_k x) := by unfold tr_R; omega
      have i := ihR hr
      have g := hrr hr
      rw [e1] at i g
      exact two (by omega) (by omega) (by rw [e2]; exact i)
    · have hr : tr_R (nq_k x) := by unfold tr_R; omega
      have i := ihR hr
      have g := hrr hr
      rw [e1] at i g
      exact two (by omega) (by omega) (by rw [e2]; exact i)
    · have hr : tr_L (nq_k x) := by unfold tr_L; omega
      have i := ihL hr
      have g := hrl hr
      rw [e1] at i g
      exact two (by omega) (by omega) (by rw [e2]; exact i)
    · exact one (by omega) e
    · have hr : tr_L (nq_k x) := by unfold tr_L; omega
      have i := ihL hr
      have g := hrl hr
      rw [e1] at i g
      exact two (by omega) (by omega) (by rw [e2]; exact i)
    · have hr : tr_L (nq_k x) := by unfold tr_L; omega
      have i := ihL hr
      have g := hrl hr
      rw [e1] at i g
      exact two (by omega) (by omega) (by rw [e2]; exact i)
    · exact one (by omega) e
    · have hl : tr_L (nq_k x) := by unfold tr_L; omega
      have hr : tr_R (nq_k x) := by unfold tr_R; omega
      obtain ⟨l1, l2⟩ := ihL hl
      obtain ⟨r1, r2⟩ := ihR hr
      have gl := hrl hl
      have gr := hrr hr
      clear ihL ihR hrl hrr one two
      have ta : ∀ q, sc_T P a q → q = a + 1 ∨ q = bl := fun q z => by
        rcases z with ⟨z, _⟩ | ⟨_, z⟩
        · exact Or.inl z
        · exact Or.inr (by omega)
      have w1 : ∀ p q, a ≤ p → p < b → sc_T P p q → p < q ∧ q < b ∧ (a < p → p < bl → q < bl) := fun p q h1 h2 h3 => by
        by_cases c : p = a
        · subst c
          have := ta q h3
          omega
        · by_cases c2 : p < bl
          · have := l1 p q (by omega) c2 h3
            omega
          · have := r1 p q (by omega) (by omega) h3
            omega
      refine ⟨fun p q h1 h2 h3 => ⟨(w1 p q h1 h2 h3).1, (w1 p q h1 h2 h3).2.1⟩, fun p s q h1 h2 h3 h4 h5 h6 => ?_⟩
      have g1 := w1 p q h1 h2 h5
      have g2 := w1 s q h3 h4 h6
      by_cases c : p = a
      · by_cases d : s = a
        · omega
        · subst c
          have := ta q h5
          omega
      · by_cases d : s = a
        · subst d
          have := ta q h6
          omega
        · by_cases c2 : p < bl
          · by_cases d2 : s < bl
            · exact l2 p s q (by omega) c2 (by omega) d2 h5 h6
            · omega
          · by_cases d2 : s < bl
            · omega
            · exact r2 p s q (by omega) (by omega) (by omega) (by omega) h5 h6
/-- a part fails with the letter at N, and not before -/
def sc_f (P : pd_P) (v : Nat → Nat) (W : Nat → Nat → Prop) (N p : Nat) : Prop :=
  (pd_k P p = 0 ∧ W p N ∧ pd_c P p (v N) = false) ∨
  (pd_k P p = 1 ∧ ∃ i, i ≤ N ∧ W p i ∧ (∀ j, i ≤ j → j ≤ N → ¬ nt_a (pd_a P p) (pd_w v) i j) ∧ (∃ u, nz_s (pd_a P p) (pd_w v) i (N - i) u) ∧ ∀ u, ¬ nz_s (pd_a P p) (pd_w v) i (N + 1 - i) u) ∨
  (pd_k P p = 6 ∧ ∃ i, i ≤ N ∧ (∃ i0, i0 ≤ i ∧ W p i0) ∧ nt_a (pd_a P p) (pd_w v) i (N + 1)) ∨
  (pd_k P p = 9 ∧ (∃ i, i ≤ N ∧ W p i ∧ ∀ u, i ≤ u → u < N → pd_c P p (v u) = false) ∧ pd_d P p (v N) = true)
theorem sc_f_1 {P : pd_P} {v : Nat → Nat} {W : Nat → Nat → Prop} {N p : Nat} (h : sc_f P v W N p) : pd_f P v W p N := by
  rcases h with h | ⟨k, i, h1, h2, h3, _, h5⟩ | h | h
  · exact Or.inl h
  · exact Or.inr (Or.inl ⟨k, i, h1, h2, h3, h5⟩)
  · exact Or.inr (Or.inr (Or.inl h))
  · exact Or.inr (Or.inr (Or.inr h))
theorem sc_f_2 {P : pd_P} {v : Nat → Nat} {W : Nat → Nat → Prop} {t p : Nat} (h : pd_f P v W p t) : ∃ t2, t2 ≤ t ∧ sc_f P v W t2 p := by
  rcases h with h | ⟨k, i, h1, h2, h3, h5⟩ | h | h
  · exact ⟨t, Nat.le_refl _, Or.inl h⟩
  · have key : ∀ d, i + d ≤ t → (∀ u, ¬ nz_s (pd_a P p) (pd_w v) i (d + 1) u) → ∃ t2, t2 ≤ t ∧ sc_f P v W t2 p := by
      intro d
      induction d with
      | zero =>
        intro hd hu
        refine ⟨i, h1, Or.inr (Or.inl ⟨k, i, Nat.le_refl _, h2, fun j j1 j2 => h3 j j1 (by omega), ⟨0, ?_⟩, ?_⟩)⟩
        · rw [Nat.sub_self]
          exact nz_s_0.mpr rfl
        · rw [show i + 1 - i = 0 + 1 by omega]
          exact hu
      | succ d ihd =>
        intro hd hu
        by_cases c : ∃ u, nz_s (pd_a P p) (pd_w v) i (d + 1) u
        · refine ⟨i + (d + 1), hd, Or.inr (Or.inl ⟨k, i, by omega, h2, fun j j1 j2 => h3 j j1 (by omega), ?_, ?_⟩)⟩
          · rw [show i + (d + 1) - i = d + 1 by omega]
            exact c
          · rw [show i + (d + 1) + 1 - i = d + 1 + 1 by omega]
            exact hu
        · exact ihd (by omega) (fun u hu2 => c ⟨u, hu2⟩)
    refine key (t - i) (by omega) ?_
    rw [show t - i + 1 = t + 1 - i by omega]
    exact h5
  · exact ⟨t, Nat.le_refl _, Or.inr (Or.inr (Or.inl h))⟩
  · exact ⟨t, Nat.le_refl _, Or.inr (Or.inr (Or.inr h))⟩
theorem sc_f_all {P : pd_P} {v : Nat → Nat} {W : Nat → Nat → Prop} {N m : Nat} : (∃ t p, t < N ∧ p < m ∧ sc_f P v W t p) ↔ ∃ t p, t < N ∧ p < m ∧ pd_f P v W p t := by
  constructor
  · rintro ⟨t, p, h1, h2, h3⟩
    exact ⟨t, p, h1, h2, sc_f_1 h3⟩
  · rintro ⟨t, p, h1, h2, h3⟩
    obtain ⟨t2, a, b⟩ := sc_f_2 h3
    exact ⟨t2, p, by omega, h2, b⟩
/-- begins whose rows are still under way -/
def sc_li (A : nt_A) (v : Nat → Nat) (i n : Nat) : Prop := (∀ j, i ≤ j → j ≤ n → ¬ nt_a A (pd_w v) i j) ∧ ∃ u, nz_s A (pd_w v) i (n - i) u
theorem sc_li_s {A : nt_A} {v : Nat → Nat} {i n : Nat} (h : i ≤ n) : sc_li A v i (n + 1) ↔ sc_li A v i n ∧ ¬ nt_a A (pd_w v) i (n + 1) ∧ ∃ u, nz_s A (pd_w v) i (n + 1 - i) u := by
  constructor
  · rintro ⟨h1, u, h2⟩
    refine ⟨⟨fun j j1 j2 => h1 j j1 (by omega), ?_⟩, h1 (n + 1) (by omega) (Nat.le_refl _), u, h2⟩
    rw [show n + 1 - i = (n - i) + 1 by omega] at h2
    obtain ⟨s, s1, _⟩ := nz_s_1.mp h2
    exact ⟨s, s1⟩
  · rintro ⟨⟨h1, _⟩, h2, h3⟩
    refine ⟨fun j j1 j2 => ?_, h3⟩
    by_cases e : j = n + 1
    · subst e
      exact h2
    · exact h1 j j1 (by omega)
/-- the rows of a plain part -/
def sc_L (A : nt_A) (v : Nat → Nat) (U : Nat → Prop) (n M c : Nat) (sl : Nat → Int64) : Prop := ∃ ts : List Nat, ts.length = c ∧ ts.Pairwise (· < ·) ∧ (∀ i, i ∈ ts ↔ i < M ∧ U i ∧ sc_li A v i n) ∧ ∀ j i, ts[j]? = some i → ∀ t, t < 64 → (nb (sl j) t = true ↔ nz_s A (pd_w v) i (n - i) t)
theorem sc_len : ∀ (ts : List Nat) (a M : Nat), ts.Pairwise (· < ·) → (∀ i, i ∈ ts → a ≤ i ∧ i < M) → ts.length ≤ M - a
  | [], a, M, _, _ => Nat.zero_le _
  | x :: ts, a, M, h, g => by
    have gx := g x List.mem_cons_self
    have := sc_len ts (x + 1) M (List.pairwise_cons.mp h).2 (fun i hi => ⟨(List.pairwise_cons.mp h).1 i hi, (g i (List.mem_cons_of_mem _ hi)).2⟩)
    show ts.length + 1 ≤ M - a
    omega
theorem sc_L_le {A : nt_A} {v : Nat → Nat} {U : Nat → Prop} {n M c : Nat} {sl : Nat → Int64} (h : sc_L A v U n M c sl) : c ≤ M := by
  obtain ⟨ts, h1, h2, h3, _⟩ := h
  have := sc_len ts 0 M h2 (fun i hi => ⟨Nat.zero_le _, ((h3 i).mp hi).1⟩)
  omega
/-- one more begins -/
theorem sc_L_b {A : nt_A} {v : Nat → Nat} {U : Nat → Prop} {N c : Nat} {sl : Nat → Int64} (h : sc_L A v U N N c sl) (hU : U N) (he : ¬ nt_a A (pd_w v) N N) {sl2 : Nat → Int64} (h1 : ∀ j, j < c → sl2 j = sl j) (h2 : ∀ t, t < 64 → (nb (sl2 c) t = true ↔ t = 0)) : sc_L A v U N (N + 1) (c + 1) sl2 := by
  obtain ⟨ts, t1, t2, t3, t4⟩ := h
  refine ⟨ts ++ [N], by rw [List.length_append, t1]; rfl, ?_, fun i => ?_, fun j i hj t ht => ?_⟩
  · rw [List.pairwise_append]
    refine ⟨t2, List.pairwise_singleton _ _, fun a ha b hb => ?_⟩
    rw [List.mem_singleton.mp hb]
    exact ((t3 a).mp ha).1
  · rw [List.mem_append, List.mem_singleton, t3]
    constructor
    · rintro (⟨a, b, c⟩ | rfl)
      · exact ⟨by omega, b, c⟩
      · refine ⟨by omega, hU, fun j j1 j2 => ?_, 0, ?_⟩
        · have e : j = i := by omega
          subst e
          exact he
        · rw [Nat.sub_self]
          exact nz_s_0.mpr rfl
    · rintro ⟨a, b, c⟩
      by_cases e : i = N
      · exact Or.inr e
      · exact Or.inl ⟨by omega, b, c⟩
  · by_cases e : j < c
    · rw [List.getElem?_append_left (by omega)] at hj
      rw [h1 j e]
      exact t4 j i hj t ht
    · have ej : j < (ts ++ [N]).length := (List.getElem?_eq_some_iff.mp hj).1
      rw [List.length_append, t1] at ej
      have ej : j = c := by
        have : ([N] : List Nat).length = 1 := rfl
        omega
      subst ej
      rw [List.getElem?_append_right (by omega), t1, Nat.sub_self] at hj
      have hj : N = i := by simpa using hj
      subst hj
      rw [h2 t ht, Nat.sub_self]
      exact nz_s_0.symm
theorem sc_L_n {A : nt_A} {v : Nat → Nat} {U : Nat → Prop} {N c : Nat} {sl : Nat → Int64} (h : sc_L A v U N N c sl) (hU : ¬ (U N ∧ ¬ nt_a A (pd_w v) N N)) : sc_L A v U N (N + 1) c sl := by
  obtain ⟨ts, t1, t2, t3, t4⟩ := h
  refine ⟨ts, t1, t2, fun i => ?_, t4⟩
  rw [t3]
  constructor
  · rintro ⟨a, b, c⟩
    exact ⟨by omega, b, c⟩
  · rintro ⟨a, b, c⟩
    by_cases e : i = N
    · subst e
      exact (hU ⟨b, c.1 i (Nat.le_refl _) (Nat.le_refl _)⟩).elim
    · exact ⟨by omega, b, c⟩
/-- the walk over the rows: the first j are done, k of them kept -/
def sc_w (A : nt_A) (v : Nat → Nat) (N : Nat) (ts : List Nat) (j k : Nat) (f : Bool) (sl : Nat → Int64) : Prop := ∃ ks : List Nat, ks.length = k ∧ k ≤ j ∧ ks.Pairwise (· < ·) ∧ (∀ i, i ∈ ks ↔ i ∈ ts.take j ∧ sc_li A v i (N + 1)) ∧ (∀ a i, ks[a]? = some i → ∀ t, t < 64 → (nb (sl a) t = true ↔ nz_s A (pd_w v) i (N + 1 - i) t)) ∧ (∀ a i, j ≤ a → ts[a]? = some i → ∀ t, t < 64 → (nb (sl a) t = true ↔ nz_s A (pd_w v) i (N - i) t)) ∧ (f = true ↔ ∃ i, i ∈ ts.take j ∧ ∀ u, ¬ nz_s A (pd_w v) i (N + 1 - i) u)
theorem sc_w_0 {A : nt_A} {v : Nat → Nat} {N : Nat} {ts : List Nat} {sl : Nat → Int64} (h : ∀ j i, ts[j]? = some i → ∀ t, t < 64 → (nb (sl j) t = true ↔ nz_s A (pd_w v) i (N - i) t)) : sc_w A v N ts 0 0 false sl := by
  refine ⟨[], rfl, Nat.le_refl _, List.Pairwise.nil, fun i => ?_, fun a i hi => ?_, fun a i _ hi => h a i hi, ?_⟩
  · rw [List.take_zero]
    exact ⟨fun z => absurd z (by simp), fun z => absurd z.1 (by simp)⟩
  · simp at hi
  · rw [List.take_zero]
    exact ⟨fun z => (by cases z), fun ⟨i, z, _⟩ => absurd z (by simp)⟩
theorem sc_take {ts : List Nat} {j i : Nat} (h : ts[j]? = some i) : ts.take (j + 1) = ts.take j ++ [i] := by
  rw [List.take_add_one, h]
  rfl
theorem sc_w_s {A : nt_A} {v : Nat → Nat} {N j k i : Nat} {ts : List Nat} {f f2 : Bool} {sl sl2 : Nat → Int64} {x : Int64} (hp : ts.Pairwise (· < ·)) (hts : ∀ i, i ∈ ts → i < N + 1 ∧ sc_li A v i N) (h : sc_w A v N ts j k f sl) (hj : ts[j]? = some i) (hx : ∀ t, t < 64 → (nb x t = true ↔ nz_s A (pd_w v) i (N + 1 - i) t)) (hn : nt_n A ≤ 40) :
    (x = 0 → sl2 = sl → f2 = true → sc_w A v N ts (j + 1) k f2 sl2) ∧
    (¬ x = 0 → nt_a A (pd_w v) i (N + 1) → sl2 = sl → f2 = f → sc_w A v N ts (j + 1) k f2 sl2) ∧
    (¬ x = 0 → ¬ nt_a A (pd_w v) i (N + 1) → sl2 k = x → (∀ a, ¬ a = k → sl2 a = sl a) → f2 = f → sc_w A v N ts (j + 1) (k + 1) f2 sl2) := by
  obtain ⟨ks, k1, k2, k3, k4, k5, k6, k7⟩ := h
  have him : i ∈ ts := List.mem_of_getElem? hj
  obtain ⟨hi1, hi2⟩ := hts i him
  have ex : x = 0 ↔ ∀ u, ¬ nz_s A (pd_w v) i (N + 1 - i) u := by
    rw [nb_z]
    constructor
    · intro h u hu
      have hb : u < nt_n A + 1 := by
        rw [show N + 1 - i = (N - i) + 1 by omega] at hu
        obtain ⟨s, _, s2, _⟩ := nz_s_1.mp hu
        exact (nz_D_b s2).2
      have := (hx u (by omega)).mpr hu
      rw [h u (by omega)] at this
      cases this
    · intro h u hu
      exact Bool.eq_false_iff.mpr (fun z => h u ((hx u hu).mp z))
  have li : sc_li A v i (N + 1) ↔ ¬ nt_a A (pd_w v) i (N + 1) ∧ ¬ x = 0 := by
    rw [sc_li_s (by omega), ex]
    constructor
    · rintro ⟨_, a, u, b⟩
      exact ⟨a, fun z => z u b⟩
    · rintro ⟨a, b⟩
      refine ⟨hi2, a, ?_⟩
      exact Classical.byContradiction (fun z => b (fun u hu => z ⟨u, hu⟩))
  have tk := sc_take hj
  have later : ∀ a i2, j + 1 ≤ a → ts[a]? = some i2 → ∀ t, t < 64 → (nb (sl a) t = true ↔ nz_s A (pd_w v) i2 (N - i2) t) := fun a i2 h1 h2 => k6 a i2 (by omega) h2
  refine ⟨fun h0 e1 e2 => ?_, fun h0 ha e1 e2 => ?_, fun h0 ha e1 e2 e3 => ?_⟩
  · subst e1
    subst e2
    refine ⟨ks, k1, by omega, k3, fun i2 => ?_, k5, later, ⟨fun _ => ⟨i, ?_, ex.mp h0⟩, fun _ => rfl⟩⟩
    · rw [k4, tk, List.mem_append, List.mem_singleton]
      constructor
      · rintro ⟨a, b⟩
        exact ⟨Or.inl a, b⟩
      · rintro ⟨a | rfl, b⟩
        · exact ⟨a, b⟩
        · exact ((li.mp b).2 h0).elim
    · rw [tk]
      exact List.mem_append_right _ (List.mem_singleton.mpr rfl)
  · subst e1
    subst e2
    refine ⟨ks, k1, by omega, k3, fun i2 => ?_, k5, later, k7.trans ?_⟩
    · rw [k4, tk, List.mem_append, List.mem_singleton]
      constructor
      · rintro ⟨a, b⟩
        exact ⟨Or.inl a, b⟩
      · rintro ⟨a | rfl, b⟩
        · exact ⟨a, b⟩
        · exact ((li.mp b).1 ha).elim
    · rw [tk]
      constructor
      · rintro ⟨i2, a, b⟩
        exact ⟨i2, List.mem_append_left _ a, b⟩
      · rintro ⟨i2, a, b⟩
        rcases List.mem_append.mp a with c | c
        · exact ⟨i2, c, b⟩
        · rw [List.mem_singleton.mp c] at b
          exact (h0 (ex.mpr b)).elim
  · subst e3
    have hlt : ∀ a, a ∈ ts.take j → a < i := fun a ha => by
      obtain ⟨b, hb⟩ := List.getElem?_of_mem ha
      have hb1 : b < j := by
        have := (List.getElem?_eq_some_iff.mp hb).1
        rw [List.length_take] at this
        omega
      rw [List.getElem?_take_of_lt hb1] at hb
      obtain ⟨q1, q2⟩ := List.getElem?_eq_some_iff.mp hb
      obtain ⟨q3, q4⟩ := List.getElem?_eq_some_iff.mp hj
      have := List.pairwise_iff_getElem.mp hp b j q1 q3 hb1
      rw [q2, q4] at this
      exact this
    refine ⟨ks ++ [i], by rw [List.length_append, k1]; rfl, by omega, ?_, fun i2 => ?_, fun a i2 hi2 t ht => ?_, fun a i2 h1 h2 t ht => ?_, k7.trans ?_⟩
    · rw [List.pairwise_append]
      refine ⟨k3, List.pairwise_singleton _ _, fun a ha b hb => ?_⟩
      rw [List.mem_singleton.mp hb]
      exact hlt a ((k4 a).mp ha).1
    · rw [List.mem_append, List.mem_singleton, k4, tk, List.mem_append, List.mem_singleton]
      constructor
      · rintro (⟨a, b⟩ | rfl)
        · exact ⟨Or.inl a, b⟩
        · exact ⟨Or.inr rfl, li.mpr ⟨ha, h0⟩⟩
      · rintro ⟨a | a, b⟩
        · exact Or.inl ⟨a, b⟩
        · exact Or.inr a
    · by_cases c : a < k
      · rw [List.getElem?_append_left (by omega)] at hi2
        rw [e2 a (by omega)]
        exact k5 a i2 hi2 t ht
      · have ej : a < (ks ++ [i]).length := (List.getElem?_eq_some_iff.mp hi2).1
        rw [List.length_append, k1] at ej
        have ej : a = k := by
          have : ([i] : List Nat).length = 1 := rfl
          omega
        subst ej
        rw [List.getElem?_append_right (by omega), k1, Nat.sub_self] at hi2
        have hi2 : i = i2 := by simpa using hi2
        subst hi2
        rw [e1]
        exact hx t ht
    · rw [e2 a (by omega)]
      exact later a i2 h1 h2 t ht
    · rw [tk]
      constructor
      · rintro ⟨i2, a, b⟩
        exact ⟨i2, List.mem_append_left _ a, b⟩
      · rintro ⟨i2, a, b⟩
        rcases List.mem_append.mp a with c | c
        · exact ⟨i2, c, b⟩
        · rw [List.mem_singleton.mp c] at b
          exact (h0 (ex.mpr b)).elim
theorem sc_w_e {A : nt_A} {v : Nat → Nat} {U : Nat → Prop} {N k : Nat} {ts : List Nat} {f : Bool} {sl : Nat → Int64} (hts : ∀ i, i ∈ ts ↔ i < N + 1 ∧ U i ∧ sc_li A v i N) (h : sc_w A v N ts ts.length k f sl) : sc_L A v U (N + 1) (N + 1) k sl ∧ (f = true ↔ ∃ i, i ≤ N ∧ U i ∧ sc_li A v i N ∧ ∀ u, ¬ nz_s A (pd_w v) i (N + 1 - i) u) := by
  obtain ⟨ks, k1, k2, k3, k4, k5, k6, k7⟩ := h
  rw [List.take_length] at k4 k7
  refine ⟨⟨ks, k1, k3, fun i => ?_, k5⟩, k7.trans ?_⟩
  · rw [k4, hts]
    constructor
    · rintro ⟨⟨a, b, _⟩, c⟩
      exact ⟨a, b, c⟩
    · rintro ⟨a, b, c⟩
      exact ⟨⟨a, b, ((sc_li_s (by omega)).mp c).1⟩, c⟩
  · constructor
    · rintro ⟨i, a, b⟩
      obtain ⟨a1, a2, a3⟩ := (hts i).mp a
      exact ⟨i, by omega, a2, a3, b⟩
    · rintro ⟨i, a1, a2, a3, b⟩
      exact ⟨i, (hts i).mpr ⟨by omega, a2, a3⟩, b⟩
