/-! ===== a hunt through words ===== -/
/-- u of l letters comes before the place c, t -/
def hd_b (c : Nat → Nat) (t : Nat) (u : Nat → Nat) (l : Nat) : Prop := ∃ j, j ≤ t ∧ j < l ∧ (∀ i, i < j → u i = c i) ∧ u j < c j
def hd_e (g1 g2 : (Nat → Nat) → Nat → Prop) (u : Nat → Nat) (l : Nat) : Prop := g1 u l ↔ g2 u l
def hd_k (K : Nat) (u : Nat → Nat) (l : Nat) : Prop := ∀ i, i < l → u i < K
/-- what was found: nothing, or fd letters of w -/
def hd_B (K n : Nat) (g1 g2 : (Nat → Nat) → Nat → Prop) (m fd : Nat) (w : Nat → Nat) : Prop := (fd = 0 ∧ m = n) ∨ (1 ≤ fd ∧ fd ≤ n ∧ m + 1 = fd ∧ hd_k K w fd ∧ ¬ hd_e g1 g2 w fd ∧ ∀ u, hd_k K u fd → (∃ j, j < fd ∧ (∀ i, i < j → u i = w i) ∧ u j < w j) → hd_e g1 g2 u fd)
def hd_g (g : (Nat → Nat) → Nat → Prop) : Prop := (∀ u l l2, g u l → l ≤ l2 → l2 ≤ 12 → g u l2) ∧ ∀ u u2 l, (∀ i, i < l → u i = u2 i) → g u l → g u2 l
/-- the hunt stands at c, t -/
def hd_I (K n : Nat) (g1 g2 : (Nat → Nat) → Nat → Prop) (c : Nat → Nat) (t m fd : Nat) (w : Nat → Nat) : Prop := m ≤ n ∧ t ≤ n ∧ n ≤ 12 ∧ hd_k K c t ∧ c t ≤ K ∧ ¬ g1 c t ∧ ¬ g2 c t ∧ (∀ u l, 1 ≤ l → l ≤ m → hd_k K u l → hd_b c t u l → hd_e g1 g2 u l) ∧ hd_B K n g1 g2 m fd w
def hd_u (c : Nat → Nat) (t x : Nat) : Nat → Nat := fun i => if i = t then x else c i
/-- the end -/
def hd_R (K n : Nat) (g1 g2 : (Nat → Nat) → Nat → Prop) (fd : Nat) (w : Nat → Nat) : Prop := (fd = 0 ∧ ∀ u l, 1 ≤ l → l ≤ n → hd_k K u l → hd_e g1 g2 u l) ∨ (1 ≤ fd ∧ fd ≤ n ∧ hd_k K w fd ∧ ¬ hd_e g1 g2 w fd ∧ (∀ u, hd_k K u fd → (∃ j, j < fd ∧ (∀ i, i < j → u i = w i) ∧ u j < w j) → hd_e g1 g2 u fd) ∧ ∀ u l, 1 ≤ l → l < fd → hd_k K u l → hd_e g1 g2 u l)
theorem hd_end {K n m fd : Nat} {g1 g2 : (Nat → Nat) → Nat → Prop} {c w : Nat → Nat} (h : hd_I K n g1 g2 c 0 m fd w) (hp : m ≤ 0 ∨ K ≤ c 0) : hd_R K n g1 g2 fd w := by
  obtain ⟨h1, h2, h3, h4, h5, h6, h7, h8, h9⟩ := h
  have all : ∀ u l, 1 ≤ l → l ≤ m → hd_k K u l → hd_e g1 g2 u l := fun u l l1 l2 hk => by
    refine h8 u l l1 l2 hk ⟨0, Nat.le_refl _, by omega, fun i hi => by omega, ?_⟩
    have := hk 0 (by omega)
    omega
  rcases h9 with ⟨a1, a2⟩ | ⟨a1, a2, a3, a4, a5, a6⟩
  · exact Or.inl ⟨a1, fun u l l1 l2 => all u l l1 (by omega)⟩
  · exact Or.inr ⟨a1, a2, a4, a5, a6, fun u l l1 l2 => all u l l1 (by omega)⟩
theorem hd_pop {K n t m fd : Nat} {g1 g2 : (Nat → Nat) → Nat → Prop} {c w : Nat → Nat} (G1 : hd_g g1) (G2 : hd_g g2) (h : hd_I K n g1 g2 c (t + 1) m fd w) (hp : m ≤ t + 1 ∨ K ≤ c (t + 1)) : hd_I K n g1 g2 (hd_u c t (c t + 1)) t m fd w := by
  obtain ⟨h1, h2, h3, h4, h5, h6, h7, h8, h9⟩ := h
  have hu : ∀ i, ¬ i = t → hd_u c t (c t + 1) i = c i := fun i hi => if_neg hi
  have ht : hd_u c t (c t + 1) t = c t + 1 := if_pos rfl
  refine ⟨h1, by omega, h3, fun i hi => ?_, ?_, fun z => ?_, fun z => ?_, fun u l l1 l2 hk hb => ?_, h9⟩
  · rw [hu i (by omega)]
    exact h4 i (by omega)
  · rw [ht]
    exact h4 t (by omega)
  · exact h6 (G1.1 c t (t + 1) (G1.2 _ c t (fun i hi => hu i (by omega)) z) (by omega) (by omega))
  · exact h7 (G2.1 c t (t + 1) (G2.2 _ c t (fun i hi => hu i (by omega)) z) (by omega) (by omega))
  · obtain ⟨j, j1, j2, j3, j4⟩ := hb
    have j5 : ∀ i, i < j → u i = c i := fun i hi => (j3 i hi).trans (hu i (by omega))
    by_cases e : j = t ∧ u t = c t
    · obtain ⟨rfl, e2⟩ := e
      have same : ∀ i, i < j + 1 → c i = u i := fun i hi => by
        by_cases e3 : i = j
        · rw [e3, e2]
        · exact (j5 i (by omega)).symm
      by_cases el : l = j + 1
      · subst el
        exact ⟨fun z => (h6 (G1.2 _ _ _ (fun i hi => (same i hi).symm) z)).elim, fun z => (h7 (G2.2 _ _ _ (fun i hi => (same i hi).symm) z)).elim⟩
      · refine h8 u l l1 l2 hk ⟨j + 1, Nat.le_refl _, by omega, fun i hi => (same i hi).symm, ?_⟩
        have := hk (j + 1) (by omega)
        omega
    · refine h8 u l l1 l2 hk ⟨j, by omega, j2, j5, ?_⟩
      by_cases e3 : j = t
      · subst e3
        rw [ht] at j4
        omega
      · rw [hu j e3] at j4
        exact j4
theorem hd_down {K n t m fd : Nat} {g1 g2 : (Nat → Nat) → Nat → Prop} {c w : Nat → Nat} (G1 : hd_g g1) (G2 : hd_g g2) (h : hd_I K n g1 g2 c t m fd w) (hm : t < m) (hc : c t < K) (n1 : ¬ g1 c (t + 1)) (n2 : ¬ g2 c (t + 1)) : hd_I K n g1 g2 (hd_u c (t + 1) 0) (t + 1) m fd w := by
  obtain ⟨h1, h2, h3, h4, h5, h6, h7, h8, h9⟩ := h
  have hu : ∀ i, ¬ i = t + 1 → hd_u c (t + 1) 0 i = c i := fun i hi => if_neg hi
  have ht : hd_u c (t + 1) 0 (t + 1) = 0 := if_pos rfl
  refine ⟨h1, by omega, h3, fun i hi => ?_, ?_, fun z => n1 (G1.2 _ c _ (fun i hi => hu i (by omega)) z), fun z => n2 (G2.2 _ c _ (fun i hi => hu i (by omega)) z), fun u l l1 l2 hk hb => ?_, h9⟩
  · rw [hu i (by omega)]
    by_cases e : i = t
    · rw [e]
      exact hc
    · exact h4 i (by omega)
  · rw [ht]
    omega
  · obtain ⟨j, j1, j2, j3, j4⟩ := hb
    by_cases e : j = t + 1
    · subst e
      rw [ht] at j4
      omega
    · rw [hu j e] at j4
      exact h8 u l l1 l2 hk ⟨j, by omega, j2, fun i hi => (j3 i hi).trans (hu i (by omega)), j4⟩
theorem hd_hit {K n t m fd : Nat} {g1 g2 : (Nat → Nat) → Nat → Prop} {c w : Nat → Nat} (h : hd_I K n g1 g2 c t m fd w) (hm : t < m) (hc : c t < K) (ne : ¬ hd_e g1 g2 c (t + 1)) : hd_I K n g1 g2 c t t (t + 1) c := by
  obtain ⟨h1, h2, h3, h4, h5, h6, h7, h8, h9⟩ := h
  refine ⟨h2, h2, h3, h4, h5, h6, h7, fun u l l1 l2 hk hb => h8 u l l1 (by omega) hk hb, Or.inr ⟨by omega, by omega, rfl, fun i hi => ?_, ne, fun u hk hl => ?_⟩⟩
  · by_cases e : i = t
    · rw [e]
      exact hc
    · exact h4 i (by omega)
  · obtain ⟨j, j1, j2, j3⟩ := hl
    exact h8 u (t + 1) (by omega) (by omega) hk ⟨j, by omega, j1, j2, j3⟩
theorem hd_dead {K n t m fd : Nat} {g1 g2 : (Nat → Nat) → Nat → Prop} {c w : Nat → Nat} (G1 : hd_g g1) (G2 : hd_g g2) (h : hd_I K n g1 g2 c t m fd w) (hm : t < m) (hc : c t < K) (n1 : g1 c (t + 1)) (n2 : g2 c (t + 1)) : hd_I K n g1 g2 (hd_u c t (c t + 1)) t m fd w := by
  obtain ⟨h1, h2, h3, h4, h5, h6, h7, h8, h9⟩ := h
  have hu : ∀ i, ¬ i = t → hd_u c t (c t + 1) i = c i := fun i hi => if_neg hi
  have ht : hd_u c t (c t + 1) t = c t + 1 := if_pos rfl
  refine ⟨h1, h2, h3, fun i hi => ?_, ?_, fun z => h6 (G1.2 _ c _ (fun i hi => hu i (by omega)) z), fun z => h7 (G2.2 _ c _ (fun i hi => hu i (by omega)) z), fun u l l1 l2 hk hb => ?_, h9⟩
  · rw [hu i (by omega)]
    exact h4 i hi
  · rw [ht]
    omega
  · obtain ⟨j, j1, j2, j3, j4⟩ := hb
    have j5 : ∀ i, i < j → u i = c i := fun i hi => (j3 i hi).trans (hu i (by omega))
    by_cases e : j = t ∧ u t = c t
    · obtain ⟨rfl, e2⟩ := e
      have same : ∀ i, i < j + 1 → c i = u i := fun i hi => by
        by_cases e3 : i = j
        · rw [e3, e2]
        · exact (j5 i (by omega)).symm
      exact ⟨fun _ => G2.1 u (j + 1) l (G2.2 _ _ _ same n2) (by omega) (by omega), fun _ => G1.1 u (j + 1) l (G1.2 _ _ _ same n1) (by omega) (by omega)⟩
    · refine h8 u l l1 l2 hk ⟨j, j1, j2, j5, ?_⟩
      by_cases e3 : j = t
      · subst e3
        rw [ht] at j4
        omega
      · rw [hu j e3] at j4
        exact j4
/-- turns left -/
def hd_T (K : Nat) : Nat → Nat
  | 0 => 1
  | r + 1 => 1 + K * (1 + hd_T K r)
def hd_S (K n : Nat) (c : Nat → Nat) : Nat → Nat
  | 0 => 0
  | j + 1 => hd_S K n c j + (1 + (K - 1 - c j) * (1 + hd_T K (n - j - 1)))
def hd_F (K n : Nat) (c : Nat → Nat) (t m : Nat) : Nat := hd_S K n c t + (if t < m then 1 + (K - c t) * (1 + hd_T K (n - t - 1)) else 1)
theorem hd_S_c {K n : Nat} {c d : Nat → Nat} : ∀ t, (∀ i, i < t → c i = d i) → hd_S K n c t = hd_S K n d t
  | 0, _ => rfl
  | t + 1, h => by
    show hd_S K n c t + _ = hd_S K n d t + _
    rw [hd_S_c t (fun i hi => h i (by omega)), h t (by omega)]
theorem hd_F_pop {K n t m : Nat} {c : Nat → Nat} : hd_F K n (hd_u c t (c t + 1)) t m < hd_F K n c (t + 1) m := by
  have e : hd_S K n (hd_u c t (c t + 1)) t = hd_S K n c t := hd_S_c t (fun i hi => if_neg (by omega))
  have ht : hd_u c t (c t + 1) t = c t + 1 := if_pos rfl
  unfold hd_F
  rw [e, ht, show hd_S K n c (t + 1) = hd_S K n c t + (1 + (K - 1 - c t) * (1 + hd_T K (n - t - 1))) from rfl, show K - (c t + 1) = K - 1 - c t by omega]
  split <;> split <;> omega
theorem hd_F_down {K n t m : Nat} {c : Nat → Nat} (hm : t < m) (hn : m ≤ n) (hc : c t < K) : hd_F K n (hd_u c (t + 1) 0) (t + 1) m < hd_F K n c t m := by
  have e : hd_S K n (hd_u c (t + 1) 0) (t + 1) = hd_S K n c (t + 1) := hd_S_c (t + 1) (fun i hi => if_neg (by omega))
  have ht : hd_u c (t + 1) 0 (t + 1) = 0 := if_pos rfl
  have hK : (K - c t) * (1 + hd_T K (n - t - 1)) = (K - 1 - c t) * (1 + hd_T K (n - t - 1)) + (1 + hd_T K (n - t - 1)) := by
    rw [show K - c t = K - 1 - c t + 1 by omega, Nat.succ_mul]
  unfold hd_F
  rw [e, ht, show hd_S K n c (t + 1) = hd_S K n c t + (1 + (K - 1 - c t) * (1 + hd_T K (n - t - 1))) from rfl, if_pos hm, hK, Nat.sub_zero]
  split
  · have eT : hd_T K (n - t - 1) = 1 + K * (1 + hd_T K (n - (t + 1) - 1)) := by
      rw [show n - t - 1 = (n - (t + 1) - 1) + 1 by omega]
      rfl
    omega
  · have eT : 1 ≤ hd_T K (n - t - 1) := by
      cases n - t - 1 with
      | zero => exact Nat.le_refl _
      | succ r => exact Nat.le_add_right _ _
    omega
theorem hd_F_hit {K n t m : Nat} {c : Nat → Nat} (hm : t < m) (hc : c t < K) : hd_F K n c t t < hd_F K n c t m := by
  unfold hd_F
  rw [if_neg (by omega), if_pos hm]
  have : 1 * 1 ≤ (K - c t) * (1 + hd_T K (n - t - 1)) := Nat.mul_le_mul (by omega) (by omega)
  omega
theorem hd_F_dead {K n t m : Nat} {c : Nat → Nat} (hm : t < m) (hc : c t < K) : hd_F K n (hd_u c t (c t + 1)) t m < hd_F K n c t m := by
  have e : hd_S K n (hd_u c t (c t + 1)) t = hd_S K n c t := hd_S_c t (fun i hi => if_neg (by omega))
  have ht : hd_u c t (c t + 1) t = c t + 1 := if_pos rfl
  have hK : (K - c t) * (1 + hd_T K (n - t - 1)) = (K - (c t + 1)) * (1 + hd_T K (n - t - 1)) + (1 + hd_T K (n - t - 1)) := by
    rw [show K - c t = K - (c t + 1) + 1 by omega, Nat.succ_mul]
  unfold hd_F
  rw [e, ht, if_pos hm, if_pos hm, hK]
  omega
theorem hd_T_le {K : Nat} (hK : 2 ≤ K) : ∀ r, hd_T K r + 3 ≤ 4 * K ^ r
  | 0 => Nat.le_refl _
  | r + 1 => by
    have h := hd_T_le hK r
    show 1 + K * (1 + hd_T K r) + 3 ≤ 4 * K ^ (r + 1)
    have h2 := Nat.mul_le_mul_left K (show 1 + hd_T K r + 2 ≤ 4 * K ^ r by omega)
    rw [Nat.mul_add] at h2
    rw [Nat.pow_succ, Nat.mul_comm (K ^ r) K, ← Nat.mul_assoc, Nat.mul_comm 4 K, Nat.mul_assoc]
    omega
theorem hd_F_0 {K n : Nat} {c : Nat → Nat} (hn : 1 ≤ n) (h0 : c 0 = 0) : hd_F K n c 0 n = hd_T K n := by
  unfold hd_F
  rw [if_pos (by omega), h0, Nat.sub_zero, Nat.sub_zero]
  show 0 + _ = _
  rw [Nat.zero_add]
  obtain ⟨r, rfl⟩ : ∃ r, n = r + 1 := ⟨n - 1, by omega⟩
  rw [Nat.add_sub_cancel]
  rfl
theorem hd_start {K n : Nat} {g1 g2 : (Nat → Nat) → Nat → Prop} {c w : Nat → Nat} (hn : n ≤ 12) (h0 : c 0 = 0) (n1 : ¬ g1 c 0) (n2 : ¬ g2 c 0) : hd_I K n g1 g2 c 0 n 0 w := by
  refine ⟨Nat.le_refl _, Nat.zero_le _, hn, fun i hi => by omega, by omega, n1, n2, fun u l l1 l2 hk hb => ?_, Or.inl ⟨rfl, rfl⟩⟩
  obtain ⟨j, j1, j2, j3, j4⟩ := hb
  have : j = 0 := by omega
  subst this
  omega
