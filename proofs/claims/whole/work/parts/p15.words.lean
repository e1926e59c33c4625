/-! ===== words and their numbers ===== -/
theorem ew_p (a n : Nat) : 2 ^ (a * n) = (2 ^ a) ^ n := Nat.pow_mul 2 a n
theorem ew_u {a len w t : Nat} : dz_u a len w t = w / (2 ^ a) ^ (len - 1 - t) % 2 ^ a := by
  unfold dz_u
  rw [ew_p]
theorem ew_s {a n x t : Nat} (ht : t < n) : dz_u a (n + 1) x t = dz_u a n (x / 2 ^ a) t := by
  rw [ew_u, ew_u, show n + 1 - 1 - t = (n - 1 - t) + 1 by omega, Nat.pow_succ, Nat.mul_comm, ← Nat.div_div_eq_div_mul]
theorem ew_l {a n x : Nat} : dz_u a (n + 1) x n = x % 2 ^ a := by
  rw [ew_u, show n + 1 - 1 - n = 0 by omega, Nat.pow_zero, Nat.div_one]
/-- a word's number -/
def ew_n (a : Nat) (w : Nat → Nat) : Nat → Nat
  | 0 => 0
  | n + 1 => ew_n a w n * 2 ^ a + w n
theorem ew_lt {a : Nat} {w : Nat → Nat} : ∀ n, hd_k (2 ^ a) w n → ew_n a w n < 2 ^ (a * n)
  | 0, _ => by
    show 0 < 2 ^ (a * 0)
    exact Nat.two_pow_pos _
  | n + 1, h => by
    have h1 := ew_lt n (fun i hi => h i (by omega))
    have h2 := h n (by omega)
    rw [ew_p] at h1 ⊢
    rw [Nat.pow_succ]
    show ew_n a w n * 2 ^ a + w n < _
    have h3 := Nat.mul_le_mul_right (2 ^ a) (show ew_n a w n + 1 ≤ (2 ^ a) ^ n by omega)
    rw [Nat.add_mul, Nat.one_mul] at h3
    omega
theorem ew_d {a : Nat} {w : Nat → Nat} : ∀ n, hd_k (2 ^ a) w n → ∀ t, t < n → dz_u a n (ew_n a w n) t = w t
  | 0, _, t, ht => by omega
  | n + 1, h, t, ht => by
    have h2 := h n (by omega)
    have hp := Nat.two_pow_pos a
    have e1 : ew_n a w (n + 1) / 2 ^ a = ew_n a w n := by
      show (ew_n a w n * 2 ^ a + w n) / 2 ^ a = _
      rw [Nat.add_comm, Nat.add_mul_div_right _ _ hp, Nat.div_eq_of_lt h2, Nat.zero_add]
    by_cases e : t = n
    · subst e
      rw [ew_l]
      show (ew_n a w t * 2 ^ a + w t) % 2 ^ a = _
      rw [Nat.add_comm, Nat.add_mul_mod_self_right, Nat.mod_eq_of_lt h2]
    · rw [ew_s (by omega), e1]
      exact ew_d n (fun i hi => h i (by omega)) t (by omega)
theorem ew_x {a : Nat} : ∀ n x y, x < y → y < 2 ^ (a * n) → ∃ j, j < n ∧ (∀ i, i < j → dz_u a n x i = dz_u a n y i) ∧ dz_u a n x j < dz_u a n y j
  | 0, x, y, h, h2 => by
    rw [Nat.mul_zero, Nat.pow_zero] at h2
    omega
  | n + 1, x, y, h, h2 => by
    have hp := Nat.two_pow_pos a
    have hx := Nat.div_add_mod x (2 ^ a)
    have hy := Nat.div_add_mod y (2 ^ a)
    have hxm := Nat.mod_lt x hp
    have hym := Nat.mod_lt y hp
    have hy2 : y / 2 ^ a < 2 ^ (a * n) := by
      rw [ew_p, Nat.pow_succ, Nat.mul_comm] at h2
      rw [ew_p]
      exact Nat.div_lt_of_lt_mul h2
    by_cases e : x / 2 ^ a < y / 2 ^ a
    · obtain ⟨j, j1, j2, j3⟩ := ew_x n (x / 2 ^ a) (y / 2 ^ a) e hy2
      refine ⟨j, by omega, fun i hi => ?_, ?_⟩
      · rw [ew_s (by omega), ew_s (by omega)]
        exact j2 i hi
      · rw [ew_s (by omega), ew_s (by omega)]
        exact j3
    · have e2 : x / 2 ^ a = y / 2 ^ a := by
        have := Nat.div_le_div_right (c := 2 ^ a) (Nat.le_of_lt h)
        omega
      refine ⟨n, by omega, fun i hi => ?_, ?_⟩
      · rw [ew_s (by omega), ew_s (by omega), e2]
      · rw [ew_l, ew_l]
        rw [e2] at hx
        omega
theorem ew_k {a n x : Nat} (m : Nat) : hd_k (2 ^ a) (dz_u a n x) m := fun i _ => Nat.mod_lt _ (Nat.two_pow_pos a)
/-- both find the same: E l w: the words of number w and l letters are told alike -/
theorem ew_same {a k fd len x : Nat} {g1 g2 : (Nat → Nat) → Nat → Prop} {w : Nat → Nat} (G1 : hd_g g1) (G2 : hd_g g2) (hk : k ≤ 12) (hR : hd_R (2 ^ a) k g1 g2 fd w) (h1 : 1 ≤ len) (h2 : len ≤ k) (hx : x < 2 ^ (a * len)) (hne : ¬ hd_e g1 g2 (dz_u a len x) len) (hno : ∀ y, y < x → hd_e g1 g2 (dz_u a len y) len) (hle : ∀ l, 1 ≤ l → l < len → ∀ y, y < 2 ^ (a * l) → hd_e g1 g2 (dz_u a l y) l) : fd = len ∧ ∀ i, i < len → dz_u a len x i = w i := by
  have cg : ∀ {u u2 l}, (∀ i, i < l → u i = u2 i) → hd_e g1 g2 u l → hd_e g1 g2 u2 l := fun h e => ⟨fun z => G2.2 _ _ _ h (e.mp (G1.2 _ _ _ (fun i hi => (h i hi).symm) z)), fun z => G1.2 _ _ _ h (e.mpr (G2.2 _ _ _ (fun i hi => (h i hi).symm) z))⟩
  rcases hR with ⟨r1, r2⟩ | ⟨r1, r2, r3, r4, r5, r6⟩
  · exact (hne (r2 _ _ h1 h2 (ew_k _))).elim
  · have e : fd = len := by
      rcases Nat.lt_trichotomy fd len with z | z | z
      · exact (r4 (cg (fun i hi => ew_d fd r3 i hi) (hle fd r1 z _ (ew_lt fd r3)))).elim
      · exact z
      · exact (hne (r6 _ _ h1 z (ew_k _))).elim
    subst e
    refine ⟨rfl, fun i hi => ?_⟩
    have en : x = ew_n a w fd := by
      rcases Nat.lt_trichotomy x (ew_n a w fd) with z | z | z
      · obtain ⟨j, j1, j2, j3⟩ := ew_x fd x _ z (ew_lt fd r3)
        exact (hne (r5 _ (ew_k _) ⟨j, j1, fun i hi => (j2 i hi).trans (ew_d fd r3 i (by omega)), by rw [ew_d fd r3 j j1] at j3; exact j3⟩)).elim
      · exact z
      · exact (r4 (cg (fun i hi => ew_d fd r3 i hi) (hno _ z))).elim
    rw [en]
    exact ew_d fd r3 i hi
theorem ew_none {a k fd : Nat} {g1 g2 : (Nat → Nat) → Nat → Prop} {w : Nat → Nat} (G1 : hd_g g1) (G2 : hd_g g2) (hR : hd_R (2 ^ a) k g1 g2 fd w) (hno : ∀ l, 1 ≤ l → l ≤ k → ∀ y, y < 2 ^ (a * l) → hd_e g1 g2 (dz_u a l y) l) : fd = 0 := by
  rcases hR with ⟨r1, r2⟩ | ⟨r1, r2, r3, r4, r5, r6⟩
  · exact r1
  · have e := hno fd r1 r2 _ (ew_lt fd r3)
    have h := fun i hi => ew_d fd r3 i hi
    exact (r4 ⟨fun z => G2.2 _ _ _ h (e.mp (G1.2 _ _ _ (fun i hi => (h i hi).symm) z)), fun z => G1.2 _ _ _ h (e.mpr (G2.2 _ _ _ (fun i hi => (h i hi).symm) z))⟩).elim
