/-! ===== rows one behind the other, counted rows ===== -/
section NB
variable {α : Type}
/-- from state x on: this row ended, and m more behind it -/
def na_g (D : Nat → Nat → α → Prop) (H : Nat → α → Prop) (F : Nat → Prop) (w : Nat → α) : Nat → Nat → Nat → Nat → Prop
  | 0, k, x, j => ∃ n y, j = k + n ∧ na_p D w n k x y ∧ F y
  | m + 1, k, x, j => ∃ n u v, na_p D w n k x u ∧ F u ∧ H v (w (k + n)) ∧ na_g D H F w m (k + n + 1) v j
/-- m letters of which q have c: the last one of all has, or some without may come behind -/
def na_oc (pos neg : α → Prop) (wb : Prop) (w : Nat → α) : Nat → Nat → Nat → Prop
  | 0, q, _ => q = 0
  | m + 1, q, i => (neg (w i) ∧ (0 < q ∨ wb) ∧ na_oc pos neg wb w m q (i + 1)) ∨ (pos (w i) ∧ 0 < q ∧ na_oc pos neg wb w m (q - 1) (i + 1))
variable {D D2 : Nat → Nat → α → Prop} {H H3 : Nat → α → Prop} {F F3 : Nat → Prop} {e e3 : Prop} {w : Nat → α}
theorem na_it_mono {S S2 : Nat → Nat → Prop} (h : ∀ i j, S i j → S2 i j) : ∀ n i j, na_it S n i j → na_it S2 n i j
  | 0, _, _, g => g
  | n + 1, i, j, ⟨k, g1, g2⟩ => ⟨k, h _ _ g1, na_it_mono h n k j g2⟩
theorem na_it_le {S : Nat → Nat → Prop} (h : ∀ i j, S i j → i ≤ j) : ∀ n i j, na_it S n i j → i ≤ j
  | 0, _, _, g => Nat.le_of_eq g
  | n + 1, i, j, ⟨k, g1, g2⟩ => Nat.le_trans (h _ _ g1) (na_it_le h n k j g2)
theorem na_it_1 {S : Nat → Nat → Prop} {i j : Nat} : na_it S 1 i j ↔ S i j := by
  constructor
  · rintro ⟨k, h1, h2⟩
    have h2 : k = j := h2
    subst h2
    exact h1
  · intro h
    exact ⟨j, h, rfl⟩
theorem na_g_cons {m k x y j : Nat} (h : D x y (w k)) (g : na_g D H F w m (k + 1) y j) : na_g D H F w m k x j := by
  match m, g with
  | 0, ⟨n, t, g1, g2, g3⟩ => exact ⟨n + 1, t, by omega, ⟨y, h, g2⟩, g3⟩
  | m + 1, ⟨n, u, v, g1, g2, g3, g4⟩ =>
    refine ⟨n + 1, u, v, ⟨y, h, g1⟩, g2, ?_, ?_⟩
    · rw [show k + (n + 1) = k + 1 + n by omega]; exact g3
    · rw [show k + (n + 1) + 1 = k + 1 + n + 1 by omega]; exact g4
theorem na_g_it : ∀ m i j, na_it (na_r D H F w) (m + 1) i j ↔ ∃ x, H x (w i) ∧ na_g D H F w m (i + 1) x j
  | 0, i, j => by
    rw [na_it_1]
    constructor
    · rintro ⟨n, s, t, h1, h2, h3, h4⟩
      exact ⟨s, h2, n, t, by omega, h3, h4⟩
    · rintro ⟨s, h2, n, t, h1, h3, h4⟩
      exact ⟨n, s, t, by omega, h2, h3, h4⟩
  | m + 1, i, j => by
    constructor
    · rintro ⟨k, ⟨n, s, t, h1, h2, h3, h4⟩, h5⟩
      obtain ⟨x, h6, h7⟩ := (na_g_it m k j).mp h5
      subst h1
      refine ⟨s, h2, n, t, x, h3, h4, ?_, ?_⟩
      · rw [show i + 1 + n = i + n + 1 by omega]; exact h6
      · rw [show i + 1 + n + 1 = i + n + 1 + 1 by omega]; exact h7
    · rintro ⟨s, h2, n, t, x, h3, h4, h6, h7⟩
      refine ⟨i + n + 1, ⟨n, s, t, rfl, h2, h3, h4⟩, (na_g_it m _ j).mpr ⟨x, ?_, ?_⟩⟩
      · rw [show i + n + 1 = i + 1 + n by omega]; exact h6
      · rw [show i + n + 1 + 1 = i + 1 + n + 1 by omega]; exact h7
/-! ===== some or none ===== -/
theorem na_st1 {P : Nat → Prop} (h1 : ∀ s t l, P s → D s t l → P t) (hX : ∀ s t l, P s → (D2 s t l ↔ D s t l ∨ (F s ∧ H t l))) : ∀ n k s t, P s → na_p D2 w n k s t → na_p D w n k s t ∨ ∃ n1 n2 x y, n = n1 + 1 + n2 ∧ na_p D w n1 k s x ∧ F x ∧ H y (w (k + n1)) ∧ na_p D2 w n2 (k + n1 + 1) y t
  | 0, _, s, t, _, h => Or.inl h
  | n + 1, k, s, t, hs, ⟨u, g1, g2⟩ => by
    rcases (hX s u _ hs).mp g1 with g | ⟨g, g3⟩
    · rcases na_st1 h1 hX n (k + 1) u t (h1 _ _ _ hs g) g2 with b | ⟨n1, n2, x, y, a1, a2, a3, a4, a5⟩
      · exact Or.inl ⟨u, g, b⟩
      · refine Or.inr ⟨n1 + 1, n2, x, y, by omega, ⟨u, g, a2⟩, a3, ?_, ?_⟩
        · rw [show k + (n1 + 1) = k + 1 + n1 by omega]; exact a4
        · rw [show k + (n1 + 1) + 1 = k + 1 + n1 + 1 by omega]; exact a5
    · exact Or.inr ⟨0, n, s, u, by omega, rfl, g, g3, g2⟩
theorem na_star1 {P : Nat → Prop} (h1 : ∀ s t l, P s → D s t l → P t) (k1 : ∀ s l, H s l → P s) (hX : ∀ s t l, P s → (D2 s t l ↔ D s t l ∨ (F s ∧ H t l))) : ∀ n i s t, H s (w i) → na_p D2 w n (i + 1) s t → F t → ∃ m, na_it (na_r D H F w) (m + 1) i (i + n + 1) := by
  intro n
  induction n using Nat.strongRecOn with
  | ind n ih =>
    intro i s t hs hp ht
    rcases na_st1 h1 hX n (i + 1) s t (k1 _ _ hs) hp with b | ⟨n1, n2, x, y, a1, a2, a3, a4, a5⟩
    · exact ⟨0, na_it_1.mpr ⟨n, s, t, rfl, hs, b, ht⟩⟩
    · obtain ⟨m, hm⟩ := ih n2 (by omega) (i + 1 + n1) y t a4 a5 ht
      refine ⟨m + 1, i + n1 + 1, ⟨n1, s, x, rfl, hs, a2, a3⟩, ?_⟩
      rw [show i + n1 + 1 = i + 1 + n1 by omega, show i + n + 1 = i + 1 + n1 + n2 + 1 by omega]
      exact hm
theorem na_star2 {P : Nat → Prop} (h1 : ∀ s t l, P s → D s t l → P t) (k1 : ∀ s l, H s l → P s) (hX : ∀ s t l, P s → (D2 s t l ↔ D s t l ∨ (F s ∧ H t l))) : ∀ m i j, na_it (na_r D H F w) (m + 1) i j → na_r D2 H F w i j
  | 0, i, j, h => by
    obtain ⟨n, s, t, a, b, c, d⟩ := na_it_1.mp h
    exact ⟨n, s, t, a, b, (na_p_in (P := P) (D := D) (D2 := D2) (fun s t l hs h => ⟨h1 s t l hs h, (hX s t l hs).mpr (Or.inl h)⟩) n (i + 1) s t (k1 _ _ b) c).2, d⟩
  | m + 1, i, j, ⟨k, ⟨n, s, t, a, b, c, d⟩, h⟩ => by
    obtain ⟨n2, y, t2, a2, b2, c2, d2⟩ := na_star2 h1 k1 hX m k j h
    have g := na_p_in (P := P) (D := D) (D2 := D2) (w := w) (fun s t l hs h => ⟨h1 s t l hs h, (hX s t l hs).mpr (Or.inl h)⟩) n (i + 1) s t (k1 _ _ b) c
    subst a
    refine ⟨n + 1 + n2, s, t2, by omega, b, ?_, d2⟩
    rw [Nat.add_assoc]
    refine (na_p_add _ _ _ _ _).mpr ⟨t, g.2, ?_⟩
    rw [Nat.add_comm 1 n2]
    refine ⟨y, (hX _ _ _ g.1).mpr (Or.inr ⟨d, ?_⟩), ?_⟩
    · rw [show i + 1 + n = i + n + 1 by omega]; exact b2
    · rw [show i + 1 + n + 1 = i + n + 1 + 1 by omega]; exact c2
theorem na_star {P : Nat → Prop} (h1 : ∀ s t l, P s → D s t l → P t) (k1 : ∀ s l, H s l → P s) (hX : ∀ s t l, P s → (D2 s t l ↔ D s t l ∨ (F s ∧ H t l))) (i j : Nat) : na_r D2 H F w i j ↔ ∃ m, na_it (na_r D H F w) (m + 1) i j := by
  constructor
  · rintro ⟨n, s, t, a, b, c, d⟩
    subst a
    exact na_star1 h1 k1 hX n i s t b c d
  · rintro ⟨m, h⟩
    exact na_star2 h1 k1 hX m i j h
/-! ===== counted copies ===== -/
theorem na_dec {a z c c2 y y2 : Nat} (h1 : a ≤ y) (h2 : y < a + z) (h3 : a ≤ y2) (h4 : y2 < a + z) (h : y + z * c = y2 + z * c2) : c = c2 ∧ y = y2 := by
  rcases Nat.lt_trichotomy c c2 with g | g | g
  · have := Nat.mul_le_mul_left z (show c + 1 ≤ c2 from g)
    rw [Nat.mul_add, Nat.mul_one] at this
    omega
  · subst g
    exact ⟨rfl, by omega⟩
  · have := Nat.mul_le_mul_left z (show c2 + 1 ≤ c from g)
    rw [Nat.mul_add, Nat.mul_one] at this
    omega
section NBT
variable {a z h : Nat}
theorem na_tm1 (h1 : ∀ s t l, (a ≤ s ∧ s < a + z) → D s t l → (a ≤ t ∧ t < a + z)) (k1 : ∀ s l, H s l → (a ≤ s ∧ s < a + z))
    (hD : ∀ c x t l, c < h → (a ≤ x ∧ x < a + z) → (D2 (x + z * c) t l ↔ (∃ y, t = y + z * c ∧ D x y l) ∨ (c + 1 < h ∧ ∃ y, t = y + z * (c + 1) ∧ F x ∧ H y l))) :
    ∀ n k c x t, c < h → (a ≤ x ∧ x < a + z) → na_p D2 w n k (x + z * c) t → ∃ m y, c + m < h ∧ (a ≤ y ∧ y < a + z) ∧ t = y + z * (c + m) ∧ (F y → na_g D H F w m k x (k + n))
  | 0, k, c, x, t, hc, hx, g => by
    have g : x + z * c = t := g
    exact ⟨0, x, hc, hx, g.symm, fun f => ⟨0, x, rfl, rfl, f⟩⟩
  | n + 1, k, c, x, t, hc, hx, ⟨u, g1, g2⟩ => by
    rcases (hD c x u _ hc hx).mp g1 with ⟨y1, e1, d1⟩ | ⟨hc1, y1, e1, f1, d1⟩
    · subst e1
      obtain ⟨m, y, a1, a2, a3, a4⟩ := na_tm1 h1 k1 hD n (k + 1) c y1 t hc (h1 _ _ _ hx d1) g2
      refine ⟨m, y, a1, a2, a3, fun f => ?_⟩
      have := na_g_cons d1 (a4 f)
      rw [show k + (n + 1) = k + 1 + n by omega]
      exact this
    · subst e1
      obtain ⟨m, y, a1, a2, a3, a4⟩ := na_tm1 h1 k1 hD n (k + 1) (c + 1) y1 t hc1 (k1 _ _ d1) g2
      refine ⟨m + 1, y, by omega, a2, by rw [a3, show c + 1 + m = c + (m + 1) by omega], fun f => ?_⟩
      refine ⟨0, x, y1, rfl, f1, d1, ?_⟩
      rw [show k + (n + 1) = k + 1 + n by omega]
      exact a4 f
theorem na_tm2 (h1 : ∀ s t l, (a ≤ s ∧ s < a + z) → D s t l → (a ≤ t ∧ t < a + z))
    (hD : ∀ c x t l, c < h → (a ≤ x ∧ x < a + z) → (D2 (x + z * c) t l ↔ (∃ y, t = y + z * c ∧ D x y l) ∨ (c + 1 < h ∧ ∃ y, t = y + z * (c + 1) ∧ F x ∧ H y l))) :
    ∀ n k c x y, c < h → (a ≤ x ∧ x < a + z) → na_p D w n k x y → (a ≤ y ∧ y < a + z) ∧ na_p D2 w n k (x + z * c) (y + z * c)
  | 0, k, c, x, y, hc, hx, g => by
    have g : x = y := g
    subst g
    exact ⟨hx, rfl⟩
  | n + 1, k, c, x, y, hc, hx, ⟨u, g1, g2⟩ => by
    obtain ⟨a1, a2⟩ := na_tm2 h1 hD n (k + 1) c u y hc (h1 _ _ _ hx g1) g2
    exact ⟨a1, u + z * c, (hD c x _ _ hc hx).mpr (Or.inl ⟨u, rfl, g1⟩), a2⟩
theorem na_tm3 (h1 : ∀ s t l, (a ≤ s ∧ s < a + z) → D s t l → (a ≤ t ∧ t < a + z)) (k1 : ∀ s l, H s l → (a ≤ s ∧ s < a + z))
    (hD : ∀ c x t l, c < h → (a ≤ x ∧ x < a + z) → (D2 (x + z * c) t l ↔ (∃ y, t = y + z * c ∧ D x y l) ∨ (c + 1 < h ∧ ∃ y, t = y + z * (c + 1) ∧ F x ∧ H y l))) :
    ∀ m k c x j, c + m < h → (a ≤ x ∧ x < a + z) → na_g D H F w m k x j → ∃ n y, j = k + n ∧ (a ≤ y ∧ y < a + z) ∧ F y ∧ na_p D2 w n k (x + z * c) (y + z * (c + m))
  | 0, k, c, x, j, hc, hx, ⟨n, y, g1, g2, g3⟩ => by
    obtain ⟨a1, a2⟩ := na_tm2 h1 hD n k c x y hc hx g2
    exact ⟨n, y, g1, a1, g3, a2⟩
  | m + 1, k, c, x, j, hc, hx, ⟨n, u, v, g1, g2, g3, g4⟩ => by
    obtain ⟨a1, a2⟩ := na_tm2 h1 hD n k c x u (by omega) hx g1
    obtain ⟨n2, y, b1, b2, b3, b4⟩ := na_tm3 h1 k1 hD m (k + n + 1) (c + 1) v j (by omega) (k1 _ _ g3) g4
    refine ⟨n + (n2 + 1), y, by omega, b2, b3, (na_p_add _ _ _ _ _).mpr ⟨u + z * c, a2, v + z * (c + 1), (hD c u _ _ (by omega) a1).mpr (Or.inr ⟨by omega, v, rfl, g2, g3⟩), ?_⟩⟩
    rw [show c + (m + 1) = c + 1 + m by omega]
    exact b4
theorem na_tm4 {ls : Nat} (hh : 0 < h) (h1 : ∀ s t l, (a ≤ s ∧ s < a + z) → D s t l → (a ≤ t ∧ t < a + z)) (k1 : ∀ s l, H s l → (a ≤ s ∧ s < a + z))
    (hD : ∀ c x t l, c < h → (a ≤ x ∧ x < a + z) → (D2 (x + z * c) t l ↔ (∃ y, t = y + z * c ∧ D x y l) ∨ (c + 1 < h ∧ ∃ y, t = y + z * (c + 1) ∧ F x ∧ H y l)))
    (hF : ∀ t, F3 t ↔ ∃ c y, c < h ∧ (a ≤ y ∧ y < a + z) ∧ t = y + z * c ∧ F y ∧ ls ≤ c + 1) (i j : Nat) :
    na_r D2 H F3 w i j ↔ ∃ c, c < h ∧ ls ≤ c + 1 ∧ na_it (na_r D H F w) (c + 1) i j := by
  constructor
  · rintro ⟨n, s, t, b1, b2, b3, b4⟩
    have b3 : na_p D2 w n (i + 1) (s + z * 0) t := by rw [Nat.mul_zero, Nat.add_zero]; exact b3
    obtain ⟨m, y, c1, c2, c3, c4⟩ := na_tm1 h1 k1 hD n (i + 1) 0 s t hh (k1 _ _ b2) b3
    obtain ⟨c, y2, d1, d2, d3, d4, d5⟩ := (hF t).mp b4
    rw [Nat.zero_add] at c1 c3
    obtain ⟨e1, e2⟩ := na_dec c2.1 c2.2 d2.1 d2.2 (c3.symm.trans d3)
    subst e1 e2
    refine ⟨m, d1, d5, (na_g_it m i j).mpr ⟨s, b2, ?_⟩⟩
    rw [show j = i + 1 + n by omega]
    exact c4 d4
  · rintro ⟨c, d1, d5, g⟩
    obtain ⟨s, g1, g2⟩ := (na_g_it c i j).mp g
    obtain ⟨n, y, b1, b2, b3, b4⟩ := na_tm3 h1 k1 hD c (i + 1) 0 s j (by omega) (k1 _ _ g1) g2
    rw [Nat.mul_zero, Nat.add_zero, Nat.zero_add] at b4
    exact ⟨n, s, _, by omega, g1, b4, (hF _).mpr ⟨c, y, d1, b2, rfl, b3, d5⟩⟩
end NBT
theorem na_it_e (he : e) : ∀ n i j, na_it (na_a D H F e w) n i j ↔ ∃ m, m ≤ n ∧ na_it (na_r D H F w) m i j
  | 0, i, j => by
    constructor
    · intro h
      exact ⟨0, Nat.le_refl _, h⟩
    · rintro ⟨m, h1, h2⟩
      have : m = 0 := by omega
      subst this
      exact h2
  | n + 1, i, j => by
    constructor
    · rintro ⟨k, h1, h2⟩
      obtain ⟨m, g1, g2⟩ := (na_it_e he n k j).mp h2
      rcases h1 with ⟨rfl, _⟩ | h1
      · exact ⟨m, by omega, g2⟩
      · exact ⟨m + 1, by omega, k, h1, g2⟩
    · rintro ⟨m, g1, g2⟩
      match m, g1, g2 with
      | 0, g1, g2 => exact ⟨i, Or.inl ⟨rfl, he⟩, (na_it_e he n i j).mpr ⟨0, Nat.zero_le _, g2⟩⟩
      | m + 1, g1, ⟨k, g2, g3⟩ => exact ⟨k, Or.inr g2, (na_it_e he n k j).mpr ⟨m, by omega, g3⟩⟩
theorem na_it_n (he : ¬ e) (n i j : Nat) : na_it (na_a D H F e w) n i j ↔ na_it (na_r D H F w) n i j := ⟨na_it_mono (fun i j h => h.elim (fun z => (he z.2).elim) id) n i j, na_it_mono (fun i j h => Or.inr h) n i j⟩
theorem na_times {a z h low ls : Nat} (hh : 0 < h) (hl : low ≤ h) (hls0 : e → ls = 0) (hls1 : ¬ e → ls = low) (h1 : ∀ s t l, (a ≤ s ∧ s < a + z) → D s t l → (a ≤ t ∧ t < a + z)) (k1 : ∀ s l, H s l → (a ≤ s ∧ s < a + z))
    (hD : ∀ c x t l, c < h → (a ≤ x ∧ x < a + z) → (D2 (x + z * c) t l ↔ (∃ y, t = y + z * c ∧ D x y l) ∨ (c + 1 < h ∧ ∃ y, t = y + z * (c + 1) ∧ F x ∧ H y l)))
    (hF : ∀ t, F3 t ↔ ∃ c y, c < h ∧ (a ≤ y ∧ y < a + z) ∧ t = y + z * c ∧ F y ∧ ls ≤ c + 1) (i j : Nat) :
    na_a D2 H F3 (ls = 0) w i j ↔ ∃ n, low ≤ n ∧ n ≤ h ∧ na_it (na_a D H F e w) n i j := by
  unfold na_a
  rw [na_tm4 hh h1 k1 hD hF i j]
  by_cases he : e
  · have l0 := hls0 he
    constructor
    · rintro (⟨g, _⟩ | ⟨c, g1, g2, g3⟩)
      · exact ⟨h, hl, Nat.le_refl _, (na_it_e he h i j).mpr ⟨0, Nat.zero_le _, g⟩⟩
      · exact ⟨h, hl, Nat.le_refl _, (na_it_e he h i j).mpr ⟨c + 1, g1, g3⟩⟩
    · rintro ⟨n, g1, g2, g3⟩
      obtain ⟨m, g4, g5⟩ := (na_it_e he n i j).mp g3
      match m, g4, g5 with
      | 0, g4, g5 => exact Or.inl ⟨g5, l0⟩
      | m + 1, g4, g5 => exact Or.inr ⟨m, by omega, by omega, g5⟩
  · have l1 := hls1 he
    constructor
    · rintro (⟨g, g2⟩ | ⟨c, g1, g2, g3⟩)
      · exact ⟨0, by omega, Nat.zero_le _, g⟩
      · exact ⟨c + 1, by omega, g1, (na_it_n he _ i j).mpr g3⟩
    · rintro ⟨n, g1, g2, g3⟩
      have g3 := (na_it_n he _ i j).mp g3
      match n, g1, g2, g3 with
      | 0, g1, g2, g3 => exact Or.inl ⟨g3, by omega⟩
      | m + 1, g1, g2, g3 => exact Or.inr ⟨m, by omega, by omega, g3⟩
/-! ===== letters with c, counted ===== -/
theorem na_ocp {pos neg : α → Prop} {wb : Prop} {a S n : Nat} (hS : ∀ q, (2 * q < S ↔ q < n ∨ (q = n ∧ wb)) ∧ (2 * q + 1 < S ↔ q < n))
    (hD : ∀ o t l, o < S → (D2 (a + o) t l ↔ (t = a + 2 * ((o + 1) / 2) ∧ 2 * ((o + 1) / 2) < S ∧ neg l) ∨ (t = a + (2 * ((o + 1) / 2) + 1) ∧ 2 * ((o + 1) / 2) + 1 < S ∧ pos l)))
    (hF : ∀ t, F3 t ↔ ∃ o, o < S ∧ t = a + o ∧ (o + 1) / 2 = n) :
    ∀ m k o, o < S → (o + 1) / 2 ≤ n → ((∃ t, na_p D2 w m k (a + o) t ∧ F3 t) ↔ na_oc pos neg wb w m (n - (o + 1) / 2) k)
  | 0, k, o, ho, hq => by
    constructor
    · rintro ⟨t, h1, h2⟩
      have h1 : a + o = t := h1
      subst h1
      obtain ⟨o2, g1, g2, g3⟩ := (hF _).mp h2
      have : o2 = o := by omega
      subst this
      show n - (o2 + 1) / 2 = 0
      omega
    · intro h
      have h : n - (o + 1) / 2 = 0 := h
      exact ⟨a + o, rfl, (hF _).mpr ⟨o, ho, rfl, by omega⟩⟩
  | m + 1, k, o, ho, hq => by
    have q1 : ((2 * ((o + 1) / 2)) + 1) / 2 = (o + 1) / 2 := by omega
    have q2 : ((2 * ((o + 1) / 2) + 1) + 1) / 2 = (o + 1) / 2 + 1 := by omega
    have s1 := (hS ((o + 1) / 2)).1
    have s2 := (hS ((o + 1) / 2)).2
    constructor
    · rintro ⟨t, ⟨u, g1, g2⟩, g3⟩
      rcases (hD o u _ ho).mp g1 with ⟨rfl, b1, b2⟩ | ⟨rfl, b1, b2⟩
      · have := (na_ocp hS hD hF m (k + 1) _ b1 (by omega)).mp ⟨t, g2, g3⟩
        rw [q1] at this
        refine Or.inl ⟨b2, ?_, this⟩
        rcases s1.mp b1 with c | c
        · exact Or.inl (by omega)
        · exact Or.inr c.2
      · have c := s2.mp b1
        have := (na_ocp hS hD hF m (k + 1) _ b1 (by omega)).mp ⟨t, g2, g3⟩
        rw [q2] at this
        refine Or.inr ⟨b2, by omega, ?_⟩
        rw [show n - (o + 1) / 2 - 1 = n - ((o + 1) / 2 + 1) by omega]
        exact this
    · rintro (⟨b2, b3, b4⟩ | ⟨b2, b3, b4⟩)
      · have b1 : 2 * ((o + 1) / 2) < S := s1.mpr (b3.elim (fun z => Or.inl (by omega)) (fun z => by
          by_cases h : (o + 1) / 2 < n
          · exact Or.inl h
          · exact Or.inr ⟨by omega, z⟩))
        obtain ⟨t, c1, c2⟩ := (na_ocp hS hD hF m (k + 1) _ b1 (by omega)).mpr (by rw [q1]; exact b4)
        exact ⟨t, ⟨_, (hD o _ _ ho).mpr (Or.inl ⟨rfl, b1, b2⟩), c1⟩, c2⟩
      · have b1 : 2 * ((o + 1) / 2) + 1 < S := s2.mpr (by omega)
        obtain ⟨t, c1, c2⟩ := (na_ocp hS hD hF m (k + 1) _ b1 (by omega)).mpr (by
          rw [q2, show n - ((o + 1) / 2 + 1) = n - (o + 1) / 2 - 1 by omega]; exact b4)
        exact ⟨t, ⟨_, (hD o _ _ ho).mpr (Or.inr ⟨rfl, b1, b2⟩), c1⟩, c2⟩
theorem na_occ {pos neg : α → Prop} {wb : Prop} {a S n : Nat} (hS : ∀ q, (2 * q < S ↔ q < n ∨ (q = n ∧ wb)) ∧ (2 * q + 1 < S ↔ q < n))
    (hD : ∀ o t l, o < S → (D2 (a + o) t l ↔ (t = a + 2 * ((o + 1) / 2) ∧ 2 * ((o + 1) / 2) < S ∧ neg l) ∨ (t = a + (2 * ((o + 1) / 2) + 1) ∧ 2 * ((o + 1) / 2) + 1 < S ∧ pos l)))
    (hH : ∀ s l, H3 s l ↔ (s = a ∧ 0 < S ∧ neg l) ∨ (s = a + 1 ∧ 1 < S ∧ pos l))
    (hF : ∀ t, F3 t ↔ ∃ o, o < S ∧ t = a + o ∧ (o + 1) / 2 = n) (i j : Nat) :
    na_a D2 H3 F3 (n = 0) w i j ↔ ∃ m, j = i + m ∧ na_oc pos neg wb w m n i := by
  have s1 := hS 0
  constructor
  · rintro (⟨h, g⟩ | ⟨m, s, t, b1, b2, b3, b4⟩)
    · exact ⟨0, by omega, g⟩
    · refine ⟨m + 1, by omega, ?_⟩
      rcases (hH _ _).mp b2 with ⟨rfl, c1, c2⟩ | ⟨rfl, c1, c2⟩
      · have := (na_ocp hS hD hF m (i + 1) 0 c1 (by omega)).mp ⟨t, b3, b4⟩
        refine Or.inl ⟨c2, ?_, this⟩
        rcases s1.1.mp c1 with d | d
        · exact Or.inl d
        · exact Or.inr d.2
      · have c3 := s1.2.mp c1
        have := (na_ocp hS hD hF m (i + 1) 1 c1 (by omega)).mp ⟨t, b3, b4⟩
        exact Or.inr ⟨c2, c3, this⟩
  · rintro ⟨m, h1, h2⟩
    match m, h1, h2 with
    | 0, h1, h2 => exact Or.inl ⟨by omega, h2⟩
    | m + 1, h1, h2 =>
      rcases h2 with ⟨b2, b3, b4⟩ | ⟨b2, b3, b4⟩
      · have b1 : 0 < S := s1.1.mpr (by
          by_cases h : 0 < n
          · exact Or.inl h
          · exact Or.inr ⟨by omega, b3.elim (fun z => (h z).elim) id⟩)
        obtain ⟨t, c1, c2⟩ := (na_ocp hS hD hF m (i + 1) 0 b1 (by omega)).mpr b4
        exact Or.inr ⟨m, a, t, by omega, (hH _ _).mpr (Or.inl ⟨rfl, b1, b2⟩), c1, c2⟩
      · have b1 : 1 < S := s1.2.mpr b3
        obtain ⟨t, c1, c2⟩ := (na_ocp hS hD hF m (i + 1) 1 b1 (by omega)).mpr b4
        exact Or.inr ⟨m, a + 1, t, by omega, (hH _ _).mpr (Or.inr ⟨rfl, b1, b2⟩), c1, c2⟩
end NB
