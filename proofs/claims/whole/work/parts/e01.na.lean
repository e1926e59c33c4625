/-! ===== rows of letters and what reads them: states, steps, first and last ones ===== -/
section NA
variable {α : Type}
/-- n steps from state s, the first with the letter at k, to state t -/
def na_p (D : Nat → Nat → α → Prop) (w : Nat → α) : Nat → Nat → Nat → Nat → Prop
  | 0, _, s, t => s = t
  | n + 1, k, s, t => ∃ u, D s u (w k) ∧ na_p D w n (k + 1) u t
/-- a row with a letter -/
def na_r (D : Nat → Nat → α → Prop) (H : Nat → α → Prop) (F : Nat → Prop) (w : Nat → α) (i j : Nat) : Prop := ∃ n s t, j = i + n + 1 ∧ H s (w i) ∧ na_p D w n (i + 1) s t ∧ F t
/-- a row, perhaps of none -/
def na_a (D : Nat → Nat → α → Prop) (H : Nat → α → Prop) (F : Nat → Prop) (e : Prop) (w : Nat → α) (i j : Nat) : Prop := (i = j ∧ e) ∨ na_r D H F w i j
/-- rows one behind the other -/
def na_it (S : Nat → Nat → Prop) : Nat → Nat → Nat → Prop
  | 0, i, j => i = j
  | n + 1, i, j => ∃ k, S i k ∧ na_it S n k j
variable {D D2 : Nat → Nat → α → Prop} {H H1 H2 H3 : Nat → α → Prop} {F F1 F2 F3 : Nat → Prop} {e e1 e2 : Prop} {w : Nat → α}
theorem na_p_add : ∀ n m k s t, na_p D w (n + m) k s t ↔ ∃ u, na_p D w n k s u ∧ na_p D w m (k + n) u t
  | 0, m, k, s, t => by
    rw [Nat.zero_add]
    constructor
    · intro h
      exact ⟨s, rfl, h⟩
    · rintro ⟨u, h1, h2⟩
      have h1 : s = u := h1
      subst h1
      exact h2
  | n + 1, m, k, s, t => by
    rw [show n + 1 + m = (n + m) + 1 by omega]
    constructor
    · rintro ⟨u, h1, h2⟩
      obtain ⟨v, h3, h4⟩ := (na_p_add n m (k + 1) u t).mp h2
      exact ⟨v, ⟨u, h1, h3⟩, by rw [show k + (n + 1) = k + 1 + n by omega]; exact h4⟩
    · rintro ⟨v, ⟨u, h1, h3⟩, h4⟩
      refine ⟨u, h1, (na_p_add n m (k + 1) u t).mpr ⟨v, h3, ?_⟩⟩
      rw [show k + 1 + n = k + (n + 1) by omega]
      exact h4
theorem na_p_snoc {n k s t : Nat} : na_p D w (n + 1) k s t ↔ ∃ u, na_p D w n k s u ∧ D u t (w (k + n)) := by
  rw [na_p_add n 1 k s t]
  constructor
  · rintro ⟨u, h1, v, h2, h3⟩
    have h3 : v = t := h3
    subst h3
    exact ⟨u, h1, h2⟩
  · rintro ⟨u, h1, h2⟩
    exact ⟨u, h1, t, h2, rfl⟩
/-- steps stay within, and are those of another -/
theorem na_p_in {P : Nat → Prop} (hc : ∀ s t l, P s → D s t l → P t ∧ D2 s t l) : ∀ n k s t, P s → na_p D w n k s t → P t ∧ na_p D2 w n k s t
  | 0, _, s, t, hs, h => by
    have h : s = t := h
    subst h
    exact ⟨hs, rfl⟩
  | n + 1, k, s, t, hs, ⟨u, h1, h2⟩ => by
    obtain ⟨a, b⟩ := hc s u _ hs h1
    obtain ⟨c, d⟩ := na_p_in hc n (k + 1) u t a h2
    exact ⟨c, u, b, d⟩
theorem na_p_mono (hc : ∀ s t l, D s t l → D2 s t l) : ∀ {n k s t : Nat}, na_p D w n k s t → na_p D2 w n k s t := fun {n k s t} h => (na_p_in (P := fun _ => True) (fun s t l _ h => ⟨trivial, hc s t l h⟩) n k s t trivial h).2
theorem na_a_le {i j : Nat} (h : na_a D H F e w i j) : i ≤ j := by
  rcases h with ⟨h, _⟩ | ⟨n, s, t, h, _⟩ <;> omega
theorem na_r_lt {i j : Nat} (h : na_r D H F w i j) : i < j := by
  obtain ⟨n, s, t, h, _⟩ := h
  omega
theorem na_a_r {i j : Nat} (h : i < j) : na_a D H F e w i j ↔ na_r D H F w i j := ⟨fun z => z.elim (fun y => by omega) id, Or.inr⟩
/-! ===== one behind the other ===== -/
theorem na_cross {P1 P2 : Nat → Prop} (hd : ∀ s, P1 s → P2 s → False) (h1 : ∀ s t l, P1 s → D s t l → P1 t) (h2 : ∀ s t l, P2 s → D s t l → P2 t)
    (X : Nat → Nat → α → Prop) (hX : ∀ s t l, P1 s → (D2 s t l ↔ D s t l ∨ X s t l)) (hXP : ∀ s t l, X s t l → P2 t) (hY : ∀ s t l, P2 s → (D2 s t l ↔ D s t l)) :
    ∀ n k s t, P1 s → na_p D2 w n k s t → (P1 t ∧ na_p D w n k s t) ∨ ∃ n1 n2 x y, n = n1 + 1 + n2 ∧ na_p D w n1 k s x ∧ P1 x ∧ X x y (w (k + n1)) ∧ na_p D w n2 (k + n1 + 1) y t ∧ P2 t
  | 0, _, s, t, hs, h => by
    have h : s = t := h
    subst h
    exact Or.inl ⟨hs, rfl⟩
  | n + 1, k, s, t, hs, ⟨u, g1, g2⟩ => by
    rcases (hX s u _ hs).mp g1 with g | g
    · rcases na_cross hd h1 h2 X hX hXP hY n (k + 1) u t (h1 _ _ _ hs g) g2 with ⟨a, b⟩ | ⟨n1, n2, x, y, a1, a2, a3, a4, a5, a6⟩
      · exact Or.inl ⟨a, u, g, b⟩
      · refine Or.inr ⟨n1 + 1, n2, x, y, by omega, ⟨u, g, a2⟩, a3, ?_, ?_, a6⟩
        · rw [show k + (n1 + 1) = k + 1 + n1 by omega]; exact a4
        · rw [show k + (n1 + 1) + 1 = k + 1 + n1 + 1 by omega]; exact a5
    · have := na_p_in (P := P2) (D := D2) (D2 := D) (w := w) (fun s t l hs h => ⟨h2 s t l hs ((hY s t l hs).mp h), (hY s t l hs).mp h⟩) n (k + 1) u t (hXP _ _ _ g) g2
      exact Or.inr ⟨0, n, s, u, by omega, rfl, hs, g, this.2, this.1⟩
theorem na_join {P1 P2 : Nat → Prop} (X : Nat → Nat → α → Prop) (h1 : ∀ s t l, P1 s → D s t l → P1 t) (h2 : ∀ s t l, P2 s → D s t l → P2 t) (hX : ∀ s t l, P1 s → (D2 s t l ↔ D s t l ∨ X s t l)) (hY : ∀ s t l, P2 s → (D2 s t l ↔ D s t l))
    {n1 n2 k s x y t : Nat} (hs : P1 s) (a : na_p D w n1 k s x) (b : X x y (w (k + n1))) (hy : P2 y) (c : na_p D w n2 (k + n1 + 1) y t) : na_p D2 w (n1 + 1 + n2) k s t := by
  have a2 := na_p_in (P := P1) (D := D) (D2 := D2) (w := w) (fun s t l hs h => ⟨h1 s t l hs h, (hX s t l hs).mpr (Or.inl h)⟩) n1 k s x hs a
  have c2 := na_p_in (P := P2) (D := D) (D2 := D2) (w := w) (fun s t l hs h => ⟨h2 s t l hs h, (hY s t l hs).mpr h⟩) n2 _ y t hy c
  rw [Nat.add_assoc]
  refine (na_p_add _ _ _ _ _).mpr ⟨x, a2.2, ?_⟩
  rw [Nat.add_comm 1 n2]
  exact ⟨y, (hX x y _ a2.1).mpr (Or.inr b), c2.2⟩
theorem na_chain {P1 P2 : Nat → Prop} (hd : ∀ s, P1 s → P2 s → False) (h1 : ∀ s t l, P1 s → D s t l → P1 t) (h2 : ∀ s t l, P2 s → D s t l → P2 t)
    (k1 : ∀ s l, H1 s l → P1 s) (k2 : ∀ s l, H2 s l → P2 s) (f1 : ∀ s, F1 s → P1 s) (f2 : ∀ s, F2 s → P2 s)
    (hX : ∀ s t l, P1 s → (D2 s t l ↔ D s t l ∨ (F1 s ∧ H2 t l))) (hY : ∀ s t l, P2 s → (D2 s t l ↔ D s t l))
    (hH : ∀ s l, H3 s l ↔ H1 s l ∨ (e1 ∧ H2 s l)) (hF : ∀ s, F3 s ↔ F2 s ∨ (e2 ∧ F1 s)) (he : e ↔ e1 ∧ e2) (i j : Nat) :
    na_a D2 H3 F3 e w i j ↔ ∃ k, na_a D H1 F1 e1 w i k ∧ na_a D H2 F2 e2 w k j := by
  constructor
  · rintro (⟨h, g⟩ | ⟨n, s, t, hj, hs, hp, ht⟩)
    · exact ⟨i, Or.inl ⟨rfl, (he.mp g).1⟩, Or.inl ⟨h, (he.mp g).2⟩⟩
    · rcases (hH _ _).mp hs with g | ⟨g1, g⟩
      · rcases na_cross hd h1 h2 (fun s t l => F1 s ∧ H2 t l) hX (fun s t l h => k2 _ _ h.2) hY n (i + 1) s t (k1 _ _ g) hp with ⟨a, b⟩ | ⟨n1, n2, x, y, a1, a2, a3, a4, a5, a6⟩
        · rcases (hF t).mp ht with f | ⟨f, f3⟩
          · exact (hd t a (f2 _ f)).elim
          · exact ⟨j, Or.inr ⟨n, s, t, hj, g, b, f3⟩, Or.inl ⟨rfl, f⟩⟩
        · have f : F2 t := ((hF t).mp ht).elim id (fun f => (hd t (f1 _ f.2) a6).elim)
          refine ⟨i + n1 + 1, Or.inr ⟨n1, s, x, rfl, g, a2, a4.1⟩, Or.inr ⟨n2, y, t, by omega, ?_, ?_, f⟩⟩
          · rw [show i + n1 + 1 = i + 1 + n1 by omega]; exact a4.2
          · rw [show i + n1 + 1 + 1 = i + 1 + n1 + 1 by omega]; exact a5
      · have := na_p_in (P := P2) (D := D2) (D2 := D) (w := w) (fun s t l hs h => ⟨h2 s t l hs ((hY s t l hs).mp h), (hY s t l hs).mp h⟩) n (i + 1) s t (k2 _ _ g) hp
        have f : F2 t := ((hF t).mp ht).elim id (fun f => (hd t (f1 _ f.2) this.1).elim)
        exact ⟨i, Or.inl ⟨rfl, g1⟩, Or.inr ⟨n, s, t, hj, g, this.2, f⟩⟩
  · rintro ⟨k, a, b⟩
    rcases a with ⟨rfl, g1⟩ | ⟨n, s, t, hj, hs, hp, ht⟩
    · rcases b with ⟨rfl, g2⟩ | ⟨n, s, t, hj, hs, hp, ht⟩
      · exact Or.inl ⟨rfl, he.mpr ⟨g1, g2⟩⟩
      · have := na_p_in (P := P2) (D := D) (D2 := D2) (w := w) (fun s t l hs h => ⟨h2 s t l hs h, (hY s t l hs).mpr h⟩) n (i + 1) s t (k2 _ _ hs) hp
        exact Or.inr ⟨n, s, t, hj, (hH _ _).mpr (Or.inr ⟨g1, hs⟩), this.2, (hF _).mpr (Or.inl ht)⟩
    · subst hj
      rcases b with ⟨rfl, g2⟩ | ⟨n2, y, t2, hj2, hy, hp2, ht2⟩
      · have := na_p_in (P := P1) (D := D) (D2 := D2) (w := w) (fun s t l hs h => ⟨h1 s t l hs h, (hX s t l hs).mpr (Or.inl h)⟩) n (i + 1) s t (k1 _ _ hs) hp
        exact Or.inr ⟨n, s, t, rfl, (hH _ _).mpr (Or.inl hs), this.2, (hF _).mpr (Or.inr ⟨g2, ht⟩)⟩
      · refine Or.inr ⟨n + 1 + n2, s, t2, by omega, (hH _ _).mpr (Or.inl hs), ?_, (hF _).mpr (Or.inl ht2)⟩
        rw [show i + n + 1 = i + 1 + n by omega] at hy hp2
        exact na_join (P1 := P1) (P2 := P2) (fun s t l => F1 s ∧ H2 t l) h1 h2 hX hY (k1 _ _ hs) hp ⟨ht, hy⟩ (k2 _ _ hy) hp2
/-! ===== with a letter in common ===== -/
theorem na_fuse {P1 P2 : Nat → Prop} (hd : ∀ s, P1 s → P2 s → False) (h1 : ∀ s t l, P1 s → D s t l → P1 t) (h2 : ∀ s t l, P2 s → D s t l → P2 t)
    (k1 : ∀ s l, H1 s l → P1 s) (k2 : ∀ s l, H2 s l → P2 s) (f2 : ∀ s, F2 s → P2 s)
    (hX : ∀ s t l, P1 s → (D2 s t l ↔ D s t l ∨ ((∃ z, D s z l ∧ F1 z) ∧ H2 t l))) (hY : ∀ s t l, P2 s → (D2 s t l ↔ D s t l))
    (hH : ∀ s l, H3 s l ↔ H1 s l ∨ ((∃ z, H1 z l ∧ F1 z) ∧ H2 s l)) (i j : Nat) :
    na_a D2 H3 F2 False w i j ↔ ∃ k, i ≤ k ∧ na_a D H1 F1 e1 w i (k + 1) ∧ na_r D H2 F2 w k j := by
  constructor
  · rintro (⟨_, g⟩ | ⟨n, s, t, hj, hs, hp, ht⟩)
    · exact g.elim
    · rcases (hH _ _).mp hs with g | ⟨⟨z, g1, g2⟩, g⟩
      · rcases na_cross hd h1 h2 (fun s t l => (∃ z, D s z l ∧ F1 z) ∧ H2 t l) hX (fun s t l h => k2 _ _ h.2) hY n (i + 1) s t (k1 _ _ g) hp with ⟨a, b⟩ | ⟨n1, n2, x, y, a1, a2, a3, ⟨⟨z, z1, z2⟩, a4⟩, a5, a6⟩
        · exact (hd t a (f2 _ ht)).elim
        · refine ⟨i + 1 + n1, by omega, Or.inr ⟨n1 + 1, s, z, by omega, g, na_p_snoc.mpr ⟨x, a2, z1⟩, z2⟩, n2, y, t, by omega, a4, a5, ht⟩
      · have := na_p_in (P := P2) (D := D2) (D2 := D) (w := w) (fun s t l hs h => ⟨h2 s t l hs ((hY s t l hs).mp h), (hY s t l hs).mp h⟩) n (i + 1) s t (k2 _ _ g) hp
        exact ⟨i, Nat.le_refl _, Or.inr ⟨0, z, z, rfl, g1, rfl, g2⟩, n, s, t, hj, g, this.2, ht⟩
  · rintro ⟨k, hk, a, n2, y, t2, hj2, hy, hp2, ht2⟩
    rcases a with ⟨h, _⟩ | ⟨n, s, t, hj, hs, hp, ht⟩
    · omega
    · match n, hj, hp with
      | 0, hj, hp =>
        have hp : s = t := hp
        subst hp
        have e : k = i := by omega
        subst e
        have := na_p_in (P := P2) (D := D) (D2 := D2) (w := w) (fun s t l hs h => ⟨h2 s t l hs h, (hY s t l hs).mpr h⟩) n2 (k + 1) y t2 (k2 _ _ hy) hp2
        exact Or.inr ⟨n2, y, t2, hj2, (hH _ _).mpr (Or.inr ⟨⟨s, hs, ht⟩, hy⟩), this.2, ht2⟩
      | m + 1, hj, hp =>
        obtain ⟨x, hx, hd2⟩ := na_p_snoc.mp hp
        have e : k = i + 1 + m := by omega
        subst e
        refine Or.inr ⟨m + 1 + n2, s, t2, by omega, (hH _ _).mpr (Or.inl hs), ?_, ht2⟩
        exact na_join (P1 := P1) (P2 := P2) (fun s t l => (∃ z, D s z l ∧ F1 z) ∧ H2 t l) h1 h2 hX hY (k1 _ _ hs) hx ⟨⟨t, hd2, ht⟩, hy⟩ (k2 _ _ hy) hp2
/-! ===== of one, of both ===== -/
theorem na_or {P1 P2 : Nat → Prop} (hd : ∀ s, P1 s → P2 s → False) (h1 : ∀ s t l, P1 s → D s t l → P1 t) (h2 : ∀ s t l, P2 s → D s t l → P2 t)
    (k1 : ∀ s l, H1 s l → P1 s) (k2 : ∀ s l, H2 s l → P2 s) (f1 : ∀ s, F1 s → P1 s) (f2 : ∀ s, F2 s → P2 s)
    (hH : ∀ s l, H3 s l ↔ H1 s l ∨ H2 s l) (hF : ∀ s, F3 s ↔ F1 s ∨ F2 s) (he : e ↔ e1 ∨ e2) (i j : Nat) :
    na_a D H3 F3 e w i j ↔ na_a D H1 F1 e1 w i j ∨ na_a D H2 F2 e2 w i j := by
  constructor
  · rintro (⟨h, g⟩ | ⟨n, s, t, hj, hs, hp, ht⟩)
    · exact (he.mp g).elim (fun g => Or.inl (Or.inl ⟨h, g⟩)) (fun g => Or.inr (Or.inl ⟨h, g⟩))
    · rcases (hH _ _).mp hs with g | g
      · have := na_p_in (P := P1) (D := D) (D2 := D) (w := w) (fun s t l hs h => ⟨h1 s t l hs h, h⟩) n (i + 1) s t (k1 _ _ g) hp
        exact Or.inl (Or.inr ⟨n, s, t, hj, g, hp, ((hF t).mp ht).elim id (fun f => (hd t this.1 (f2 _ f)).elim)⟩)
      · have := na_p_in (P := P2) (D := D) (D2 := D) (w := w) (fun s t l hs h => ⟨h2 s t l hs h, h⟩) n (i + 1) s t (k2 _ _ g) hp
        exact Or.inr (Or.inr ⟨n, s, t, hj, g, hp, ((hF t).mp ht).elim (fun f => (hd t (f1 _ f) this.1).elim) id⟩)
  · rintro ((⟨h, g⟩ | ⟨n, s, t, hj, hs, hp, ht⟩) | (⟨h, g⟩ | ⟨n, s, t, hj, hs, hp, ht⟩))
    · exact Or.inl ⟨h, he.mpr (Or.inl g)⟩
    · exact Or.inr ⟨n, s, t, hj, (hH _ _).mpr (Or.inl hs), hp, (hF _).mpr (Or.inl ht)⟩
    · exact Or.inl ⟨h, he.mpr (Or.inr g)⟩
    · exact Or.inr ⟨n, s, t, hj, (hH _ _).mpr (Or.inr hs), hp, (hF _).mpr (Or.inr ht)⟩
/-- pairs of states: one z and two z; pr has them all -/
theorem na_and_p {P1 P2 Q : Nat → Prop} {one two : Nat → Nat} {pr : Nat → Nat → Nat} (h1 : ∀ s t l, P1 s → D s t l → P1 t) (h2 : ∀ s t l, P2 s → D s t l → P2 t)
    (hq : ∀ z, Q z → P1 (one z) ∧ P2 (two z) ∧ pr (one z) (two z) = z) (hp : ∀ x y, P1 x → P2 y → Q (pr x y) ∧ one (pr x y) = x ∧ two (pr x y) = y)
    (hD : ∀ z t l, Q z → (D2 z t l ↔ Q t ∧ D (one z) (one t) l ∧ D (two z) (two t) l)) :
    ∀ n k z t, Q z → Q t → (na_p D2 w n k z t ↔ na_p D w n k (one z) (one t) ∧ na_p D w n k (two z) (two t))
  | 0, _, z, t, hz, ht => by
    constructor
    · intro h
      have h : z = t := h
      subst h
      exact ⟨rfl, rfl⟩
    · rintro ⟨a, b⟩
      have a : one z = one t := a
      have b : two z = two t := b
      show z = t
      rw [← (hq z hz).2.2, ← (hq t ht).2.2, a, b]
  | n + 1, k, z, t, hz, ht => by
    constructor
    · rintro ⟨u, g1, g2⟩
      obtain ⟨qu, d1, d2⟩ := (hD z u _ hz).mp g1
      obtain ⟨a, b⟩ := (na_and_p h1 h2 hq hp hD n (k + 1) u t qu ht).mp g2
      exact ⟨⟨_, d1, a⟩, ⟨_, d2, b⟩⟩
    · rintro ⟨⟨u, a1, a2⟩, ⟨v, b1, b2⟩⟩
      obtain ⟨qz1, qz2, _⟩ := hq z hz
      obtain ⟨q1, q2, q3⟩ := hp u v (h1 _ _ _ qz1 a1) (h2 _ _ _ qz2 b1)
      refine ⟨pr u v, (hD z _ _ hz).mpr ⟨q1, by rw [q2]; exact a1, by rw [q3]; exact b1⟩, ?_⟩
      refine (na_and_p h1 h2 hq hp hD n (k + 1) _ t q1 ht).mpr ⟨by rw [q2]; exact a2, by rw [q3]; exact b2⟩
theorem na_and {P1 P2 Q : Nat → Prop} {one two : Nat → Nat} {pr : Nat → Nat → Nat} (h1 : ∀ s t l, P1 s → D s t l → P1 t) (h2 : ∀ s t l, P2 s → D s t l → P2 t)
    (k1 : ∀ s l, H1 s l → P1 s) (k2 : ∀ s l, H2 s l → P2 s) (f1 : ∀ s, F1 s → P1 s) (f2 : ∀ s, F2 s → P2 s)
    (hq : ∀ z, Q z → P1 (one z) ∧ P2 (two z) ∧ pr (one z) (two z) = z) (hp : ∀ x y, P1 x → P2 y → Q (pr x y) ∧ one (pr x y) = x ∧ two (pr x y) = y)
    (hD : ∀ z t l, Q z → (D2 z t l ↔ Q t ∧ D (one z) (one t) l ∧ D (two z) (two t) l))
    (hH : ∀ z l, H3 z l ↔ Q z ∧ H1 (one z) l ∧ H2 (two z) l) (hF : ∀ z, F3 z ↔ Q z ∧ F1 (one z) ∧ F2 (two z)) (he : e ↔ e1 ∧ e2) (i j : Nat) :
    na_a D2 H3 F3 e w i j ↔ na_a D H1 F1 e1 w i j ∧ na_a D H2 F2 e2 w i j := by
  constructor
  · rintro (⟨h, g⟩ | ⟨n, s, t, hj, hs, hp1, ht⟩)
    · exact ⟨Or.inl ⟨h, (he.mp g).1⟩, Or.inl ⟨h, (he.mp g).2⟩⟩
    · obtain ⟨q1, a1, a2⟩ := (hH _ _).mp hs
      obtain ⟨q2, b1, b2⟩ := (hF _).mp ht
      obtain ⟨c1, c2⟩ := (na_and_p h1 h2 hq hp hD n (i + 1) s t q1 q2).mp hp1
      exact ⟨Or.inr ⟨n, _, _, hj, a1, c1, b1⟩, Or.inr ⟨n, _, _, hj, a2, c2, b2⟩⟩
  · rintro ⟨⟨h, g⟩ | ⟨n, s, t, hj, hs, hp1, ht⟩, ⟨h2', g2⟩ | ⟨n2, s2, t2, hj2, hs2, hp2, ht2⟩⟩
    · exact Or.inl ⟨h, he.mpr ⟨g, g2⟩⟩
    · omega
    · omega
    · have en : n2 = n := by omega
      subst en
      obtain ⟨q1, q2, q3⟩ := hp s s2 (k1 _ _ hs) (k2 _ _ hs2)
      obtain ⟨r1, r2, r3⟩ := hp t t2 (f1 _ ht) (f2 _ ht2)
      refine Or.inr ⟨n2, pr s s2, pr t t2, hj, (hH _ _).mpr ⟨q1, by rw [q2]; exact hs, by rw [q3]; exact hs2⟩, ?_, (hF _).mpr ⟨r1, by rw [r2]; exact ht, by rw [r3]; exact ht2⟩⟩
      refine (na_and_p h1 h2 hq hp hD n2 (i + 1) _ _ q1 r1).mpr ⟨?_, ?_⟩
      · rw [q2, r2]; exact hp1
      · rw [q3, r3]; exact hp2
end NA
