/-! ===== words that fail ===== -/
/-- words by what feeds them, layer by layer -/
def hw_W (P : pd_P) (v : Nat → Nat) (n : Nat) : Nat → Nat → Nat → Prop
  | 0 => fun _ _ => False
  | k + 1 => fun q u => (q = 0 ∧ u = 0) ∨ ∃ s, s < pd_m P ∧ sc_T P s q ∧ sc_c P v (hw_W P v n k) s n u
theorem hw_st {P : pd_P} {v : Nat → Nat} {n : Nat} (ho : sc_ok P) : ∀ k q, q < k → q < pd_m P → ∀ u, (hw_W P v n (k + 1) q u ↔ hw_W P v n k q u)
  | 0, q, h, _, _ => by omega
  | k + 1, q, h, hq, u => by
    show ((q = 0 ∧ u = 0) ∨ ∃ s, s < pd_m P ∧ sc_T P s q ∧ sc_c P v (hw_W P v n (k + 1)) s n u) ↔ ((q = 0 ∧ u = 0) ∨ ∃ s, s < pd_m P ∧ sc_T P s q ∧ sc_c P v (hw_W P v n k) s n u)
    refine or_congr Iff.rfl (exists_congr fun s => and_congr_right fun hs => and_congr_right fun hT => ?_)
    have hsq := (ho.1 s q hs hT).1
    have e : ∀ i, hw_W P v n (k + 1) s i ↔ hw_W P v n k s i := fun i => hw_st ho k s (by omega) hs i
    exact ⟨sc_c_c (fun i _ => e i), sc_c_c (fun i _ => (e i).symm)⟩
theorem hw_ex {P : pd_P} {v : Nat → Nat} {n : Nat} (ho : sc_ok P) : ∃ W, sc_J P v n 0 W := by
  refine ⟨hw_W P v n (pd_m P), fun q hq u hu => ?_⟩
  rw [← hw_st ho (pd_m P) q hq hq u]
  show ((q = 0 ∧ u = 0) ∨ ∃ s, s < pd_m P ∧ sc_T P s q ∧ sc_c P v (hw_W P v n (pd_m P)) s n u) ↔ _
  refine or_congr Iff.rfl (exists_congr fun s => and_congr_right fun hs => and_congr_right fun hT => ?_)
  rw [if_neg (Nat.not_lt_zero _)]
theorem hw_c {P : pd_P} {v : Nat → Nat} {n n2 s u : Nat} {W W2 : Nat → Nat → Prop} (hn : n ≤ n2) (hu : u < n) (h : ∀ i, i < n → (W s i ↔ W2 s i)) : sc_c P v W s n u ↔ sc_c P v W2 s n2 u := by
  constructor
  · rintro (⟨k, a, i, b, c, d⟩ | ⟨k, ⟨a, b, c⟩ | ⟨a, i, b, c, d⟩⟩ | ⟨k, a, b, c⟩ | ⟨k, a, i, b, c⟩ | ⟨k, i, a, b, c⟩ | ⟨k, a, i, b, c, d⟩ | ⟨k, a, b⟩)
    · exact Or.inl ⟨k, by omega, i, b, (h i (by omega)).mp c, d⟩
    · exact Or.inr (Or.inl ⟨k, Or.inl ⟨by omega, (h u (by omega)).mp b, c⟩⟩)
    · exact Or.inr (Or.inl ⟨k, Or.inr ⟨by omega, i, b, (h i (by omega)).mp c, d⟩⟩)
    · exact Or.inr (Or.inr (Or.inl ⟨k, by omega, (h u (by omega)).mp b, c⟩))
    · exact Or.inr (Or.inr (Or.inr (Or.inl ⟨k, by omega, i, b, (h i (by omega)).mp c⟩)))
    · exact Or.inr (Or.inr (Or.inr (Or.inr (Or.inl ⟨k, i, by omega, (h i (by omega)).mp b, c⟩))))
    · exact Or.inr (Or.inr (Or.inr (Or.inr (Or.inr (Or.inl ⟨k, by omega, i, b, (h i (by omega)).mp c, d⟩)))))
    · exact Or.inr (Or.inr (Or.inr (Or.inr (Or.inr (Or.inr ⟨k, by omega, (h u (by omega)).mp b⟩)))))
  · rintro (⟨k, a, i, b, c, d⟩ | ⟨k, ⟨a, b, c⟩ | ⟨a, i, b, c, d⟩⟩ | ⟨k, a, b, c⟩ | ⟨k, a, i, b, c⟩ | ⟨k, i, a, b, c⟩ | ⟨k, a, i, b, c, d⟩ | ⟨k, a, b⟩)
    · exact Or.inl ⟨k, by omega, i, b, (h i (by omega)).mpr c, d⟩
    · exact Or.inr (Or.inl ⟨k, Or.inl ⟨by omega, (h u (by omega)).mpr b, c⟩⟩)
    · exact Or.inr (Or.inl ⟨k, Or.inr ⟨by omega, i, b, (h i (by omega)).mpr c, d⟩⟩)
    · exact Or.inr (Or.inr (Or.inl ⟨k, by omega, (h u (by omega)).mpr b, c⟩))
    · exact Or.inr (Or.inr (Or.inr (Or.inl ⟨k, by omega, i, b, (h i (by omega)).mpr c⟩)))
    · exact Or.inr (Or.inr (Or.inr (Or.inr (Or.inl ⟨k, i, by omega, (h i (by omega)).mpr b, c⟩))))
    · exact Or.inr (Or.inr (Or.inr (Or.inr (Or.inr (Or.inl ⟨k, by omega, i, b, (h i (by omega)).mpr c, d⟩)))))
    · exact Or.inr (Or.inr (Or.inr (Or.inr (Or.inr (Or.inr ⟨k, by omega, (h u (by omega)).mpr b⟩)))))
/-- words agree where both are told -/
theorem hw_agree {P : pd_P} {v : Nat → Nat} {n n2 : Nat} {W W2 : Nat → Nat → Prop} (ho : sc_ok P) (hn : n ≤ n2) (hn4 : n2 < 64) (h : sc_J P v n 0 W) (h2 : sc_J P v n2 0 W2) : ∀ q, q < pd_m P → ∀ u, u < n → (W q u ↔ W2 q u) := by
  intro q
  induction q using Nat.strongRecOn with
  | _ q ih =>
    intro hq u hu
    rw [h q hq u (by omega), h2 q hq u (by omega)]
    refine or_congr Iff.rfl (exists_congr fun s => and_congr_right fun hs => and_congr_right fun hT => ?_)
    rw [if_neg (Nat.not_lt_zero _), if_neg (Nat.not_lt_zero _)]
    exact hw_c hn hu (fun i hi => ih s (ho.1 s q hs hT).1 hs i hi)
theorem hw_f {P : pd_P} {v : Nat → Nat} {t s : Nat} {W W2 : Nat → Nat → Prop} (h : ∀ u, u ≤ t → (W s u ↔ W2 s u)) (g : sc_f P v W t s) : sc_f P v W2 t s := by
  unfold sc_f at g ⊢
  rcases g with ⟨k, a, b⟩ | ⟨k, i, a, b, c⟩ | ⟨k, i, a, ⟨j, b, c⟩, d⟩ | ⟨k, ⟨i, a, b, c⟩, d⟩
  · exact Or.inl ⟨k, (h t (by omega)).mp a, b⟩
  · exact Or.inr (Or.inl ⟨k, i, a, (h i (by omega)).mp b, c⟩)
  · exact Or.inr (Or.inr (Or.inl ⟨k, i, a, ⟨j, b, (h j (by omega)).mp c⟩, d⟩))
  · exact Or.inr (Or.inr (Or.inr ⟨k, ⟨i, a, (h i (by omega)).mp b, c⟩, d⟩))
/-- a word of n letters fails -/
def hw_X (P : pd_P) (v : Nat → Nat) (n : Nat) : Prop := ∃ W, sc_J P v n 0 W ∧ ∃ t s, t < n ∧ s < pd_m P ∧ sc_f P v W t s
theorem hw_X_m {P : pd_P} {v : Nat → Nat} {n n2 : Nat} (ho : sc_ok P) (hn : n ≤ n2) (hn4 : n2 < 64) (h : hw_X P v n) : hw_X P v n2 := by
  obtain ⟨W, hJ, t, s, ht, hs, hf⟩ := h
  obtain ⟨W2, hJ2⟩ := hw_ex (v := v) (n := n2) ho
  exact ⟨W2, hJ2, t, s, by omega, hs, hw_f (fun u hu => hw_agree ho hn hn4 hJ hJ2 s hs u (by omega)) hf⟩
theorem hw_X_v {P : pd_P} {v v2 : Nat → Nat} {n : Nat} (h : ∀ i, i < n → v i = v2 i) (g : hw_X P v n) : hw_X P v2 n := by
  obtain ⟨W, hJ, t, s, ht, hs, hf⟩ := g
  exact ⟨W, sc_J_v h hJ, t, s, ht, hs, sc_f_v (fun i hi => h i (by omega)) hf⟩
theorem hw_X_0 {P : pd_P} {v : Nat → Nat} : ¬ hw_X P v 0 := fun ⟨_, _, t, _, ht, _⟩ => by omega
/-- what a step tells -/
theorem hw_X_s {P : pd_P} {v : Nat → Nat} {t : Nat} {W : Nat → Nat → Prop} {f : Bool} (ho : sc_ok P) (ht : t < 63) (hJ : sc_J P v (t + 1) 0 W) (hf : f = true ↔ ∃ s, s < pd_m P ∧ sc_f P v W t s) (hn : ¬ hw_X P v t) : f = true ↔ hw_X P v (t + 1) := by
  constructor
  · intro z
    obtain ⟨s, hs, hg⟩ := hf.mp z
    exact ⟨W, hJ, t, s, by omega, hs, hg⟩
  · rintro ⟨W2, hJ2, t2, s, ht2, hs, hg⟩
    by_cases e : t2 = t
    · subst e
      exact hf.mpr ⟨s, hs, hw_f (fun u hu => hw_agree ho (Nat.le_refl _) (by omega) hJ2 hJ s hs u (by omega)) hg⟩
    · obtain ⟨W3, hJ3⟩ := hw_ex (v := v) (n := t) ho
      exact (hn ⟨W3, hJ3, t2, s, by omega, hs, hw_f (fun u hu => (hw_agree ho (by omega) (by omega) hJ3 hJ2 s hs u (by omega)).symm) hg⟩).elim
/-- and what the reference tells -/
theorem hw_X_r {P : pd_P} {S : rn_N} {x n : Nat} {v : Nat → Nat} {b : Bool} (hR : sc_R P S x) (hi : rn_i S) (hq : rn_q S) (hZ : sc_Z S) (hn : n < 60) (hn0 : 0 < n) (hv : ∀ i, i < n → v i < 64) (hw : mr_w S x v n b) : b = true ↔ hw_X P v n := by
  obtain ⟨W, hJ⟩ := hw_ex (v := v) (n := n) (sc_R_ok hR).1
  rw [sc_both hR hi hq hZ hn hn0 hv hJ hw]
  constructor
  · intro z
    exact ⟨W, hJ, z⟩
  · rintro ⟨W2, hJ2, t, s, ht, hs, hg⟩
    exact ⟨t, s, ht, hs, hw_f (fun u hu => hw_agree (sc_R_ok hR).1 (Nat.le_refl _) (by omega) hJ2 hJ s hs u (by omega)) hg⟩
theorem dz_r_c {a b g : Nat} {nx : Nat → Nat} {fi : Nat → Bool} {sg on tw : Nat → Nat} {u u2 : Nat → Nat} : ∀ t, (∀ i, i < t → u i = u2 i) → dz_r a b g nx fi sg on tw u t = dz_r a b g nx fi sg on tw u2 t
  | 0, _ => rfl
  | t + 1, h => by
    show dz_nx a b g nx fi sg on tw (dz_r a b g nx fi sg on tw u t) (u t) = dz_nx a b g nx fi sg on tw (dz_r a b g nx fi sg on tw u2 t) (u2 t)
    rw [dz_r_c t (fun i hi => h i (by omega)), h t (by omega)]
theorem dz_w_c {a b g : Nat} {nx : Nat → Nat} {fi : Nat → Bool} {sg on tw : Nat → Nat} {u u2 : Nat → Nat} {t : Nat} (h : ∀ i, i ≤ t → u i = u2 i) : dz_w a b g nx fi sg on tw u t = dz_w a b g nx fi sg on tw u2 t := by
  unfold dz_w
  rw [dz_r_c t (fun i hi => h i (by omega)), h t (by omega)]
