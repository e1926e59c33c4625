/-! ===== where parts begin: both sides the same ===== -/
theorem fc_le {S : rn_N} {lk : Nat} {v : Nat → Nat} {en : Nat → Nat → Nat → Bool} {pn : Nat → Nat} {x y t k : Nat} : ∀ d, fb_G S lk v en pn x k y t → fb_G S lk v en pn x (k + d) y t
  | 0, h => h
  | d + 1, h => Or.inl (fc_le d h)
theorem fc_back {S : rn_N} {lk : Nat} {v : Nat → Nat} {en : Nat → Nat → Nat → Bool} {pn : Nat → Nat} {x m : Nat} (ho : ∀ k i u t, k < m → i < m → fb_to S lk v en (pn k) u (pn i) t → k < i) : ∀ n, n ≤ m → ∀ i t, i < m → fb_G S lk v en pn x n (pn i) t → i ≤ n → fb_G S lk v en pn x i (pn i) t
  | 0, _, i, t, _, h, hi => by
    have e : i = 0 := by omega
    subst e
    exact h
  | n + 1, hn, i, t, him, h, hi => by
    by_cases e : i = n + 1
    · subst e
      exact h
    · rcases h with h | ⟨u, hu, h1, h2⟩
      · exact fc_back ho n (by omega) i t him h (by omega)
      · have := ho n i u t (by omega) him h2
        omega
theorem fc_n {S : rn_N} {lk : Nat} {v : Nat → Nat} {en : Nat → Nat → Nat → Bool} {pn : Nat → Nat} {x y t : Nat} : ∀ n, fb_G S lk v en pn x n y t ↔ (y = x ∧ t = 0) ∨ ∃ k u, k < n ∧ u < lk ∧ fb_G S lk v en pn x k (pn k) u ∧ fb_to S lk v en (pn k) u y t
  | 0 => ⟨Or.inl, fun h => by
      rcases h with h | ⟨k, u, hk, _⟩
      · exact h
      · omega⟩
  | n + 1 => by
    show fb_G S lk v en pn x n y t ∨ _ ↔ _
    rw [fc_n n]
    constructor
    · rintro ((h | ⟨k, u, hk, hu, h1, h2⟩) | ⟨u, hu, h1, h2⟩)
      · exact Or.inl h
      · exact Or.inr ⟨k, u, by omega, hu, h1, h2⟩
      · exact Or.inr ⟨n, u, by omega, hu, h1, h2⟩
    · rintro (h | ⟨k, u, hk, hu, h1, h2⟩)
      · exact Or.inl (Or.inl h)
      · by_cases e : k = n
        · subst e
          exact Or.inr ⟨u, hu, h1, h2⟩
        · exact Or.inl (Or.inr ⟨k, u, by omega, hu, h1, h2⟩)
theorem fc_all {S : rn_N} {lk : Nat} {v : Nat → Nat} {en : Nat → Nat → Nat → Bool} {pn : Nat → Nat} {x m y t : Nat} (ho : ∀ k i u t, k < m → i < m → fb_to S lk v en (pn k) u (pn i) t → k < i) : fb_G S lk v en pn x m y t ↔ (y = x ∧ t = 0) ∨ ∃ k u, k < m ∧ u < lk ∧ fb_G S lk v en pn x m (pn k) u ∧ fb_to S lk v en (pn k) u y t := by
  rw [fc_n m]
  constructor
  · rintro (h | ⟨k, u, hk, hu, h1, h2⟩)
    · exact Or.inl h
    · have h3 := fc_le (m - k) h1
      rw [show k + (m - k) = m by omega] at h3
      exact Or.inr ⟨k, u, hk, hu, h3, h2⟩
  · rintro (h | ⟨k, u, hk, hu, h1, h2⟩)
    · exact Or.inl h
    · exact Or.inr ⟨k, u, hk, hu, fc_back ho m (Nat.le_refl _) k u hk h1 (by omega), h2⟩
/-- the reference's parts in their order, and what its rows tell -/
def fc_H (S : rn_N) (lk : Nat) (v : Nat → Nat) (en : Nat → Nat → Nat → Bool) (P : pd_P) (Q : Nat → Prop) (pa pb : Nat → Nat) (pn : Nat → Nat) (x : Nat) : Prop := fp_D S P Q pa pb x ∧ (∀ i, i < pd_m P → Q (pn i) ∧ pa (pn i) = i) ∧ (∀ y z, Q y → Q z → pa y = pa z → y = z) ∧ (∀ k, k < lk → v k < 64) ∧ ∀ y, Q y → tr_S (rn_k S y) → ∀ i j, i ≤ j → j ≤ lk → (en (nq_l (rn_d S y)) i j = true ↔ nt_a (rn_t S (nq_l (rn_d S y))) (pd_w v) i j)
theorem fc_pn {S : rn_N} {lk : Nat} {v : Nat → Nat} {en : Nat → Nat → Nat → Bool} {P : pd_P} {Q : Nat → Prop} {pa pb pn : Nat → Nat} {x : Nat} (h : fc_H S lk v en P Q pa pb pn x) {y q : Nat} (hy : Q y) (hq : q < pd_m P) : pn q = y ↔ q = pa y := by
  obtain ⟨_, h2, h3, _⟩ := h
  constructor
  · intro e
    rw [← e, (h2 q hq).2]
  · intro e
    exact h3 _ _ (h2 q hq).1 hy ((h2 q hq).2.trans e)
/-- what a part feeds on both sides -/
theorem fc_to {S : rn_N} {lk : Nat} {v : Nat → Nat} {en : Nat → Nat → Nat → Bool} {P : pd_P} {Q : Nat → Prop} {pa pb pn : Nat → Nat} {x : Nat} (h : fc_H S lk v en P Q pa pb pn x) {W : Nat → Nat → Prop} {G : Nat → Prop} {s q t : Nat} (hs : s < pd_m P) (hq : q < pd_m P) (ht : t < lk) (hG : ∀ u, u < lk → (G u ↔ W s u)) : (∃ u, u < lk ∧ G u ∧ fb_to S lk v en (pn s) u (pn q) t) ↔ sc_T P s q ∧ sc_c P v W s lk t := by
  have hpn := fun {y : Nat} (hy : Q y) => fc_pn h hy hq
  obtain ⟨hD, h2, h3, hv, hen⟩ := h
  have hQ := (h2 s hs).1
  obtain ⟨tq, hl, hr, _, _⟩ := hD.1 _ hQ
  rw [(h2 s hs).2] at tq
  have hkk : nq_k (rn_d S (pn s)) = rn_k S (pn s) := rfl
  unfold tr_eq at tq
  rw [hkk] at tq hl hr
  have hen := hen (pn s) hQ
  unfold tr_L at hl
  unfold tr_R at hr
  unfold tr_S at hen
  rcases tq with ⟨k1, k2, _⟩ | ⟨k1, k2, _⟩ | ⟨k1, k2, k3, k4, _⟩ | ⟨k1, k2, k3, k4, _⟩ | ⟨k1, k2, k3, k4, _⟩ | ⟨k1, k2, k4, _⟩ | ⟨k1, k2, _⟩ | ⟨k1, k2, k3, k4, _⟩ | ⟨k1, k2, k3, k4, _⟩ | ⟨k1, k2, _⟩ | ⟨k1, k2, k3, k4, k5, _⟩
  · constructor
    · rintro ⟨u, _, _, z⟩
      unfold fb_to at z
      omega
    · rintro ⟨z, _⟩
      unfold sc_T at z
      omega
  · constructor
    · rintro ⟨u, _, _, z⟩
      unfold fb_to at z
      omega
    · rintro ⟨z, _⟩
      unfold sc_T at z
      omega
  · have hp := hpn (hr (by omega)).2
    rw [k4] at hp
    have e1 : ∀ u, fb_to S lk v en (pn s) u (pn q) t ↔ (q = s + 1 ∧ u ≤ t ∧ en (nq_l (rn_d S (pn s))) u (t + 1) = true) := fun u => by
      simp [fb_to, k1, hp, ht]
    have e2 : sc_T P s q ↔ q = s + 1 := by
      simp [sc_T, k2]
    have e3 : sc_c P v W s lk t ↔ ∃ i, i ≤ t ∧ W s i ∧ nt_a (pd_a P s) (pd_w v) i (t + 1) := by
      simp [sc_c, k2, ht]
    rw [e2, e3, k3]
    constructor
    · rintro ⟨u, hu, g, z⟩
      obtain ⟨z1, z2, z3⟩ := (e1 u).mp z
      exact ⟨z1, u, z2, (hG u hu).mp g, (hen (by omega) u (t + 1) (by omega) (by omega)).mp z3⟩
    · rintro ⟨z1, u, z2, g, z3⟩
      exact ⟨u, by omega, (hG u (by omega)).mpr g, (e1 u).mpr ⟨z1, z2, (hen (by omega) u (t + 1) (by omega) (by omega)).mpr z3⟩⟩
  · have hp := hpn (hr (by omega)).2
    rw [k4] at hp
    have e1 : ∀ u, fb_to S lk v en (pn s) u (pn q) t ↔ (q = s + 1 ∧ u ≤ t ∧ en (nq_l (rn_d S (pn s))) u t = true) := fun u => by
      simp [fb_to, k1, hp, ht]
    have e2 : sc_T P s q ↔ q = s + 1 := by
      simp [sc_T, k2]
    have e3 : sc_c P v W s lk t ↔ (t < lk ∧ W s t ∧ nt_a (pd_a P s) (pd_w v) t t) ∨ (t ≤ lk ∧ ∃ i, i < t ∧ W s i ∧ nt_a (pd_a P s) (pd_w v) i t) := by
      simp [sc_c, k2]
    rw [e2, e3, k3]
    constructor
    · rintro ⟨u, hu, g, z⟩
      obtain ⟨z1, z2, z3⟩ := (e1 u).mp z
      have z4 := (hen (by omega) u t (by omega) (by omega)).mp z3
      refine ⟨z1, ?_⟩
      by_cases e : u = t
      · subst e
        exact Or.inl ⟨ht, (hG u hu).mp g, z4⟩
      · exact Or.inr ⟨by omega, u, by omega, (hG u hu).mp g, z4⟩
    · rintro ⟨z1, ⟨_, g, z3⟩ | ⟨_, u, z2, g, z3⟩⟩
      · exact ⟨t, ht, (hG t ht).mpr g, (e1 t).mpr ⟨z1, Nat.le_refl _, (hen (by omega) t t (by omega) (by omega)).mpr z3⟩⟩
      · exact ⟨u, by omega, (hG u (by omega)).mpr g, (e1 u).mpr ⟨z1, by omega, (hen (by omega) u t (by omega) (by omega)).mpr z3⟩⟩
  · have hp := hpn (hr (by omega)).2
    rw [k4] at hp
    have e1 : ∀ u, fb_to S lk v en (pn s) u (pn q) t ↔ (q = s + 1 ∧ t = u ∧ rn_h S (nq_l (rn_d S (pn s))) (v u) = true) := fun u => by
      simp [fb_to, k1, hp]
    have e2 : sc_T P s q ↔ q = s + 1 := by
      simp [sc_T, k2]
    have e3 : sc_c P v W s lk t ↔ W s t ∧ pd_c P s (v t) = true := by
      simp [sc_c, k2, ht]
    rw [e2, e3, k3 _ (hv t ht)]
    constructor
    · rintro ⟨u, hu, g, z⟩
      obtain ⟨z1, z2, z3⟩ := (e1 u).mp z
      subst z2
      exact ⟨z1, (hG t hu).mp g, z3⟩
    · rintro ⟨z1, g, z3⟩
      exact ⟨t, ht, (hG t ht).mpr g, (e1 t).mpr ⟨z1, rfl, z3⟩⟩
  · have hp := hpn (hl (by omega)).2
    rw [k4] at hp
    have e1 : ∀ u, fb_to S lk v en (pn s) u (pn q) t ↔ (q = s + 1 ∧ u ≤ t) := fun u => by
      simp [fb_to, k1, hp, ht]
    have e2 : sc_T P s q ↔ q = s + 1 := by
      simp [sc_T, k2]
    have e3 : sc_c P v W s lk t ↔ ∃ i, i ≤ t ∧ W s i := by
      simp [sc_c, k2, ht]
    rw [e2, e3]
    constructor
    · rintro ⟨u, hu, g, z⟩
      obtain ⟨z1, z2⟩ := (e1 u).mp z
      exact ⟨z1, u, z2, (hG u hu).mp g⟩
    · rintro ⟨z1, u, z2, g⟩
      exact ⟨u, by omega, (hG u (by omega)).mpr g, (e1 u).mpr ⟨z1, z2⟩⟩
  · constructor
    · rintro ⟨u, _, _, z⟩
      unfold fb_to at z
      omega
    · rintro ⟨z, _⟩
      unfold sc_T at z
      omega
  · have hp := hpn (hl (by omega)).2
    rw [k4] at hp
    have e1 : ∀ u, fb_to S lk v en (pn s) u (pn q) t ↔ (q = s + 1 ∧ t = u + pd_t P s) := fun u => by
      simp [fb_to, k1, hp, k3]
    have e2 : sc_T P s q ↔ q = s + 1 := by
      simp [sc_T, k2]
    have e3 : sc_c P v W s lk t ↔ ∃ i, i < lk ∧ W s i ∧ t = i + pd_t P s := by
      simp [sc_c, k2]
    rw [e2, e3]
    constructor
    · rintro ⟨u, hu, g, z⟩
      obtain ⟨z1, z2⟩ := (e1 u).mp z
      exact ⟨z1, u, hu, (hG u hu).mp g, z2⟩
    · rintro ⟨z1, u, hu, g, z2⟩
      exact ⟨u, hu, (hG u hu).mpr g, (e1 u).mpr ⟨z1, z2⟩⟩
  · have hp := hpn (hl (by omega)).2
    rw [k4] at hp
    have e1 : ∀ u, fb_to S lk v en (pn s) u (pn q) t ↔ (q = s + 1 ∧ u ≤ t ∧ ∀ z, u ≤ z → z ≤ t → rn_h S (nq_r (rn_d S (pn s))) (v z) = false) := fun u => by
      simp [fb_to, k1, hp, ht]
    have e2 : sc_T P s q ↔ q = s + 1 := by
      simp [sc_T, k2]
    have e3 : sc_c P v W s lk t ↔ ∃ i, i ≤ t ∧ W s i ∧ ∀ z, i ≤ z → z ≤ t → pd_c P s (v z) = false := by
      simp [sc_c, k2, ht]
    rw [e2, e3]
    constructor
    · rintro ⟨u, hu, g, z⟩
      obtain ⟨z1, z2, z3⟩ := (e1 u).mp z
      exact ⟨z1, u, z2, (hG u hu).mp g, fun a a1 a2 => (k3 _ (hv a (by omega))).trans (z3 a a1 a2)⟩
    · rintro ⟨z1, u, z2, g, z3⟩
      exact ⟨u, by omega, (hG u (by omega)).mpr g, (e1 u).mpr ⟨z1, z2, fun a a1 a2 => (k3 _ (hv a (by omega))).symm.trans (z3 a a1 a2)⟩⟩
  · constructor
    · rintro ⟨u, _, _, z⟩
      unfold fb_to at z
      omega
    · rintro ⟨z, _⟩
      unfold sc_T at z
      omega
  · have hp := hpn (hl (by omega)).2
    have hp2 := hpn (hr (by omega)).2
    rw [k3] at hp
    rw [k4] at hp2
    have e1 : ∀ u, fb_to S lk v en (pn s) u (pn q) t ↔ ((q = s + 1 ∨ q = pb (nq_l (rn_d S (pn s)))) ∧ t = u) := fun u => by
      simp [fb_to, k1, hp, hp2]
    have e2 : sc_T P s q ↔ (q = s + 1 ∨ q = pb (nq_l (rn_d S (pn s)))) := by
      simp [sc_T, k2, k5]
    have e3 : sc_c P v W s lk t ↔ W s t := by
      simp [sc_c, k2, ht]
    rw [e2, e3]
    constructor
    · rintro ⟨u, hu, g, z⟩
      obtain ⟨z1, z2⟩ := (e1 u).mp z
      subst z2
      exact ⟨z1, (hG t hu).mp g⟩
    · rintro ⟨z1, g⟩
      exact ⟨t, ht, (hG t ht).mpr g, (e1 t).mpr ⟨z1, rfl⟩⟩
/-- a part feeds later ones alone -/
theorem fc_ord {S : rn_N} {lk : Nat} {v : Nat → Nat} {en : Nat → Nat → Nat → Bool} {P : pd_P} {Q : Nat → Prop} {pa pb pn : Nat → Nat} {x : Nat} (h : fc_H S lk v en P Q pa pb pn x) : ∀ k i u t, k < pd_m P → i < pd_m P → fb_to S lk v en (pn k) u (pn i) t → k < i := by
  intro k i u t hk hi z
  have hpn := fun {y : Nat} (hy : Q y) => fc_pn h hy hi
  obtain ⟨hD, h2, h3, _⟩ := h
  have hQ := (h2 k hk).1
  obtain ⟨tq, hl, hr, _, _⟩ := hD.1 _ hQ
  rw [(h2 k hk).2] at tq
  have hkk : nq_k (rn_d S (pn k)) = rn_k S (pn k) := rfl
  unfold tr_eq at tq
  rw [hkk] at tq hl hr
  unfold tr_L at hl
  unfold tr_R at hr
  have kl : (rn_k S (pn k) = 10 ∨ rn_k S (pn k) = 12 ∨ rn_k S (pn k) = 13 ∨ rn_k S (pn k) = 15) → pa (nq_l (rn_d S (pn k))) = k + 1 := fun y => by
    rcases tq with ⟨k1, k2, _⟩ | ⟨k1, k2, _⟩ | ⟨k1, k2, k3, k4, _⟩ | ⟨k1, k2, k3, k4, _⟩ | ⟨k1, k2, k3, k4, _⟩ | ⟨k1, k2, k4, _⟩ | ⟨k1, k2, _⟩ | ⟨k1, k2, k3, k4, _⟩ | ⟨k1, k2, k3, k4, _⟩ | ⟨k1, k2, _⟩ | ⟨k1, k2, k3, k4, k5, _⟩
    all_goals omega
  have kr : ((31 ≤ rn_k S (pn k) ∧ rn_k S (pn k) ≤ 33) ∨ rn_k S (pn k) = 15) → k < pa (nq_r (rn_d S (pn k))) := fun y => by
    have lp : rn_k S (pn k) = 15 → pa (nq_l (rn_d S (pn k))) < pb (nq_l (rn_d S (pn k))) := fun z => (hD.1 _ (hl (by omega)).2).2.2.2.1
    rcases tq with ⟨k1, k2, _⟩ | ⟨k1, k2, _⟩ | ⟨k1, k2, k3, k4, _⟩ | ⟨k1, k2, k3, k4, _⟩ | ⟨k1, k2, k3, k4, _⟩ | ⟨k1, k2, k4, _⟩ | ⟨k1, k2, _⟩ | ⟨k1, k2, k3, k4, _⟩ | ⟨k1, k2, k3, k4, _⟩ | ⟨k1, k2, _⟩ | ⟨k1, k2, k3, k4, k5, _⟩
    all_goals omega
  unfold fb_to at z
  rcases z with ⟨z1, z2, _⟩ | ⟨z1, z2, _⟩ | ⟨z1, z2, _⟩ | ⟨z1, z2, _⟩ | ⟨z1, z2, _⟩ | ⟨z1, z2, _⟩ | ⟨z1, z2 | z2, _⟩
  · have := (hpn (hr (by omega)).2).mp z2
    have := kr (by omega)
    omega
  · have := (hpn (hr (by omega)).2).mp z2
    have := kr (by omega)
    omega
  · have := (hpn (hr (by omega)).2).mp z2
    have := kr (by omega)
    omega
  · have := (hpn (hl (by omega)).2).mp z2
    have := kl (by omega)
    omega
  · have := (hpn (hl (by omega)).2).mp z2
    have := kl (by omega)
    omega
  · have := (hpn (hl (by omega)).2).mp z2
    have := kl (by omega)
    omega
  · have := (hpn (hl (by omega)).2).mp z2
    have := kl (by omega)
    omega
  · have := (hpn (hr (by omega)).2).mp z2
    have := kr (by omega)
    omega
/-- both sides begin alike -/
theorem fc_same {S : rn_N} {lk : Nat} {v : Nat → Nat} {en : Nat → Nat → Nat → Bool} {P : pd_P} {Q : Nat → Prop} {pa pb pn : Nat → Nat} {x : Nat} (h : fc_H S lk v en P Q pa pb pn x) (hlk : lk ≤ 24) {W : Nat → Nat → Prop} (ho : sc_ok P) (hJ : sc_J P v lk 0 W) : ∀ q, q < pd_m P → ∀ t, t < lk → (fb_G S lk v en pn x (pd_m P) (pn q) t ↔ W q t) := by
  intro q
  induction q using Nat.strongRecOn with
  | _ q ih =>
    intro hq t ht
    rw [fc_all (fc_ord h), hJ q hq t (by omega)]
    have ex : pn q = x ↔ q = 0 := by
      rw [fc_pn h h.1.2.2.1 hq, h.1.2.2.2.1]
    rw [ex]
    refine or_congr Iff.rfl ?_
    constructor
    · rintro ⟨k, u, hk, hu, g, z⟩
      have hkq := fc_ord h k q u t hk hq z
      have := (fc_to h (W := W) (G := fun u => fb_G S lk v en pn x (pd_m P) (pn k) u) hk hq ht (fun u hu => ih k hkq hk u hu)).mp ⟨u, hu, g, z⟩
      exact ⟨k, hk, this.1, by rw [if_neg (Nat.not_lt_zero _)]; exact this.2⟩
    · rintro ⟨k, hk, z1, z2⟩
      rw [if_neg (Nat.not_lt_zero _)] at z2
      have hkq := (ho.1 k q hk z1).1
      obtain ⟨u, hu, g, z⟩ := (fc_to h (W := W) (G := fun u => fb_G S lk v en pn x (pd_m P) (pn k) u) hk hq ht (fun u hu => ih k hkq hk u hu)).mpr ⟨z1, z2⟩
      exact ⟨k, u, hk, hu, g, z⟩
