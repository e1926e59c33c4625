/-! ===== flip-flops: both sides the same ===== -/
theorem fd_p {A : nt_A} {w w2 : Nat → Option Nat} : ∀ (n k k2 s t : Nat), (∀ j, j < n → ∀ a b, nz_D A a b (w (k + j)) ↔ nz_D A a b (w2 (k2 + j))) → (na_p (nz_D A) w n k s t ↔ na_p (nz_D A) w2 n k2 s t)
  | 0, _, _, _, _, _ => Iff.rfl
  | n + 1, k, k2, s, t, h => by
    show (∃ u, nz_D A s u (w k) ∧ na_p (nz_D A) w n (k + 1) u t) ↔ ∃ u, nz_D A s u (w2 k2) ∧ na_p (nz_D A) w2 n (k2 + 1) u t
    refine exists_congr fun u => and_congr (h 0 (by omega) s u) (fd_p n (k + 1) (k2 + 1) u t (fun j hj a b => ?_))
    have := h (j + 1) (by omega) a b
    rw [show k + (j + 1) = k + 1 + j by omega, show k2 + (j + 1) = k2 + 1 + j by omega] at this
    exact this
theorem kz_g {v : Nat → Nat} {i k : Nat} : ∀ n, k < n → (kz v i n)[k]? = some (v (i + k))
  | 0, h => by omega
  | n + 1, h => by
    show (kz v i n ++ [v (i + n)])[k]? = _
    by_cases e : k < n
    · rw [List.getElem?_append_left (by rw [kz_l]; exact e)]
      exact kz_g n e
    · have e2 : k = n := by omega
      subst e2
      rw [List.getElem?_append_right (by rw [kz_l]; exact Nat.le_refl _), kz_l, Nat.sub_self]
      rfl
theorem fd_kw {A : nt_A} {g i d : Nat} {v : Nat → Nat} (hg : ni_A g A) : nt_a A (kw g (kz v i d)) 0 (0 + (kz v i d).length) ↔ nt_a A (pd_w v) i (i + d) := by
  rw [nz_a, nz_a, kz_l, show 0 + d - 0 = d by omega, show i + d - i = d by omega]
  refine and_congr ⟨fun _ => by omega, fun _ => by omega⟩ (exists_congr fun t => and_congr (fd_p d 0 i 0 t (fun j hj a b => ?_)) Iff.rfl)
  have e : kw g (kz v i d) (0 + j) = some (v (i + j) &&& g) := by
    unfold kw
    rw [Nat.zero_add, kz_g d hj]
    rfl
  rw [e]
  exact ni_z hg
theorem fd_acc {E B g K : Nat} {A : nt_A} {I : Nat → Nat → Int32} {mv : Nat → Nat → Nat} {kd v : Nat → Nat} (h : kc_r E B g A I K mv kd) (hg : ni_A g A) {i d : Nat} (hv : ∀ k, i ≤ k → k < i + d → v k < 64) : kd (df_run mv 0 (kz v i d)) = 3 ↔ nt_a A (pd_w v) i (i + d) := by
  obtain ⟨_, _, _, _, _, _, _, _, _, z⟩ := h
  have hz := z (kz v i d) (kz_w d hv)
  unfold kc_z at hz
  rw [fd_kw hg] at hz
  rcases hz with ⟨a, b⟩ | ⟨a, b, _⟩ | ⟨a, b, _⟩
  · exact ⟨fun _ => b, fun _ => a⟩
  · exact ⟨fun c => by omega, fun c => (b c).elim⟩
  · exact ⟨fun c => by omega, fun c => (b c).elim⟩
theorem fd_x {kd kd2 : Nat → Nat} {a b x c c2 K : Nat} (hk : ∀ i, i < K → kd i = kd2 i) (hc : c < K) (hc2 : c2 < K) (h : kk_x kd a b x c) (h2 : kk_x kd2 a b x c2) : c = c2 := by
  obtain ⟨h3, h4⟩ := h
  obtain ⟨h5, h6⟩ := h2
  have mono : ∀ (f : Nat → Nat) i d, kk_n f a b i ≤ kk_n f a b (i + d) := by
    intro f i d
    induction d with
    | zero => exact Nat.le_refl _
    | succ d ih => exact Nat.le_trans ih (Nat.le_add_right _ _)
  have hh : ∀ i, i ≤ K → kk_n kd a b i = kk_n kd2 a b i := fun i hi => kk_n_c i (fun j hj => hk j (by omega))
  rcases Nat.lt_trichotomy c c2 with z | z | z
  · have m1 := mono kd (c + 1) (c2 - (c + 1))
    rw [show c + 1 + (c2 - (c + 1)) = c2 by omega, kk_n_y h3, hh c2 (by omega)] at m1
    omega
  · exact z
  · have m1 := mono kd2 (c2 + 1) (c - (c2 + 1))
    rw [show c2 + 1 + (c - (c2 + 1)) = c by omega, kk_n_y h5, ← hh c (by omega)] at m1
    omega
/-- a sequence's flip-flop on both sides -/
theorem fd_sf {k k2 n c : Nat} {W bg : Nat → Bool} {en : Nat → Nat → Bool} {v : Nat → Nat} {mv mv2 : Nat → Nat → Nat} {kd : Nat → Nat} (hk : (k = 1 ∧ k2 = 61) ∨ (k = 2 ∧ k2 = 32) ∨ (k = 3 ∧ k2 = 33) ∨ (k = 6 ∧ k2 = 11)) (hW : ∀ t, t < n → (W t = true ↔ bg t = true)) (hv : ∀ t, t < n → v t < 64) (hr : ∀ z, df_w z → df_run mv 0 z = df_run mv2 0 z) (ha : k = 1 → ∀ t d, t + d ≤ n → (kd (df_run mv 0 (kz v t d)) = 3 ↔ en t (t + d) = true)) : cr_s k n W v mv kd c ↔ fb_sf k2 n bg en v mv2 c := by
  have er : ∀ t, t ≤ n → df_run mv 0 (kz v t (n - t)) = df_run mv2 0 (kz v t (n - t)) := fun t ht => hr _ (kz_w _ (fun k k1 k2 => hv k (by omega)))
  unfold cr_s fb_sf fb_from
  constructor
  · rintro (⟨k1, t, a1, a2, a3, a4⟩ | ⟨k1, t, a1, a2, a3⟩ | ⟨k1, t, a1, ⟨u, u1, u2, u3⟩, a3⟩)
    · refine Or.inl ⟨t, a1, Or.inr ⟨by omega, (hW t a1).mp a2, fun ⟨_, u, u1, u2, u3⟩ => a4 ⟨u - t, by omega, (ha k1 t (u - t) (by omega)).mpr ?_⟩⟩, by rw [← er t (by omega)]; exact a3⟩
      rw [show t + (u - t) = u by omega]
      exact u3
    · exact Or.inl ⟨t, a1, Or.inr ⟨by omega, (hW t a1).mp a2, fun z => by omega⟩, by rw [← er t (by omega)]; exact a3⟩
    · by_cases e : t = n
      · subst e
        rw [Nat.sub_self] at a3
        exact Or.inr ⟨by omega, ⟨u, u2, (hW u u2).mp u3⟩, a3.symm⟩
      · exact Or.inl ⟨t, by omega, Or.inl ⟨by omega, u, u1, (hW u u2).mp u3⟩, by rw [← er t (by omega)]; exact a3⟩
  · rintro (⟨t, a1, ⟨k1, u, u1, u3⟩ | ⟨k1, a2, a4⟩, a3⟩ | ⟨k1, ⟨u, u2, u3⟩, a3⟩)
    · exact Or.inr (Or.inr ⟨by omega, t, by omega, ⟨u, u1, by omega, (hW u (by omega)).mpr u3⟩, by rw [er t (by omega)]; exact a3⟩)
    · by_cases e : k = 1
      · refine Or.inl ⟨e, t, a1, (hW t a1).mpr a2, by rw [er t (by omega)]; exact a3, fun ⟨d, d1, d2⟩ => a4 ⟨by omega, t + d, by omega, d1, (ha e t d d1).mp d2⟩⟩
      · exact Or.inr (Or.inl ⟨by omega, t, a1, (hW t a1).mpr a2, by rw [er t (by omega)]; exact a3⟩)
    · refine Or.inr (Or.inr ⟨by omega, n, Nat.le_refl _, ⟨u, by omega, u2, (hW u u2).mpr u3⟩, ?_⟩)
      rw [Nat.sub_self]
      exact a3.symm
/-- the kinds of a part and of its node -/
theorem fd_k {S : rn_N} {P : pd_P} {Q : Nat → Prop} {pa pb : Nat → Nat} {x n i : Nat} (hD : fp_D S P Q pa pb x) (hQ : Q n) (hi : pa n = i) : (fs_b (pd_k P i) → (pd_k P i = 1 ∧ rn_k S n = 61) ∨ (pd_k P i = 2 ∧ rn_k S n = 32) ∨ (pd_k P i = 3 ∧ rn_k S n = 33) ∨ (pd_k P i = 6 ∧ rn_k S n = 11)) ∧ (fs_b (pd_k P i) → pd_a P i = rn_t S (nq_l (rn_d S n))) ∧ (pd_k P i = 5 → rn_k S n = 10) ∧ (pd_k P i = 7 → rn_k S n = 12) ∧ (pd_k P i = 8 → rn_k S n = 13 ∧ ∀ v, v < 64 → pd_c P i v = rn_h S (nq_r (rn_d S n)) v) ∧ (pd_k P i = 9 → rn_k S n = 14 ∧ ∀ v, v < 64 → pd_c P i v = rn_h S (nq_l (rn_d S n)) v) := by
  obtain ⟨tq, _⟩ := hD.1 _ hQ
  rw [hi] at tq
  have hkk : nq_k (rn_d S n) = rn_k S n := rfl
  unfold tr_eq at tq
  rw [hkk] at tq
  unfold fs_b
  rcases tq with ⟨k1, k2, _⟩ | ⟨k1, k2, k3, _⟩ | ⟨k1, k2, k3, k4, _⟩ | ⟨k1, k2, k3, k4, _⟩ | ⟨k1, k2, k3, k4, _⟩ | ⟨k1, k2, k4, _⟩ | ⟨k1, k2, k3, _⟩ | ⟨k1, k2, k3, k4, _⟩ | ⟨k1, k2, k3, k4, _⟩ | ⟨k1, k2, k3, _⟩ | ⟨k1, k2, k3, k4, k5, _⟩
  all_goals refine ⟨fun _ => by omega, fun _ => ?_, fun _ => by omega, fun _ => by omega, fun _ => ⟨by omega, ?_⟩, fun _ => ⟨by omega, ?_⟩⟩
  all_goals first | exact k3 | omega
/-- a part's flip-flop on both sides -/
theorem fd_P {S : rn_N} {lk : Nat} {v : Nat → Nat} {P : pd_P} {Q : Nat → Prop} {pa pb pn : Nat → Nat} {x0 p i x : Nat} {A : Nat → nt_A} {g : Nat → Nat} {U : Nat → np_A} {ka : Nat → Nat × (Nat → Nat)} {bg : Nat → Nat → Bool} {L0 L2 : Nat → Nat → Int64} {b b2 : Bool} {sl : Nat → Int64} (hH : fc_H S lk v (fb_e L2) P Q pa pb pn x0) (hi : i < pd_m P) (hbg : ∀ t, t < lk → (bg (pn i) t = true ↔ nb (L0 (343 + p) i) t = true)) (hX : sc_X P v (sc_W L0 (343 + p) 0) i lk (L0 (343 + p) (pd_m P + i)) sl) (hA : fs_b (pd_k P i) → A (pd_l P i) = pd_a P i ∧ np_sim (U (nq_l (rn_d S (pn i)))) (A (pd_l P i)) ∧ ni_A (g (pd_l P i)) (A (pd_l P i)) ∧ np_n (U (nq_l (rn_d S (pn i)))) ≤ 64) (h1 : cr_P i x lk (343 + p) A g P v L0 b) (h2 : fb_A S lk v P U pn ka bg L2 i x b2) : b = b2 := by
  have hQ := (hH.2.1 i hi).1
  have hv := hH.2.2.2.1
  obtain ⟨f1, f2, f5, f7, f8, f9⟩ := fd_k hH.1 hQ (hH.2.1 i hi).2
  have eqb : ∀ {z : Prop}, (b = true ↔ z) → (b2 = true ↔ z) → b = b2 := fun y1 y2 => Bool.eq_iff_iff.mpr (y1.trans y2.symm)
  have nfs : (pd_k P i = 5 ∨ pd_k P i = 7 ∨ pd_k P i = 8 ∨ pd_k P i = 9) → ¬ fs_b (pd_k P i) := fun y z => by
    unfold fs_b at z
    omega
  rcases h1 with ⟨hb, E, B, K, mv, kd, I2, c, r1, c1, c2, c3⟩ | ⟨k1, h1⟩ | ⟨k1, h1⟩ | ⟨k1, h1⟩
  · rcases h2 with ⟨_, mv2, c', r2, d1, d2, d3⟩ | ⟨z, _⟩
    rotate_left
    · exact (z hb).elim
    obtain ⟨a0, a1, a2, a3⟩ := hA hb
    obtain ⟨e1, e2, e3⟩ := rk_same r1 r2 a1 a2 a3
    have ek : fb_sk (rn_k S (pn i)) = cr_b (pd_k P i) := by
      have := f1 hb
      unfold fb_sk cr_b
      by_cases z : pd_k P i = 1
      · rw [if_pos z, if_pos (by omega)]
      · rw [if_neg z, if_neg (by omega)]
    rw [ek] at d2
    have ec : c = c' := fd_x (K := K) (fun j hj => (e2 j hj).1) c1 (by omega) c2 d2
    subst ec
    refine eqb c3 (d3.trans (fd_sf (f1 hb) (fun t ht => (hbg t ht).symm) hv e3 (fun k1 t d htd => ?_)).symm)
    have hts : tr_S (rn_k S (pn i)) := by
      have := f1 hb
      unfold tr_S
      omega
    rw [fd_acc r1 a2 (fun k k1 k2 => hv k (by omega)), a0, f2 hb]
    exact (hH.2.2.2.2 _ hQ hts t (t + d) (by omega) htd).symm
  · rcases h2 with ⟨z, _⟩ | ⟨_, d3⟩
    · exact (nfs (by omega) z).elim
    have hk := f5 k1
    refine eqb h1 (d3.trans ?_)
    have e : fb_fo S lk v (bg (pn i)) (pn i) x ↔ ∃ t, t < lk ∧ bg (pn i) t = true := by
      simp [fb_fo, hk]
    rw [e]
    exact exists_congr fun t => and_congr_right fun ht => hbg t ht
  · rcases h2 with ⟨z, _⟩ | ⟨_, d3⟩
    · exact (nfs (by omega) z).elim
    have hk := f7 k1
    refine eqb h1 (d3.trans ?_)
    have e : fb_fo S lk v (bg (pn i)) (pn i) x ↔ x < lk ∧ bg (pn i) (lk - 1 - x) = true := by
      simp [fb_fo, hk]
    rw [e]
    exact and_congr_right fun ht => hbg _ (by omega)
  · rcases h2 with ⟨z, _⟩ | ⟨_, d3⟩
    · exact (nfs (by omega) z).elim
    have hop : ¬ L0 (343 + p) (pd_m P + i) = 0 ↔ sc_op P v (sc_W L0 (343 + p) 0) i lk := by
      rcases hX.2.2.1 k1 with ⟨z1, z2⟩ | ⟨z1, z2⟩
      · rw [z1]
        exact ⟨fun _ => z2, fun _ => by decide⟩
      · rw [z1]
        exact ⟨fun z => (z rfl).elim, fun z => (z2 z).elim⟩
    have hc : ∀ h : Nat → Nat → Bool, (∀ a, a < 64 → pd_c P i a = h i a) → (sc_op P v (sc_W L0 (343 + p) 0) i lk ↔ fb_on (bg (pn i)) (fun j => h i (v j)) 0 lk) := fun h he => by
      unfold sc_op fb_on
      constructor
      · rintro ⟨t, t1, t2, t3⟩
        have t2 : nb (L0 (343 + p) (0 + i)) t = true := t2
        rw [Nat.zero_add] at t2
        exact ⟨t, Nat.zero_le _, t1, (hbg t t1).mpr t2, fun j j1 j2 => (he _ (hv j j2)).symm.trans (t3 j j1 j2)⟩
      · rintro ⟨t, _, t1, t2, t3⟩
        refine ⟨t, t1, ?_, fun j j1 j2 => (he _ (hv j j2)).trans (t3 j j1 j2)⟩
        show nb (L0 (343 + p) (0 + i)) t = true
        rw [Nat.zero_add]
        exact (hbg t t1).mp t2
    refine eqb (h1.trans hop) (d3.trans ?_)
    rcases k1 with k1 | k1
    · obtain ⟨hk, he⟩ := f8 k1
      have e : fb_fo S lk v (bg (pn i)) (pn i) x ↔ fb_on (bg (pn i)) (fun j => rn_h S (nq_r (rn_d S (pn i))) (v j)) 0 lk := by
        simp [fb_fo, hk]
      rw [e]
      exact (hc (fun _ => rn_h S (nq_r (rn_d S (pn i)))) he).symm
    · obtain ⟨hk, he⟩ := f9 k1
      have e : fb_fo S lk v (bg (pn i)) (pn i) x ↔ fb_on (bg (pn i)) (fun j => rn_h S (nq_l (rn_d S (pn i))) (v j)) 0 lk := by
        simp [fb_fo, hk]
      rw [e]
      exact (hc (fun _ => rn_h S (nq_l (rn_d S (pn i)))) he).symm
