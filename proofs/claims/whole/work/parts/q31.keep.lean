/-! ===== the relation is kept: classes, classOf, classBehind, kind ===== -/
/-- the reference's slots of a property alone were touched -/
theorem Rl_ph2 {T : wv_T} {N : Nat} {I J : rl_I} {L M : rl_L} {R : rl_R} {n lk m : Nat} {v : Nat → Nat} {tb : Nat → Bool} {Cs : Nat} {C : Nat → Nat} {P : Nat → pd_P} {S : Nat → rn_N} {m0 x : Nat → Nat} {sq : Nat → List Nat} {Cd Dd a b g : Nat} {nx : Nat → Nat} {fi : Nat → Bool} {sg on tw : Nat → Nat} {V cp : Nat → Nat} {z : Nat → List Nat} {p : Nat} (hA : Rl_A T N I L R n lk m v tb) (hB : Rl_B T I L R tb m v Cs C P S m0 x sq) (hD : rl_d T N I R Cd Dd a b g nx fi sg on tw V cp z) (hp : p < 2) (fJ : ∀ c j, rl_di c j → ¬ (c = 520 ∧ 4 * p ≤ j ∧ j < 4 * p + 4) → ¬ (c = 521 ∧ 320 * (4 * p) ≤ j ∧ j < 320 * (4 * p + 4)) → ¬ (c = 522 ∧ 64 * (320 * (4 * p)) ≤ j ∧ j < 64 * (320 * (4 * p + 4))) → J c j = I c j) (fL : rl_fL L M) (hz : rl_z J p (S p) (sq p)) : Rl_A T N J M R n lk m v tb ∧ Rl_B T J M R tb m v Cs C P S m0 x sq ∧ rl_d T N J R Cd Dd a b g nx fi sg on tw V cp z := by
  obtain ⟨hZ, ht, hw, hk, hh⟩ := Rl_A_Z.mp hA
  have h536 := hZ.1.2.2.1
  have hO := hZ.2.2.1
  have f : ∀ c j, rl_di c j → ¬ (520 ≤ c ∧ c ≤ 522) → J c j = I c j := fun c j w1 w2 => fJ c j w1 (by omega) (by omega) (by omega)
  refine ⟨Rl_A_Z.mpr ⟨Rl_Z_fr hZ (fun c j w => f c j (by unfold rl_di; omega) (by omega)) fL, rl_t_c ht (f _ _ (by unfold rl_di; omega) (by omega)) (f _ _ (by unfold rl_di; omega) (by omega)) (fun j => f _ _ (by unfold rl_di; omega) (by omega)) (fun j => f _ _ (by unfold rl_di; omega) (by omega)), rl_w_c hw (f _ _ (by unfold rl_di; omega) (by omega)) (f _ _ (by unfold rl_di; omega) (by omega)) (fun j => f _ _ (by unfold rl_di; omega) (by omega)) (fun j => f _ _ (by unfold rl_di; omega) (by omega)), rl_k_c hk (f _ _ (by unfold rl_di; omega) (by omega)) (f _ _ (by unfold rl_di; omega) (by omega)), rl_h_c hh (f _ _ (by unfold rl_di; omega) (by omega)) (f _ _ (by unfold rl_di; omega) (by omega)) (f _ _ (by unfold rl_di; omega) (by omega)) (f _ _ (by unfold rl_di; omega) (by omega)) (fun c j c1 c2 => f _ _ (by unfold rl_di; omega) (by omega)) (fun j => f _ _ (by unfold rl_di; omega) (by omega)) (fun c j c1 c2 => f _ _ (by unfold rl_di; omega) (by omega))⟩, ⟨hB.1, hB.2.1, fun q hq => ?_⟩, rl_d_c hD (rl_m_id T) (Nat.le_refl _) (fun c j c1 c2 => f c j (by unfold rl_di; omega) (by omega)) (f _ _ (by unfold rl_di; omega) (by omega)) (fun j j1 j2 => f _ _ (by unfold rl_di; omega) (by omega)) (fun c j c1 c2 => f c j (by unfold rl_di; omega) (by omega)) (fun E j hE hV => f _ _ (by unfold rl_di; omega) (by omega)) ⟨rfl, rfl, rfl, rfl⟩⟩
  obtain ⟨c1, c2⟩ := rl_CC hB.1 hq
  have c3 : C q ≤ 346 := by unfold rl_C at c1; omega
  obtain ⟨h1, h2, h3, h4, h5, h6, h7⟩ := hB.2.2 q hq
  refine ⟨h1, h2, rl_e_c h3 h2.2.2.2.2.2.2.1 h536 c1 hO.1 (rl_m_id T) (rl_ef_s c1 hO.1 (fun c j w1 w2 => f c j (by unfold rl_di; omega) (by omega)) fL), kp_K_F h4 (fun c j w1 w2 => f c j (by unfold rl_di; omega) (by omega)), rl_s_c h5 (f _ _ (by unfold rl_di; omega) (by omega)) (f _ _ (by unfold rl_di; omega) (by omega)) (fun j => f _ _ (by unfold rl_di; omega) (by omega)) (fun j => fL _ _ (by omega)), rl_c_c h6 (fun c j w1 w2 => f c j (by unfold rl_di; omega) (by omega)) (fun _ _ => rfl) (fun _ _ w => w) (fun k B j hk hB ht => ?_), ?_⟩
  · obtain ⟨B2, b1, b2, _⟩ := hO.2.2.2.1.1 (C q + 76 + 5 * k) ⟨C q, k, c1, hk, rfl⟩
    rw [hB] at b1
    cases b1
    have := (b2 ht).2.1
    exact f _ _ (by unfold rl_di; omega) (by omega)
  · by_cases e : q = p
    · subst e
      exact hz
    · intro j y hj hy hw
      have hpq : (q = 0 ∧ p = 1) ∨ (q = 1 ∧ p = 0) := by omega
      have j520 : J 520 (4 * q + j) = I 520 (4 * q + j) := fJ _ _ (by unfold rl_di; omega) (by omega) (by omega) (by omega)
      rcases h7 j y hj hy hw with a | ⟨K, mv, kd, a1, a2⟩
      · exact Or.inl (j520.trans a)
      · exact Or.inr ⟨K, mv, kd, a1, rl_z_1 a2 j520 (fun t w1 w2 => fJ _ _ (by unfold rl_di; omega) (by omega) (by omega) (by omega)) (fun t w1 w2 => fJ _ _ (by unfold rl_di; omega) (by omega) (by omega) (by omega))⟩
set_option maxRecDepth 100000 in
theorem Rl_kl {T : wv_T} {N : Nat} {I : rl_I} {L : rl_L} {R : rl_R} {nc ns i : Nat} (hi : i ≤ 2044) (h : Rl T N I L R nc ns i) : kl_H Rl T N I L R nc ns i := by
  have h0 := h
  obtain ⟨n, lk, m, v, tb, Cs, C, P, S, m0, x, sq, Cd, Dd, a, b, g, nx, fi, sg, on, tw, V, cp, z, hA, hB, hD, hN⟩ := h
  obtain ⟨hF, hX, hO, ht, hw, hk, hh, hu, hg⟩ := id hA
  have c1 := (hD.2.2.2.2.2.2.1 442 (Or.inl rfl)).1.1.2.2.2.2.2.1
  have c2 := (hD.2.2.2.2.2.2.1 451 (Or.inr rfl)).1.1.2.2.2.2.2.1
  obtain ⟨hNb, _, _⟩ := rl_N_b hN (by omega) hk.2.2 c1 c2
  have n5 := hO.2.2.2.2
  -- the data of each property
  obtain ⟨D, hDt⟩ : ∃ D : Nat → Nat × (Nat → Nat) × (Nat → Nat) × (Nat → Prop), ∀ p, p < 2 → kl_p p T N I L R (C p) (rn_t (S p) ((sq p).headD 0)) (rn_w (S p) ((sq p).headD 0)) (D p).1 (S p) (sq p) (D p).2.1 (nu_U (S p)) (D p).2.2.1 (D p).2.2.2 ∧ ∀ y l, sq p = y :: l → rn_w (S p) y ≤ 6 → I (C p + 9 + 0) 3 = Int32.ofNat (D p).1 := by
    refine rl_sk (Q := fun p (D : Nat × (Nat → Nat) × (Nat → Nat) × (Nat → Prop)) => kl_p p T N I L R (C p) (rn_t (S p) ((sq p).headD 0)) (rn_w (S p) ((sq p).headD 0)) D.1 (S p) (sq p) D.2.1 (nu_U (S p)) D.2.2.1 D.2.2.2 ∧ ∀ y l, sq p = y :: l → rn_w (S p) y ≤ 6 → I (C p + 9 + 0) 3 = Int32.ofNat D.1) (fun p hp => ?_)
    obtain ⟨hC, _⟩ := rl_CC hB.1 hp
    have hpp := hB.2.2 p hp
    obtain ⟨p1, p2, p3, p4, p5, p6, p7⟩ := id hpp
    obtain ⟨w1, w2, w3, w4⟩ := rl_W p2 p3
    obtain ⟨lo, hlo⟩ := p2.2.2.2.2.2.2.2.2.1
    cases hs : sq p with
    | nil => exact ⟨(0, lo, fun _ => 0, fun _ => True), ⟨⟨fun _ => by rw [w1, hs]; rfl, fun y l e => (by cases e)⟩, fun y l e => (by cases e)⟩⟩
    | cons y l =>
      have hy : (sq p)[0]? = some y := by rw [hs]; rfl
      have hys := p2.2.2.2.2.2.1 y (List.mem_of_getElem? hy)
      have hw9 : ¬ I (C p) 9 = 0 := fun w => by
        rw [w1, hs, List.length_cons] at w
        have := wi_eq.mp w
        rw [hs, List.length_cons] at w2
        rw [wi_on (by omega), wi_0] at this
        omega
      have hwt : I (C p + 9 + 0) 2 = Int32.ofNat (rn_w (S p) y) ∧ rn_w (S p) y < 2147483648 := by
        have := w3 0 (by rw [hs, List.length_cons]; omega)
        rw [hs] at this
        exact this
      have h6i : I (C p + 9 + 0) 2 ≤ kk_s ↔ rn_w (S p) y ≤ 6 := by
        rw [hwt.1, wi_le, wi_on hwt.2, show kk_s.toInt = 6 from rfl]
        omega
      by_cases h6 : rn_w (S p) y ≤ 6
      · obtain ⟨gk, g1, g2, g3, g4, g5, g6, g7⟩ := rl_kc hF hO hNb hC hpp (k := 0) (by omega) hy h6
        obtain ⟨q1, ⟨cl, Al, q2⟩, q3, q4, q5⟩ := rb_y p2 hlo (fun e => by rw [hs] at e; cases e) hys.1 hys.2.1 h6
        refine ⟨(gk, lo, cl, Al), ⟨⟨fun e => (by cases e), fun y2 l2 e => ?_⟩, fun y2 l2 e _ => g1⟩⟩
        cases e
        exact ⟨hw9, ⟨hys.1, hwt.2⟩, h6i, fun _ => ⟨g3, g4, g5, g6, ⟨q1, q2, p7 0 y (by omega) hy h6⟩, q3, g7, q4⟩⟩
      · refine ⟨(0, lo, fun _ => 0, fun _ => True), ⟨⟨fun e => (by cases e), fun y2 l2 e => ?_⟩, fun y2 l2 e w => ?_⟩⟩
        · cases e
          exact ⟨hw9, ⟨hys.1, hwt.2⟩, h6i, fun w => (h6 w).elim⟩
        · cases e
          exact (h6 w).elim
  refine ⟨C, fun p => rn_t (S p) ((sq p).headD 0), fun p => rn_w (S p) ((sq p).headD 0), fun p => (D p).1, S, m0, x, sq, fun p => (D p).2.1, fun p => nu_U (S p), fun p => (D p).2.2.1, fun p => (D p).2.2.2, m, v, hF.2.2.1, ⟨⟨0, hF.2.2.2.2.2.1⟩, fun p hp => ⟨(hB.2.2 p hp).1, (hF.2.2.2.2.2.2.2.2.1 _ (rl_CC hB.1 hp).1).1, ?_⟩⟩, fun p hp => ⟨hF.1, (hB.2.2 p hp).2.2.2.1, (hB.2.2 p hp).2.1.2.1.1, (hB.2.2 p hp).2.1.2.1.2.1⟩, fun p hp => (hDt p hp).1, hw, fun _ => Rl_th h0, fun p hp hgd I1 fI => ?_, fun p hp y l hs h6 T1 N1 I1 L1 R1 n1 s1 hka K mv kd I2 L2 hrc hrT fI fL e he => ?_⟩
  · have := (rl_CC hB.1 hp)
    unfold rl_C at this
    omega
  · have fI : ∀ c j, ¬ (469 ≤ c ∧ c ≤ 475) → ¬ (508 ≤ c ∧ c ≤ 511) → ¬ c = 514 → ¬ (516 ≤ c ∧ c ≤ 519) → ¬ (c = 460 ∧ (j = 0 ∨ j = 32 ∨ (37 ≤ j ∧ j ≤ 39) ∨ j = 75 ∨ j = 88)) → ¬ (c = 520 ∧ j = 4 * p) → ¬ (c = 521 ∧ 320 * (4 * p) ≤ j ∧ j < 320 * (4 * p) + 320) → ¬ (c = 522 ∧ 64 * (320 * (4 * p)) ≤ j ∧ j < 64 * (320 * (4 * p) + 320)) → I1 c j = I c j := fI
    have hz : rl_z I1 p (S p) (sq p) := fun j y hj hy hw6 => by
      by_cases e0 : j = 0
      · subst e0
        exfalso
        cases hs : sq p with
        | nil => rw [hs] at hy; cases hy
        | cons y2 l2 =>
          rw [hs] at hy
          cases hy
          exact hgd _ l2 hs hw6
      · have j520 : I1 520 (4 * p + j) = I 520 (4 * p + j) := fI _ _ (by omega) (by omega) (by omega) (by omega) (by omega) (by omega) (by omega) (by omega)
        rcases (hB.2.2 p hp).2.2.2.2.2.2 j y hj hy hw6 with a | ⟨K, mv, kd, a1, a2⟩
        · exact Or.inl (j520.trans a)
        · exact Or.inr ⟨K, mv, kd, a1, rl_z_1 a2 j520 (fun t w1 w2 => fI 521 t (by omega) (by omega) (by omega) (by omega) (by omega) (by omega) (by omega) (by omega)) (fun t w1 w2 => fI 522 t (by omega) (by omega) (by omega) (by omega) (by omega) (by omega) (by omega) (by omega))⟩
    obtain ⟨m1, m2, m3⟩ := Rl_ph2 hA hB hD hp (J := I1) (M := L) (fun c j w1 w2 w3 w4 => fI c j (by unfold rl_di at w1; omega) (by unfold rl_di at w1; omega) (by unfold rl_di at w1; omega) (by unfold rl_di at w1; omega) (by unfold rl_di at w1; omega) (by omega) (by omega) (by omega)) (rl_fL_id L) hz
    obtain ⟨n1, n2, n3⟩ := hN
    exact ⟨n, lk, m, v, tb, Cs, C, P, S, m0, x, sq, Cd, Dd, a, b, g, nx, fi, sg, on, tw, V, cp, z, m1, m2, m3, by omega, by omega, by omega⟩
  · have hy : (sq p)[0]? = some y := by rw [hs]; rfl
    have hka : kc_A (C p) 0 (rn_t (S p) y) (D p).1 T N I L R T1 N1 I1 L1 R1 n1 s1 := by
      have : (sq p).headD 0 = y := by rw [hs]; rfl
      have hka : kc_A (C p) 0 (rn_t (S p) ((sq p).headD 0)) (D p).1 T N I L R T1 N1 I1 L1 R1 n1 s1 := hka
      rw [this] at hka
      exact hka
    obtain ⟨tb1, m1, m2, m3, eN, etn, es, _⟩ := Rl_ka hA hB hD (by omega) hp (k := 0) (by omega) hy ((hDt p hp).2 y l hs h6) hka
    have fI : ∀ c j, ¬ (469 ≤ c ∧ c ≤ 475) → ¬ (508 ≤ c ∧ c ≤ 511) → ¬ c = 514 → ¬ (516 ≤ c ∧ c ≤ 519) → ¬ (c = 460 ∧ (j = 0 ∨ j = 32 ∨ (37 ≤ j ∧ j ≤ 39) ∨ j = 75 ∨ j = 88)) → ¬ (c = 520 ∧ j = 4 * p) → ¬ (c = 521 ∧ 320 * (4 * p) ≤ j ∧ j < 320 * (4 * p) + 320) → ¬ (c = 522 ∧ 64 * (320 * (4 * p)) ≤ j ∧ j < 64 * (320 * (4 * p) + 320)) → I2 c j = I1 c j := fI
    have hz : rl_z I2 p (S p) (sq p) := fun j y2 hj hy2 hw6 => by
      by_cases e0 : j = 0
      · subst e0
        rw [hy] at hy2
        cases hy2
        exact Or.inr ⟨K, mv, kd, hrc, hrT⟩
      · have j520 : I2 520 (4 * p + j) = I1 520 (4 * p + j) := fI _ _ (by omega) (by omega) (by omega) (by omega) (by omega) (by omega) (by omega) (by omega)
        rcases (m2.2.2 p hp).2.2.2.2.2.2 j y2 hj hy2 hw6 with a | ⟨K, mv, kd, a1, a2⟩
        · exact Or.inl (j520.trans a)
        · exact Or.inr ⟨K, mv, kd, a1, rl_z_1 a2 j520 (fun t w1 w2 => fI 521 t (by omega) (by omega) (by omega) (by omega) (by omega) (by omega) (by omega) (by omega)) (fun t w1 w2 => fI 522 t (by omega) (by omega) (by omega) (by omega) (by omega) (by omega) (by omega) (by omega))⟩
    obtain ⟨m4, m5, m6⟩ := Rl_ph2 m1 m2 m3 hp (J := I2) (M := L2) (fun c j w1 w2 w3 w4 => fI c j (by unfold rl_di at w1; omega) (by unfold rl_di at w1; omega) (by unfold rl_di at w1; omega) (by unfold rl_di at w1; omega) (by unfold rl_di at w1; omega) (by omega) (by omega) (by omega)) (fun c j w => fL c j (by omega) (by omega)) hz
    obtain ⟨k1, k2, k3⟩ := hN
    exact ⟨n, lk, m, v, tb1, Cs, C, P, S, m0, x, sq, Cd, Dd, a, b, g, nx, fi, sg, on, tw, V, cp, z, m4, m5, m6, by omega, by omega, by omega⟩
theorem Rl_8 : wL_8 Rl := fun _ _ _ _ _ _ _ _ hi h => Rl_kl hi h
theorem Rl_9 : wL_9 Rl := fun _ _ _ _ _ _ _ _ hi h => Rl_kl hi h
theorem Rl_10 : wL_10 Rl := fun _ _ _ _ _ _ _ _ hi h => Rl_kl hi h
theorem Rl_11 : wL_11 Rl := fun _ _ _ _ _ _ _ _ hi h => Rl_kl hi h
