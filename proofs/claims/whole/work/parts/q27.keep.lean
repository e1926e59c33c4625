/-! ===== the relation is kept: search, differ ===== -/
theorem rl_pu {T : wv_T} {I : rl_I} {L : rl_L} {R : rl_R} {tb : Nat → Bool} {p m : Nat} {v : Nat → Nat} {C : Nat} {P : pd_P} {S : rn_N} {m0 x : Nat} {sq : List Nat} (h : rl_p T I L R tb p m v C P S m0 x sq) : hu_e C P I ≤ 1918 ∧ 0 < hu_e C P I := rb_sl h.2.1 (k := I (C + 1)) (fun i hi => ⟨(h.2.2.1.1.2.2.2 i hi).1, (h.2.2.1.1.2.2.2 i hi).2.1⟩)
theorem Rl_22 : wL_22 Rl := by
  intro T N I L R nc ns i hi h
  have h0 := h
  obtain ⟨n, lk, m, v, tb, Cs, C, P, S, m0, x, sq, Cd, Dd, a, b, g, nx, fi, sg, on, tw, V, cp, z, hA, hB, hD, hN⟩ := h
  obtain ⟨hF, hX, hO, ht, hw, hk, hh, hu, hg⟩ := id hA
  obtain ⟨d1, ⟨d2, d3⟩, d4, d5, d6, d7, d8, d9, d10⟩ := id hD
  have c1 := (d8 442 (Or.inl rfl)).1.1.2.2.2.2.2.1
  have c2 := (d8 451 (Or.inr rfl)).1.1.2.2.2.2.2.1
  obtain ⟨hNb, _, _⟩ := rl_N_b hN (by omega) hk.2.2 c1 c2
  obtain ⟨B0, l0, r1, r2, r3, r4⟩ := hO.2.1
  have n5 := hO.2.2.2.2
  have h6 : I (Cd + 6) 0 = 0 := by
    rcases d1 with ⟨e, _⟩ | ⟨e, _⟩
    · rw [e]; exact d7.2.1
    · rw [e]; exact d7.2.2
  refine ⟨B0, l0, Cd, C, fun p => (sq p).length, fun p k => rn_w (S p) ((sq p).getD k 0), P, S, sq, rl_Pt, rn_0, [], m0, x, a, b, g, nx, fi, sg, on, tw, lk, hF.2.2.1, hF.1, hF.2.2.2.1, hF.2.2.2.2.1, d2, by omega, fun p hp => ?_, ⟨0, hF.2.2.2.2.2.1⟩, fun p hp => ?_, fun p hp => ?_, fun p hp => ?_, d6, ⟨rl_ok_t, rl_x_t⟩, hk, Rl_th h0, Rl_th h0, Rl_fr h0 (fun c j w => (wv_u_no _ _ (by unfold rl_di at w; omega)).trans (wv_u_no _ _ (by unfold rl_di at w; omega))) (rl_fL_id L) (by omega) (by omega) (by omega), fun p hp k hk12 hlk fd w T1 N1 I1 L1 R1 n1 s1 hLo J L2 fJ kJ fL2 hfd => ?_⟩
  · have := (rl_CC hB.1 hp).1
    unfold rl_C at this
    omega
  · obtain ⟨p1, p2, p3, p4, p5, p6, p7⟩ := hB.2.2 p hp
    obtain ⟨w1, w2, w3, w4⟩ := rl_W p2 p3
    exact ⟨p1, (hF.2.2.2.2.2.2.2.2.1 _ (rl_CC hB.1 hp).1).1, w1, w2, w3⟩
  · obtain ⟨p1, p2, p3, p4, p5, p6, p7⟩ := id (hB.2.2 p hp)
    exact rl_hup hF hO hNb (Or.inl rfl) (by omega) (rl_CC hB.1 hp).1 (Or.inr (Or.inr (Or.inl rfl))) p3 hu p2.2.2.2.2.2.2.1 (Nat.zero_le _) (sc_R_ok p2.1).1 rl_ok_t (rl_pu (hB.2.2 p hp)) (by rw [rl_e_t hu]; omega) d4 d5 h6 r1 r2 r3 r4
  · obtain ⟨p1, p2, p3, p4, p5, p6, p7⟩ := hB.2.2 p hp
    exact ⟨p4, p2.2.1, p2.1, (rb_Z p2).1, (rl_W p2 p3).2.2.2⟩
  · obtain ⟨B, len, Ip, Lp, ⟨y1, y2, y3, y4, y5, y6, y7, y8, y9a, y9b⟩, ⟨f1, f2⟩, hZ, hK, hR⟩ := hLo
    have hcd : Cd = 442 ∨ Cd = 451 := by omega
    obtain ⟨tB, hpl, hl2, hB40⟩ := hZ.2.1.1.2.2.2.2.1
    have hfd12 : fd ≤ 12 := by
      rcases hR with ⟨e, _⟩ | ⟨_, e, _⟩ <;> omega
    have hlen : 0 < len := by
      have := (rl_pu (hB.2.2 p hp)).2
      have e : hu_e (C p) (P p) I1 ≤ len := by
        unfold hu_e
        omega
      have e2 : hu_e (C p) (P p) I1 = hu_e (C p) (P p) I := hu_e_c (fun j => by
        have cc := (rl_CC hB.1 hp)
        unfold rl_C at cc
        rw [f1 _ _ (by omega) (by omega) (by omega), y9a _ _ (by omega) (by omega) (by omega), wv_u_no _ _ (by omega)])
      omega
    have g1 : ∀ c j, ¬ (325 ≤ c ∧ c ≤ 332) → ¬ c = Cd + 6 → (c = N → n1 = 0) → ¬ (c = 0 ∧ j = 17) → I1 c j = I c j := fun c j w1 w2 w3 w4 => by
      rw [f1 _ _ (by omega) (by omega) w2, y9a _ _ (by omega) (by omega) w3, wv_u_no _ _ (by omega)]
    have gJ : ∀ c j, ¬ (325 ≤ c ∧ c ≤ 332) → ¬ c = Cd + 6 → (c = N → n1 = 0) → ¬ (c = 0 ∧ j = 17) → ¬ c = 491 → ¬ (501 ≤ c ∧ c ≤ 504) → ¬ (469 ≤ c ∧ c ≤ 475) → ¬ c = 495 → ¬ (c = 460 ∧ (j = 0 ∨ j = 32 ∨ (37 ≤ j ∧ j ≤ 39) ∨ j = 49 ∨ j = 65 ∨ j = 66)) → J c j = I c j := fun c j w1 w2 w3 w4 w5 w6 w7 w8 w9 => (fJ c j w5 w6 w7 w8 w9).trans (g1 c j w1 w2 w3 w4)
    have j6 : J (Cd + 6) 0 = 0 := (fJ _ _ (by omega) (by omega) (by omega) (by omega) (by omega)).trans hZ.2.2.1.2.2.2.2.1
    have j17 : J 0 17 = Int32.ofNat (lk + 1) := by
      rw [fJ _ _ (by omega) (by omega) (by omega) (by omega) (by omega), f1 _ _ (by omega) (by omega) (by omega), y9a _ _ (by omega) (by omega) (by omega), wv_u_at, hk.1]
      exact wq_4s lk
    have j65 : J 460 65 = Int32.ofNat (lk + 1) := by
      rw [kJ.2.1, g1 _ _ (by omega) (by omega) (by omega) (by omega), hk.2.1]
      exact wq_4s lk
    have jH : J 325 8 = Int32.ofNat fd := (fJ _ _ (by omega) (by omega) (by omega) (by omega) (by omega)).trans hK.1
    have efd := wi_on (n := fd) (by omega)
    refine Rl_hunt hA hB hD hN hNb (Or.inl rfl) r1 r2 r4 y7 tB hlen hl2 y8 (fun c j w1 w2 w3 w4 w5 w6 w7 w8 w9 w10 w11 => gJ c j (by omega) (by omega) w6 w2 w9 (by omega) w8 w10 (by omega)) (fun c j w1 w2 w3 w4 w5 => ?_) ?_ ?_ ?_ ⟨⟨by rw [jH, efd]; omega, by rw [jH, kJ.2.2], fun t ht => ?_⟩, ?_, ?_, fun t ht => ?_⟩ ⟨j17, j65, by omega⟩
    · rw [fL2 c j (by omega) (by omega) (by omega) (by omega), wv_u_no _ _ (by omega), f2 c j w1, y9b c j w1 w5]
    · rw [gJ _ _ (by omega) (by omega) (by omega) (by omega) (by omega) (by omega) (by omega) (by omega) (by omega)]
      exact d7.1
    · rcases hcd with e | e
      · rw [e] at j6; exact j6
      · rw [gJ _ _ (by omega) (by omega) (by omega) (by omega) (by omega) (by omega) (by omega) (by omega) (by omega)]
        exact d7.2.1
    · rcases hcd with e | e
      · rw [gJ _ _ (by omega) (by omega) (by omega) (by omega) (by omega) (by omega) (by omega) (by omega) (by omega)]
        exact d7.2.2
      · rw [e] at j6; exact j6
    · rw [kJ.2.2, efd] at ht
      obtain ⟨k1, k2, k3⟩ := hK.2 t (by omega)
      obtain ⟨q1, q2, q3⟩ := hfd t (by omega)
      rw [fJ 329 t (by omega) (by omega) (by omega) (by omega) (by omega), fJ 330 t (by omega) (by omega) (by omega) (by omega) (by omega), fJ 331 t (by omega) (by omega) (by omega) (by omega) (by omega), q1, q2, q3]
      exact ⟨k1, k2, k3⟩
    · rw [gJ _ _ (by omega) (by omega) (by omega) (by omega) (by omega) (by omega) (by omega) (by omega) (by omega)]
      exact hh.2.1
    · rw [gJ _ _ (by omega) (by omega) (by omega) (by omega) (by omega) (by omega) (by omega) (by omega) (by omega), gJ _ _ (by omega) (by omega) (by omega) (by omega) (by omega) (by omega) (by omega) (by omega) (by omega)]
      exact hh.2.2.1
    · rw [gJ 460 70 (by omega) (by omega) (by omega) (by omega) (by omega) (by omega) (by omega) (by omega) (by omega)] at ht
      rw [gJ 338 t (by omega) (by omega) (by omega) (by omega) (by omega) (by omega) (by omega) (by omega) (by omega), gJ 505 t (by omega) (by omega) (by omega) (by omega) (by omega) (by omega) (by omega) (by omega) (by omega)]
      exact hh.2.2.2 t ht
theorem rl_di_V {nn : Nat} (h1 : 1 ≤ nn) (h3 : nn ≤ 3) : dz_V nn 0 0 (fun _ => 0) (fun _ => false) (di_sg nn) (fun _ => 0) (fun _ => 0) := by
  refine ⟨h1, h3, by omega, by omega, fun i hi => by omega, fun i hi => ?_, fun i hi => by omega⟩
  unfold di_sg
  split <;> omega
theorem Rl_24 : wL_24 Rl := by
  intro T N I L R nc ns i hi h
  have h0 := h
  obtain ⟨n, lk, m, v, tb, Cs, C, P, S, m0, x, sq, Cd, Dd, a, b, g, nx, fi, sg, on, tw, V, cp, z, hA, hB, hD, hN⟩ := h
  obtain ⟨hF, hX, hO, ht, hw, hk, hh, hu, hg⟩ := id hA
  obtain ⟨d1, ⟨d2, d3⟩, d4, d5, d6, d7, d8, d9, d10⟩ := id hD
  have c1 := (d8 442 (Or.inl rfl)).1.1.2.2.2.2.2.1
  have c2 := (d8 451 (Or.inr rfl)).1.1.2.2.2.2.2.1
  obtain ⟨hNb, _, _⟩ := rl_N_b hN (by omega) hk.2.2 c1 c2
  obtain ⟨B0, l0, r1, r2, r3, r4⟩ := hO.2.2.1
  have n5 := hO.2.2.2.2
  have cc : ∀ p, p < 2 → (28 ≤ C p ∧ C p ≤ 124) ∨ C p = 346 := fun p hp => by
    have := (rl_CC hB.1 hp)
    unfold rl_C at this
    omega
  have eJ : ∀ nn J, di_J nn I J → ∀ p, p < 2 → rl_e T J L R (C p) (P p) (S p) (sq p) ∧ hu_e (C p) (P p) J = hu_e (C p) (P p) I := fun nn J hJ p hp => by
    have := cc p hp
    have q := rl_e_c (hB.2.2 p hp).2.2.1 (hB.2.2 p hp).2.1.2.2.2.2.2.2.1 hF.2.2.1 (rl_CC hB.1 hp).1 hO.1 (rl_m_id T) (rl_ef_s (J := J) (rl_CC hB.1 hp).1 hO.1 (fun c j w1 w2 => hJ.2.1 c j (by omega) (by omega)) (rl_fL_id L))
    exact ⟨q, hu_e_c (fun j => hJ.2.1 _ _ (by omega) (by omega))⟩
  refine ⟨B0, l0, C, fun p => (sq p).length, fun p k => rn_w (S p) ((sq p).getD k 0), P, S, sq, m0, x, lk, hF.2.2.1, hF.1, hF.2.2.2.1, (hF.2.2.2.2.2.2.2.2.2.1 316 (Or.inl rfl)).1, ⟨0, hF.2.2.2.2.2.1⟩, fun p hp => ?_, fun nn J hn1 hn3 hJ => ?_, fun p hp => ?_, hk, Rl_th h0, Rl_th h0, fun nn k hn1 hn3 hk12 hlk J hJ fd w T1 N1 I1 L1 R1 n1 s1 hLo J2 L2 fJ kJ fL2 hfd => ?_⟩
  · obtain ⟨p1, p2, p3, p4, p5, p6, p7⟩ := hB.2.2 p hp
    obtain ⟨w1, w2, w3, w4⟩ := rl_W p2 p3
    exact ⟨p1, (hF.2.2.2.2.2.2.2.2.1 _ (rl_CC hB.1 hp).1).1, w1, w2, w3⟩
  · have q0 := eJ nn J hJ 0 (by omega)
    have q1 := eJ nn J hJ 1 (by omega)
    exact rl_hup hF hO hNb (Or.inr rfl) (Or.inl rfl) (rl_CC hB.1 (p := 0) (by omega)).1 (rl_CC hB.1 (p := 1) (by omega)).1 q0.1 q1.1 (hB.2.2 0 (by omega)).2.1.2.2.2.2.2.2.1 (hB.2.2 1 (by omega)).2.1.2.2.2.2.2.2.1 (sc_R_ok (hB.2.2 0 (by omega)).2.1.1).1 (sc_R_ok (hB.2.2 1 (by omega)).2.1.1).1 (by rw [q0.2]; exact rl_pu (hB.2.2 0 (by omega))) (by rw [q1.2]; exact rl_pu (hB.2.2 1 (by omega))) (rl_di_V hn1 hn3) hJ.2.2.1 (by rw [hJ.2.1 _ _ (by omega) (by omega)]; exact d7.1) r1 r2 r3 r4
  · obtain ⟨p1, p2, p3, p4, p5, p6, p7⟩ := hB.2.2 p hp
    exact ⟨p4, p2.2.1, p2.1, (rb_Z p2).1, (rl_W p2 p3).2.2.2⟩
  · obtain ⟨B, len, Ip, Lp, ⟨y1, y2, y3, y4, y5, y6, y7, y8, y9a, y9b⟩, ⟨f1, f2⟩, hZ, hK, hR⟩ := hLo
    obtain ⟨tB, hpl, hl2, hB40⟩ := hZ.2.1.1.2.2.2.2.1
    have hfd12 : fd ≤ 12 := by
      rcases hR with ⟨e, _⟩ | ⟨_, e, _⟩ <;> omega
    have hlen : 0 < len := by
      have := (rl_pu (hB.2.2 0 (by omega))).2
      have e : hu_e (C 0) (P 0) I1 ≤ len := by
        unfold hu_e
        omega
      have e2 : hu_e (C 0) (P 0) I1 = hu_e (C 0) (P 0) J := hu_e_c (fun j => by
        have := cc 0 (by omega)
        rw [f1 _ _ (by omega) (by omega) (by omega), y9a _ _ (by omega) (by omega) (by omega)])
      have e3 := (eJ nn J hJ 0 (by omega)).2
      omega
    have g1 : ∀ c j, ¬ (333 ≤ c ∧ c ≤ 340) → ¬ (316 ≤ c ∧ c ≤ 322) → (c = N → n1 = 0) → ¬ (c = 0 ∧ j = 17) → I1 c j = I c j := fun c j w1 w2 w3 w4 => by
      rw [f1 _ _ (by omega) (by omega) (by omega), y9a _ _ (by omega) (by omega) w3, hJ.2.1 _ _ (by omega) (by omega)]
    have gJ : ∀ c j, ¬ (333 ≤ c ∧ c ≤ 340) → ¬ (316 ≤ c ∧ c ≤ 322) → (c = N → n1 = 0) → ¬ (c = 0 ∧ j = 17) → ¬ c = 491 → ¬ c = 505 → ¬ (469 ≤ c ∧ c ≤ 475) → ¬ c = 495 → ¬ (c = 460 ∧ (j = 0 ∨ j = 32 ∨ (37 ≤ j ∧ j ≤ 39) ∨ j = 49 ∨ j = 65 ∨ j = 70)) → J2 c j = I c j := fun c j w1 w2 w3 w4 w5 w6 w7 w8 w9 => (fJ c j w5 w6 w7 w8 w9).trans (g1 c j w1 w2 w3 w4)
    have j6 : J2 322 0 = 0 := (fJ _ _ (by omega) (by omega) (by omega) (by omega) (by omega)).trans hZ.2.2.1.2.2.2.2.1
    have j17 : J2 0 17 = Int32.ofNat (lk + 1) := by
      rw [fJ _ _ (by omega) (by omega) (by omega) (by omega) (by omega), f1 _ _ (by omega) (by omega) (by omega), y9a _ _ (by omega) (by omega) (by omega), hJ.1, hk.1]
      exact wq_4s lk
    have j65 : J2 460 65 = Int32.ofNat (lk + 1) := by
      rw [kJ.2.1, g1 _ _ (by omega) (by omega) (by omega) (by omega), hk.2.1]
      exact wq_4s lk
    have jH : J2 333 8 = Int32.ofNat fd := (fJ _ _ (by omega) (by omega) (by omega) (by omega) (by omega)).trans hK.1
    have efd := wi_on (n := fd) (by omega)
    refine Rl_hunt hA hB hD hN hNb (Or.inr rfl) r1 r2 r4 y7 tB hlen hl2 y8 (fun c j w1 w2 w3 w4 w5 w6 w7 w8 w9 w10 w11 => gJ c j (by omega) w3 w6 w2 w9 (by omega) w8 w10 (by omega)) (fun c j w1 w2 w3 w4 w5 => ?_) j6 ?_ ?_ ⟨⟨?_, ?_, fun t ht => ?_⟩, by rw [jH, efd]; omega, by rw [jH, kJ.2.2], fun t ht => ?_⟩ ⟨j17, j65, by omega⟩
    · rw [fL2 c j (by omega) (by omega) (by omega) (by omega), wv_u_no _ _ (by omega), f2 c j w1, y9b c j w1 w5]
    · rw [gJ _ _ (by omega) (by omega) (by omega) (by omega) (by omega) (by omega) (by omega) (by omega) (by omega)]
      exact d7.2.1
    · rw [gJ _ _ (by omega) (by omega) (by omega) (by omega) (by omega) (by omega) (by omega) (by omega) (by omega)]
      exact d7.2.2
    · rw [gJ _ _ (by omega) (by omega) (by omega) (by omega) (by omega) (by omega) (by omega) (by omega) (by omega)]
      exact hh.1.1
    · rw [gJ _ _ (by omega) (by omega) (by omega) (by omega) (by omega) (by omega) (by omega) (by omega) (by omega), gJ _ _ (by omega) (by omega) (by omega) (by omega) (by omega) (by omega) (by omega) (by omega) (by omega)]
      exact hh.1.2.1
    · rw [gJ 460 66 (by omega) (by omega) (by omega) (by omega) (by omega) (by omega) (by omega) (by omega) (by omega)] at ht
      have q : ∀ c, (329 ≤ c ∧ c ≤ 331) ∨ (502 ≤ c ∧ c ≤ 504) → J2 c t = I c t := fun c w => gJ c t (by omega) (by omega) (by omega) (by omega) (by omega) (by omega) (by omega) (by omega) (by omega)
      rw [q 329 (by omega), q 330 (by omega), q 331 (by omega), q 502 (by omega), q 503 (by omega), q 504 (by omega)]
      exact hh.1.2.2 t ht
    · rw [kJ.2.2, efd] at ht
      obtain ⟨k1, k2, k3⟩ := hK.2 t (by omega)
      rw [fJ 338 t (by omega) (by omega) (by omega) (by omega) (by omega), hfd t (by omega)]
      exact k2
