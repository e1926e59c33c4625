/-! ===== the relation is kept: read ===== -/
theorem pn_M_b {I J : rl_I} {S : rn_N} {m0 : Nat} (h : pn_M I S m0) (h4 : J 460 16 = I 460 16 ∧ J 460 18 = I 460 18) (h6 : ∀ c x, 462 ≤ c → c ≤ 467 → x < rn_n S → J c x = I c x) (h8 : ∀ c, c < m0 → J 468 c = I 468 c) : pn_M J S m0 := by
  obtain ⟨a1, a2, a3⟩ := h
  refine ⟨h4.1.trans a1, h4.2.trans a2, fun x hx => ?_⟩
  obtain ⟨b1, b2, b3, b4⟩ := a3 x hx
  have q : ∀ c, 462 ≤ c → c ≤ 467 → J c x = I c x := fun c w1 w2 => h6 c x w1 w2 hx
  refine ⟨by rw [q 462 (by omega) (by omega)]; exact b1, by rw [q 467 (by omega) (by omega)]; exact b2, fun k => ?_, fun k => ?_⟩
  · obtain ⟨f, g, c1, c2, c3, c4, c5⟩ := b3 k
    refine ⟨f, g, by rw [q 463 (by omega) (by omega)]; exact c1, by rw [q 464 (by omega) (by omega)]; exact c2, c3, c4, fun u hu => (c5 u hu).trans ⟨fun ⟨c, d1, d2, d3⟩ => ⟨c, d1, d2, by rw [h8 c (by omega)]; exact d3⟩, fun ⟨c, d1, d2, d3⟩ => ⟨c, d1, d2, by rw [h8 c (by omega)] at d3; exact d3⟩⟩⟩
  · obtain ⟨c1, c2, c3, c4⟩ := b4 k
    exact ⟨by rw [q 463 (by omega) (by omega)]; exact c1, by rw [q 464 (by omega) (by omega)]; exact c2, fun w => by rw [q 465 (by omega) (by omega)]; exact c3 w, fun w => by rw [q 466 (by omega) (by omega)]; exact c4 w⟩
theorem kp_V_1 {I : rl_I} {p c x : Nat} (h1 : 462 ≤ c) (h2 : c ≤ 466) : kp_V I p c x = I 476 (4000 * p + 800 * (c - 462) + x) := by
  unfold kp_V
  rw [if_neg (by omega), if_neg (by omega), if_neg (by omega)]
theorem kp_V_2 {I : rl_I} {p x : Nat} : kp_V I p 467 x = I 478 (800 * p + x) ∧ kp_V I p 468 x = I 477 (420 * p + x) ∧ kp_V I p 460 16 = I 480 p ∧ kp_V I p 460 18 = I 481 p := ⟨rfl, rfl, rfl, rfl⟩
theorem Rl_2 : wL_2 Rl := by
  intro T N I L R nc ns i hi h
  have h0 := h
  obtain ⟨n, lk, m, v, tb, Cs, C, P, S, m0, x, sq, Cd, Dd, a, b, g, nx, fi, sg, on, tw, V, cp, z, hA, hB, hD, hN⟩ := h
  obtain ⟨hF, hX, hO, ht, hw, hk, hh, hu, hg⟩ := id hA
  have c1 := (hD.2.2.2.2.2.2.1 442 (Or.inl rfl)).1.1.2.2.2.2.2.1
  have c2 := (hD.2.2.2.2.2.2.1 451 (Or.inr rfl)).1.1.2.2.2.2.2.1
  obtain ⟨hNb, _, _⟩ := rl_N_b hN (by omega) hk.2.2 c1 c2
  have n5 := hO.2.2.2.2
  have hCs := (rl_3C hB.1).2.2
  have hY := rl_t_Y hF.1 ht
  refine ⟨n, Cs, ⟨hCs, hF.1, hF.2.1, hX.1, (hF.2.2.2.2.2.2.2.2.1 Cs hCs).1, hO.1, hX.2.1, ht.1, ht.2.2.1, hY.2.2.2, by omega, by omega, hg, ⟨hB.2.1, 0, hF.2.2.2.2.2.1, ⟨_, rfl, rfl⟩⟩, hF.2.2.2.2.2.2.2.2.2.2.1.1, hF.2.2.2.2.2.2.2.2.2.2.2.1⟩, hF.2.2.1, hY, fun p hp => ?_, Rl_th h0, fun p Cp hp hRp T1 N1 I1 L1 R1 d1 s1 hL => ⟨fun hne J y j0 j2 fJ => ?_, fun S2 x2 o s sq2 m2 J y e1 e2 e3 e4 e5 e6 e7 e8 e9 e10 e11 e12 e13 e14 fJ => ?_⟩⟩
  · refine ⟨C p, (hB.2.2 p (by omega)).1, ?_, (hF.2.2.2.2.2.2.2.2.1 _ (rl_CC hB.1 (by omega)).1).1.1⟩
    have := (rl_CC hB.1 (p := p) (by omega)).1
    unfold rl_C at this
    omega
  · obtain ⟨hA1, hB1, hD1, eN, hs1, h3c, _⟩ := Rl_rd hA hB hD hL
    obtain ⟨hZ1, ht1, hw1, hk1, hh1⟩ := Rl_A_Z.mp hA1
    obtain ⟨n1, n2, n3⟩ := hN
    have gJ : ∀ c j, ¬ (c = 1 ∧ j = 6) → ¬ (c = 460 ∧ (j = 0 ∨ j = 2 ∨ (3 ≤ j ∧ j ≤ 9) ∨ j = 16 ∨ j = 18 ∨ j = 20 ∨ j = 72)) → ¬ (462 ≤ c ∧ c ≤ 468) → ¬ (484 ≤ c ∧ c ≤ 488) → J c j = I1 c j := fun c j w1 w2 w3 w4 => by
      rw [fJ c j w2 w3 w4, wv_u_no _ _ (by omega)]
    have j6 : J 1 6 = Int32.ofInt 0 := by rw [fJ _ _ (by omega) (by omega) (by omega), wv_u_at]
    refine ⟨0, lk, m, v, tb, Cs, C, P, S, m0, x, sq, Cd, Dd, a, b, g, nx, fi, sg, on, tw, V, cp, z, Rl_A_Z.mpr ⟨Rl_Z_fr hZ1 (fun c j w => ?_) rl_fL_u, rl_t_0 j6 j2, rl_w_c hw1 ?_ ?_ (fun j => ?_) (fun j => ?_), rl_k_c hk1 ?_ ?_, rl_h_c hh1 ?_ ?_ ?_ ?_ (fun c j x1 x2 => ?_) (fun j => ?_) (fun c j x1 x2 => ?_)⟩, Rl_B_fr hB1 hZ1.1.2.2.1 hZ1.2.2.1 (fun c j w => ?_) rl_fL_u, rl_d_c hD1 (rl_m_id T1) (Nat.le_refl _) (fun c j x1 x2 => ?_) ?_ (fun j x1 x2 => ?_) (fun c j x1 x2 => ?_) (fun E j hE hV => ?_) ⟨rfl, rfl, rfl, rfl⟩, by omega, by omega, by omega⟩
    all_goals exact gJ _ _ (by omega) (by omega) (by omega) (by omega)
  · have hCp : C p = Cp := by
      have := (hB.2.2 p (by omega)).1
      rw [hRp] at this
      exact (Option.some.inj this).symm
    obtain ⟨hA1, hB1, hD1, eN, hs1, h3c, h8⟩ := Rl_rd hA hB hD hL
    obtain ⟨hZ1, ht1, hw1, hk1, hh1⟩ := Rl_A_Z.mp hA1
    obtain ⟨n1, n2, n3⟩ := hN
    have l1 : ∀ c j, ¬ c = 0 → ¬ c = 1 → ¬ c = 345 → ¬ c = 325 → ¬ c = 333 → lr_i I1 c j = I1 c j := fun c j w1 w2 w3 w4 w5 => lr_i_no w1 w2 w3 w4 w5
    have l2 : ∀ c j, ¬ (c = 0 ∧ j = 16) → ¬ (c = 1 ∧ j = 6) → ¬ c = 345 → ¬ (c = 325 ∧ j = 8) → ¬ (c = 333 ∧ j = 8) → lr_i I1 c j = I1 c j := fun c j w1 w2 w3 w4 w5 => by
      unfold lr_i wc
      rw [wv_u_no _ _ (by omega), wv_u_no _ _ (by omega), wv_u_no _ _ (by omega), wv_u_no _ _ (by omega), wv_u_no _ _ (by omega), wv_u_no _ _ (by omega)]
    have l16 : lr_i I1 0 16 = 0 := by
      unfold lr_i wc
      rw [wv_u_no _ _ (by omega), wv_u_no _ _ (by omega), wv_u_no _ _ (by omega), wv_u_no _ _ (by omega), wv_u_at]
      rfl
    have l6 : lr_i I1 1 6 = Int32.ofInt 0 := by
      unfold lr_i wc
      rw [wv_u_no _ _ (by omega), wv_u_no _ _ (by omega), wv_u_no _ _ (by omega), wv_u_no _ _ (by omega), wv_u_no _ _ (by omega), wv_u_at]
    have l345 : ∀ q, q < 2 → lr_i I1 345 q = 0 := fun q hq => by
      unfold lr_i wc
      rw [wv_u_no _ _ (by omega), wv_u_no _ _ (by omega)]
      have e : q = 0 ∨ q = 1 := by omega
      rcases e with rfl | rfl
      · rw [wv_u_no _ _ (by omega), wv_u_at]
        rfl
      · rw [wv_u_at]
        rfl
    have l325 : lr_i I1 325 8 = 0 := by
      unfold lr_i
      rw [wv_u_no _ _ (by omega), wv_u_at]
      rfl
    have l333 : lr_i I1 333 8 = 0 := wv_u_at _ _ _ _
    have gK : ∀ c j, c < 460 → J c j = lr_i I1 c j := fun c j w => fJ c j (by omega) (by omega) (by omega) (by omega) (by omega) (by omega) (by omega) (by omega) (by omega)
    have gJ : ∀ c j, c < 460 → ¬ (c = 0 ∧ j = 16) → ¬ (c = 1 ∧ j = 6) → ¬ c = 345 → ¬ (c = 325 ∧ j = 8) → ¬ (c = 333 ∧ j = 8) → J c j = I1 c j := fun c j w w1 w2 w3 w4 w5 => (gK c j w).trans (l2 c j w1 w2 w3 w4 w5)
    have gM : ∀ c j, 460 < c → ¬ (462 ≤ c ∧ c ≤ 468) → ¬ (484 ≤ c ∧ c ≤ 488) → ¬ (476 ≤ c ∧ c ≤ 483) → ¬ c = 490 → ¬ c = 520 → J c j = I1 c j := fun c j w1 w2 w3 w4 w5 w6 => (fJ c j (by omega) w2 w3 (by omega) (by omega) (by omega) (by omega) (by omega) (by omega)).trans (l1 c j (by omega) (by omega) (by omega) (by omega) (by omega))
    have g4 : ∀ j, ¬ (j = 0 ∨ j = 2 ∨ (3 ≤ j ∧ j ≤ 9) ∨ j = 16 ∨ j = 18 ∨ j = 20 ∨ j = 46 ∨ j = 66 ∨ j = 70 ∨ j = 72) → J 460 j = I1 460 j := fun j w => (fJ 460 j (by omega) (by omega) (by omega) (by omega) (by omega) (by omega) (by omega) (by omega) (by omega)).trans (l1 _ j (by omega) (by omega) (by omega) (by omega) (by omega))
    have r0 : ∀ c j, ¬ c = 0 → ¬ c = 27 → (wv_u (wv_u R1 27 p (some Cs)) 0 13 (some Cp)) c j = R1 c j := fun c j w1 w2 => by rw [wv_u_no _ _ (by omega), wv_u_no _ _ (by omega)]
    have r13 : (wv_u (wv_u R1 27 p (some Cs)) 0 13 (some Cp)) 0 13 = some Cp := wv_u_at _ _ _ _
    have r0j : ∀ j, ¬ j = 13 → (wv_u (wv_u R1 27 p (some Cs)) 0 13 (some Cp)) 0 j = R1 0 j := fun j w => by rw [wv_u_no _ _ (by omega), wv_u_no _ _ (by omega)]
    have r27 : (wv_u (wv_u R1 27 p (some Cs)) 0 13 (some Cp)) 27 p = some Cs := by rw [wv_u_no _ _ (by omega), wv_u_at]
    have r27j : ∀ j, ¬ j = p → (wv_u (wv_u R1 27 p (some Cs)) 0 13 (some Cp)) 27 j = R1 27 j := fun j w => by rw [wv_u_no _ _ (by omega), wv_u_no _ _ (by omega)]
    generalize wv_u (wv_u R1 27 p (some Cs)) 0 13 (some Cp) = R2 at r0 r13 r0j r27 r27j
    have hq : ∀ Q, pq_q Q → R2 Q 0 = R1 Q 0 := fun Q hQ => r0 Q 0 (by have := pq_q_0 hQ; omega) (by have := pq_q_0 hQ; omega)
    have hO1 := hZ1.2.2.1
    have hO2 : rl_O T1 N1 R2 tb := rl_O_g hO1 (rl_m_id T1) (Nat.le_refl _) (fun c j w1 w2 w3 w4 => r0 c j w2 w3)
    obtain ⟨hY1, _⟩ := Rl_Z_Y.mp hZ1
    have fL : rl_fL L1 (wv_u L1 536 0 y) := rl_fL_u
    have hY2 : Rl_Y T1 J (wv_u L1 536 0 y) R2 := Rl_Y_g hY1 hO1.1 (rl_m_id T1) (fun c j w1 w2 w3 _ _ _ _ => r0 c j w2 w3) hq (fun c j w => r0 c j (by omega) (by omega)) (fun c j w => gM c j (by omega) (by omega) (by omega) (by omega) (by omega) (by omega)) (fun c j w => fL c j (by omega)) (fun c j w => gJ c j (by omega) (by omega) (by omega) (by omega) (by omega) (by omega)) (fun c j w => fL c j (by omega)) (fun Q B j _ _ w1 w2 => fL B j (by omega))
    obtain ⟨PP, q1, q2, q3, q67, q4, q5⟩ := e4
    have ets := lr_ts (I := I) ht.2.2.1
    have hrb : rb_S PP S2 m2 x2 sq2 := rb_of (t := wt_c I) (n := n) hY.2.2.2 ht.2.2.1 (by rw [ets]; exact e1) e2 (by rw [ets]; exact e3) q1 e6 q67 q2.2.1
    have cs : Cs = 28 ∨ Cs = 124 ∨ Cs = 346 := hB.1.2.2.1
    have hpp : p = 0 ∨ p = 1 := by omega
    have hB2 : Rl_B T1 J (wv_u L1 536 0 y) R2 tb 0 v Cp (rl_up C p Cs) (rl_up P p PP) (rl_up S p S2) (rl_up m0 p m2) (rl_up x p x2) (rl_up sq p sq2) := by
      refine ⟨?_, r13, fun q hq2 => ?_⟩
      · have b1 := hB.1
        unfold rl_3 at b1 ⊢
        rcases hpp with e | e
        · subst e
          rw [rl_up_at, rl_up_no (by omega)]
          omega
        · subst e
          rw [rl_up_at, rl_up_no (by omega)]
          omega
      · by_cases e : q = p
        · subst e
          rw [rl_up_at, rl_up_at, rl_up_at, rl_up_at, rl_up_at, rl_up_at]
          have qe : rl_e T1 I1 L1 R1 Cs PP S2 sq2 := ⟨q2, q3, fun i hi _ => q4 i hi, q5⟩
          refine ⟨r27, hrb, rl_e_c qe q67 hZ1.1.2.2.1 hCs hO1.1 (rl_m_id T1) (rl_ef_g (fun c j w1 w2 => gJ c j (by omega) (by omega) (by omega) (by omega) (by omega) (by omega)) (fun c j w => fL c j (by omega)) (fun k hk => r0 _ _ (by omega) (by omega)) (fun k B j _ _ w1 w2 => fL B j (by omega))), e5, rl_s_0 ((gK _ _ (by omega)).trans (l345 q hq2)) ?_, fun k hk => Or.inl ?_, fun j yy hj hy _ => Or.inl (e7 j hj)⟩
          · rcases hpp with e | e
            · rw [e]; exact e11
            · rw [e]; exact e12
          · rw [gJ _ _ (by omega) (by omega) (by omega) (by omega) (by omega) (by omega)]
            exact h8 k hk
        · rw [rl_up_no e, rl_up_no e, rl_up_no e, rl_up_no e, rl_up_no e, rl_up_no e]
          obtain ⟨p1, p2, p3, p4, p5, p6, p7⟩ := hB1.2.2 q hq2
          have e1' := (rl_CC hB.1 hq2)
          have e3' : C q = 28 ∨ C q = 124 ∨ C q = 346 := by unfold rl_C at e1'; omega
          refine ⟨by rw [r27j q e]; exact p1, p2, rl_e_c p3 p2.2.2.2.2.2.2.1 hZ1.1.2.2.1 e1'.1 hO1.1 (rl_m_id T1) (rl_ef_g (fun c j w1 w2 => gJ c j (by omega) (by omega) (by omega) (by omega) (by omega) (by omega)) (fun c j w => fL c j (by omega)) (fun k hk => r0 _ _ (by omega) (by omega)) (fun k B j _ _ w1 w2 => fL B j (by omega))), ?_, rl_s_0 ((gK _ _ (by omega)).trans (l345 q hq2)) ?_, rl_c_c p6 (fun c j w1 w2 => gJ c j (by omega) (by omega) (by omega) (by omega) (by omega) (by omega)) (fun k hk => r0 _ _ (by omega) (by omega)) (fun _ _ w => w) (fun k B j hk hB ht => ?_), ?_⟩
          · obtain ⟨k1, k2, k3, k4⟩ := p4
            have fq : ∀ c j, ¬ (c = 476 ∧ 4000 * p ≤ j ∧ j < 4000 * p + 4000) → ¬ (c = 477 ∧ 420 * p ≤ j ∧ j < 420 * p + 420) → ¬ (c = 478 ∧ 800 * p ≤ j ∧ j < 800 * p + 800) → ¬ (479 ≤ c ∧ c ≤ 483 ∧ j = p) → 476 ≤ c → c ≤ 483 → J c j = I1 c j := fun c j w1 w2 w3 w4 w5 w6 => (fJ c j (by omega) (by omega) (by omega) w1 w2 w3 w4 (by omega) (by omega)).trans (l1 c j (by omega) (by omega) (by omega) (by omega) (by omega))
            have hok := p2.2.1
            have m500 := hok.1
            have m420 := hok.2.1
            refine ⟨pn_M_b k1 ⟨fq 480 q (by omega) (by omega) (by omega) (by omega) (by omega) (by omega), fq 481 q (by omega) (by omega) (by omega) (by omega) (by omega) (by omega)⟩ (fun c w x1 x2 x3 => ?_) (fun c hc => ?_), ?_, ?_, ?_⟩
            · by_cases c7 : c = 467
              · subst c7
                exact fq 478 (800 * q + w) (by omega) (by omega) (by omega) (by omega) (by omega) (by omega)
              · rw [kp_V_1 x1 (by omega), kp_V_1 x1 (by omega)]
                exact fq 476 _ (by omega) (by omega) (by omega) (by omega) (by omega) (by omega)
            · exact fq 477 (420 * q + c) (by omega) (by omega) (by omega) (by omega) (by omega) (by omega)
            · rw [fq 482 q (by omega) (by omega) (by omega) (by omega) (by omega) (by omega)]; exact k2
            · rw [fq 483 q (by omega) (by omega) (by omega) (by omega) (by omega) (by omega)]; exact k3
            · rw [fq 479 q (by omega) (by omega) (by omega) (by omega) (by omega) (by omega)]; exact k4
          · have eq : q = 0 ∨ q = 1 := by omega
            rcases eq with e | e
            · rw [e]; exact e11
            · rw [e]; exact e12
          · obtain ⟨B2, y1, y2, _⟩ := hO1.2.2.2.1.1 (C q + 76 + 5 * k) ⟨C q, k, e1'.1, hk, rfl⟩
            rw [hB] at y1
            cases y1
            have := (y2 ht).2.1
            exact gM B j (by omega) (by omega) (by omega) (by omega) (by omega) (by omega)
          · intro j yy hj hy hw
            have j520 : J 520 (4 * q + j) = I1 520 (4 * q + j) := (fJ _ _ (by omega) (by omega) (by omega) (by omega) (by omega) (by omega) (by omega) (by omega) (by omega)).trans (l1 _ _ (by omega) (by omega) (by omega) (by omega) (by omega))
            rcases p7 j yy hj hy hw with a | ⟨K, mv, kd, a1, a2⟩
            · exact Or.inl (j520.trans a)
            · exact Or.inr ⟨K, mv, kd, a1, rl_z_1 a2 j520 (fun j2 _ _ => gM _ _ (by omega) (by omega) (by omega) (by omega) (by omega) (by omega)) (fun j2 _ _ => gM _ _ (by omega) (by omega) (by omega) (by omega) (by omega) (by omega))⟩
    have hD2 : rl_d T1 N1 J R2 Cd Dd a b g nx fi sg on tw V cp z := rl_d_c hD1 (rl_m_id T1) (Nat.le_refl _) (fun c j w1 w2 => gJ c j (by omega) (by omega) (by omega) (by omega) (by omega) (by omega)) (gJ _ _ (by omega) (by omega) (by omega) (by omega) (by omega) (by omega)) (fun j w1 w2 => g4 j (by omega)) (fun c j w1 w2 => gM c j (by omega) (by omega) (by omega) (by omega) (by omega) (by omega)) (fun E j hE hV => gM _ j (by omega) (by omega) (by omega) (by omega) (by omega) (by omega)) ⟨r0j _ (by omega), r0j _ (by omega), r0 _ _ (by omega) (by omega), r0 _ _ (by omega) (by omega)⟩
    have z0 : (0 : Int32).toInt = 0 := rfl
    have hh2 : rl_h J := ⟨⟨by rw [(gK _ _ (by omega)).trans l325]; decide, by rw [(gK _ _ (by omega)).trans l325, e13], fun t ht => by rw [e13] at ht; omega⟩, by rw [(gK _ _ (by omega)).trans l333]; decide, by rw [(gK _ _ (by omega)).trans l333, e14], fun t ht => by rw [e14] at ht; omega⟩
    exact ⟨0, lk, 0, v, tb, Cp, rl_up C p Cs, rl_up P p PP, rl_up S p S2, rl_up m0 p m2, rl_up x p x2, rl_up sq p sq2, Cd, Dd, a, b, g, nx, fi, sg, on, tw, V, cp, z, Rl_A_Z.mpr ⟨Rl_Z_Y.mpr ⟨hY2, hO2⟩, rl_t_0 ((gK _ _ (by omega)).trans l6) e9, rl_w_0 ((gK _ _ (by omega)).trans l16) e10, rl_k_c hk1 (gJ _ _ (by omega) (by omega) (by omega) (by omega) (by omega) (by omega)) (g4 _ (by omega)), hh2⟩, hB2, hD2, by omega, by omega, by omega⟩
