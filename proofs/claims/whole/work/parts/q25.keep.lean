/-! ===== the relation is kept where the heap grows ===== -/
section GR
variable {T T1 : wv_T} {N N1 : Nat} {I J : rl_I} {L M : rl_L} {R R1 : rl_R}
/-- sequences' arrays and links stay -/
theorem rl_ef_g {C : Nat} (fI : ∀ c j, C ≤ c → c < C + 76 → J c j = I c j) (fL : ∀ c j, C ≤ c ∧ c < C + 76 → M c j = L c j) (fR : ∀ k, k < 67 → R1 (C + 9 + k) 0 = R (C + 9 + k) 0) (fS : ∀ k B j, k < 67 → R (C + 9 + k) 0 = some B → 536 < B → B < N → M B j = L B j) : rl_ef N R R1 L M I J C := ⟨fI, fun c j h1 h2 => fL c j (by omega), fun k hk => ⟨fR k hk, fun B j h0 h1 h2 => fS k B j hk h0 h1 h2⟩⟩
theorem rl_pO_g (h : pq_O T N R) (hT : rl_m T T1) (hN : N ≤ N1) (hR : ∀ Q, pq_q Q → R1 Q 0 = R Q 0) : pq_O T1 N1 R1 := fun Q hQ => by
  obtain ⟨B, len, ⟨o1, o2, o3, o4, o5, o6⟩, a2, a3⟩ := h Q hQ
  refine ⟨B, len, ⟨hT _ _ o1, by rw [hR Q hQ]; exact o2, hT _ _ o3, o4, o5, o6⟩, fun hl => by have := a2 hl; omega, fun Q2 hQ2 hne hl => ?_⟩
  rw [hR Q2 hQ2]
  exact a3 Q2 hQ2 hne hl
theorem rl_r_g {H : Nat} (h : rl_r T N R H) (hT : rl_m T T1) (hN : N ≤ N1) (h7 : R1 H 7 = R H 7) (hR : ∀ Q, pq_q Q → R1 Q 0 = R Q 0) : rl_r T1 N1 R1 H := by
  obtain ⟨B, l, a1, a2, a3, a4⟩ := h
  refine ⟨B, l, by rw [h7]; exact a1, hT _ _ a2, a3, fun hl => ⟨(a4 hl).1, by have := (a4 hl).2.1; omega, fun Q hQ => ?_⟩⟩
  rw [hR Q hQ]
  exact (a4 hl).2.2 Q hQ
theorem rl_T_g {tb : Nat → Bool} (h : rl_T T N R tb) (hT : rl_m T T1) (hN : N ≤ N1) (hR : ∀ E, rl_E E → R1 E 4 = R E 4) : rl_T T1 N1 R1 tb := by
  obtain ⟨h4, h5⟩ := h
  refine ⟨fun E hE => ?_, fun E E2 B hE hE2 hne ht hB => ?_⟩
  · obtain ⟨B, b1, b2, b3⟩ := h4 E hE
    exact ⟨B, by rw [hR E hE]; exact b1, fun w => ⟨hT _ _ (b2 w).1, (b2 w).2.1, by have := (b2 w).2.2; omega⟩, fun w => hT _ _ (b3 w)⟩
  · rw [hR E hE] at hB
    rw [hR E2 hE2]
    exact h5 E E2 B hE hE2 hne ht hB
theorem rl_O_g {tb : Nat → Bool} (h : rl_O T N R tb) (hT : rl_m T T1) (hN : N ≤ N1) (hR : ∀ c j, c < 460 → ¬ c = 0 → ¬ c = 27 → ¬ ((c = 323 ∨ c = 449 ∨ c = 458) ∧ j = 0) → R1 c j = R c j) : rl_O T1 N1 R1 tb := by
  have hq : ∀ Q, pq_q Q → R1 Q 0 = R Q 0 := fun Q hQ => by
    obtain ⟨C, k, hC, hk, rfl⟩ := hQ
    exact hR _ _ (by omega) (by omega) (by omega) (by omega)
  exact ⟨rl_pO_g h.1 hT hN hq, rl_r_g h.2.1 hT hN (hR _ _ (by omega) (by omega) (by omega) (by omega)) hq, rl_r_g h.2.2.1 hT hN (hR _ _ (by omega) (by omega) (by omega) (by omega)) hq, rl_T_g h.2.2.2.1 hT hN (fun E hE => by
    obtain ⟨C, k, hC, hk, rfl⟩ := hE
    unfold rl_C at hC
    exact hR _ _ (by omega) (by omega) (by omega) (by omega)), by have := h.2.2.2.2; omega⟩
/-- the static part but for who owns what -/
def Rl_Y (T : wv_T) (I : rl_I) (L : rl_L) (R : rl_R) : Prop := rl_F T R ∧ rl_X T I L R ∧ rl_e T I L R 220 rl_Pt rn_0 [] ∧ ∃ g, I 9 11 = Int32.ofNat g ∧ g < 64
theorem Rl_Z_Y {tb : Nat → Bool} : Rl_Z T N I L R tb ↔ Rl_Y T I L R ∧ rl_O T N R tb := ⟨fun ⟨a, b, c, d, e⟩ => ⟨⟨a, b, d, e⟩, c⟩, fun ⟨⟨a, b, d, e⟩, c⟩ => ⟨a, b, c, d, e⟩⟩
theorem Rl_Y_g (h : Rl_Y T I L R) (hO : pq_O T N R) (hT : rl_m T T1) (hR : rl_rk R R1) (hq : ∀ Q, pq_q Q → R1 Q 0 = R Q 0) (oR : rl_o R R1) (oI : rl_o I J) (oL : rl_o L M) (fI : ∀ c j, (c = 9 ∧ j = 11) ∨ (220 ≤ c ∧ c < 296) → J c j = I c j) (fL : ∀ c j, 220 ≤ c ∧ c < 296 → M c j = L c j) (fS : ∀ Q B j, pq_q Q → R Q 0 = some B → 536 < B → B < N → M B j = L B j) : Rl_Y T1 J M R1 := by
  obtain ⟨h1, h2, h4, g, h5, h6⟩ := h
  exact ⟨rl_F_c h1 hT hR, rl_X_c h2 hT oI oL oR, rl_e_c h4 (Nat.zero_le _) h1.2.2.1 (Or.inr (Or.inr (Or.inl rfl))) hO hT (rl_ef_g (fun c j c1 c2 => fI c j (by omega)) (fun c j w => fL c j (by omega)) (fun k hk => hq _ ⟨220, k, by omega, hk, rfl⟩) (fun k B j hk => fS _ B j ⟨220, k, by omega, hk, rfl⟩)), g, by rw [fI _ _ (by omega)]; exact h5, h6⟩
theorem rl_p_g {tb tb1 : Nat → Bool} {p m : Nat} {v : Nat → Nat} {C : Nat} {P : pd_P} {S : rn_N} {m0 x : Nat} {sq : List Nat} (h : rl_p T I L R tb p m v C P S m0 x sq) (hp : p < 2) (hC : rl_C C) (h536 : T 536 = some (.inr (1, 1))) (hO : rl_O T N R tb) (hT : rl_m T T1) (h27 : R1 27 p = R 27 p) (hq : ∀ Q, pq_q Q → R1 Q 0 = R Q 0) (h4 : ∀ k, k < 4 → R1 (C + 76 + 5 * k) 4 = R (C + 76 + 5 * k) 4) (ht : ∀ E, tb E = true → tb1 E = true) (fI : ∀ c j, (C ≤ c ∧ c < C + 96) ∨ c = 345 ∨ (476 ≤ c ∧ c ≤ 483) ∨ c = 490 ∨ (520 ≤ c ∧ c ≤ 522) → J c j = I c j) (fB : ∀ k B j, k < 4 → R (C + 76 + 5 * k) 4 = some B → tb (C + 76 + 5 * k) = true → T B = some (.inr (0, 4224)) → 536 < B → B < N → J B j = I B j) (fL : ∀ c j, (C ≤ c ∧ c < C + 76) ∨ c = 343 + p → M c j = L c j) (fS : ∀ Q B j, pq_q Q → R Q 0 = some B → 536 < B → B < N → M B j = L B j) : rl_p T1 J M R1 tb1 p m v C P S m0 x sq := by
  obtain ⟨h1, h2, h3, h4', h5, h6, h7⟩ := h
  refine ⟨by rw [h27]; exact h1, h2, rl_e_c h3 h2.2.2.2.2.2.2.1 h536 hC hO.1 hT (rl_ef_g (fun c j c1 c2 => fI c j (by omega)) (fun c j w => fL c j (by omega)) (fun k hk => hq _ ⟨C, k, hC, hk, rfl⟩) (fun k B j hk => fS _ B j ⟨C, k, hC, hk, rfl⟩)), kp_K_F h4' (fun c j c1 c2 => fI c j (by omega)), rl_s_c h5 (fI _ _ (by omega)) (fI _ _ (by omega)) (fun j => fI _ _ (by omega)) (fun j => fL _ _ (by omega)), rl_c_c h6 (fun c j c1 c2 => fI c j (by omega)) h4 (fun k _ w => ht _ w) (fun k B j hk hB ht => ?_), rl_z_c h7 (fun c j c1 c2 => fI c j (by omega))⟩
  obtain ⟨B2, b1, b2, _⟩ := hO.2.2.2.1.1 (C + 76 + 5 * k) ⟨C, k, hC, hk, rfl⟩
  rw [hB] at b1
  cases b1
  exact fB k B j hk hB ht (b2 ht).1 (b2 ht).2.1 (b2 ht).2.2
end GR
theorem dz_tw {a b g : Nat} {nx : Nat → Nat} {fi : Nat → Bool} {sg on tw : Nat → Nat} (h : dz_V a b g nx fi sg on tw) : tw_V a b g nx fi sg on tw := by
  obtain ⟨h1, h2, h3, h4, h5, h6, h7⟩ := h
  exact ⟨h2, h3, h4, fun i hi => by have := h5 i hi; omega, fun i hi => by have := h6 i hi; omega, fun i hi => by have := h7 i hi; omega⟩
theorem Rl_16 : wL_16 Rl := by
  intro T N I L R nc ns i hi h
  have h0 := h
  obtain ⟨n, lk, m, v, tb, Cs, C, P, S, m0, x, sq, Cd, Dd, a, b, g, nx, fi, sg, on, tw, V, cp, z, hA, hB, hD, hN⟩ := h
  have hD0 := hD
  obtain ⟨hF, hX, hO, ht, hw, hk, hh, hu, hg⟩ := id hA
  obtain ⟨d1, ⟨d2, d3⟩, d4, d5, d6, d7, d8, d9, d10⟩ := hD
  have hc : Cd = 442 ∨ Cd = 451 := by omega
  obtain ⟨u1, u2⟩ := d8 Cd hc
  have c1 := (d8 442 (Or.inl rfl)).1.1.2.2.2.2.2.1
  have c2 := (d8 451 (Or.inr rfl)).1.1.2.2.2.2.2.1
  obtain ⟨hN1, _, _⟩ := rl_N_b hN (by omega) hk.2.2 c1 c2
  have hN5 := hO.2.2.2.2
  obtain ⟨f1, f2, f3⟩ := hF.2.2.2.2.2.2.2.2.2.1 Cd (by omega)
  refine ⟨Cd, Cd + 7, V Cd, cp Cd, z Cd, a, b, g, nx, fi, sg, on, tw, hF.2.2.1, hF.1, hF.2.2.2.1, by omega, d2, ⟨⟨f1, f3, by omega, by omega, hX.2.2, fun k hk => ⟨by omega, by omega⟩, by omega, by omega⟩, dz_tw d4, d5, hX.1 20 _ rfl, u1, d10⟩, d6, Rl_th h0, fun _ y I1 f => ?_, fun h7 V1 cap1 T1 N1 I1 L1 R1 n1 s1 hb hG y I2 fI2 => ?_⟩
  · exact Rl_fr h0 (fun c j w => (f c j (by unfold rl_di at w; omega)).trans (wv_u_no _ _ (by unfold rl_di at w; omega))) rl_fL_u (by omega) (by omega) (by omega)
  · obtain ⟨g1, g2, g3, g4, g5, g6, g7, g8, g9⟩ := hG
    have hcap := hb.1.2.2.2.2.2.1
    have fJ : ∀ c j, ¬ c = Cd + 7 → ¬ c = V Cd → (c < N ∨ N1 ≤ c) → ¬ (c = Cd ∧ j = 7) → ¬ (c = 460 ∧ (j = 0 ∨ (117 ≤ j ∧ j ≤ 119))) → I2 c j = I c j := fun c j w1 w2 w3 w4 w5 => by
      rw [fI2 c j (by omega), wv_u_no _ _ (by omega), wv_u_no _ _ (by omega)]
      exact g6 c j w1 w2 w3
    have fM : ∀ c j, (c < N ∨ N1 ≤ c) → ¬ c = 536 → (wv_u L1 536 0 y) c j = L c j := fun c j w1 w2 => by
      rw [wv_u_no _ _ (by omega)]
      exact g8 c j w1
    have fR : ∀ c j, (c < N ∨ N1 ≤ c) → ¬ (c = Cd + 7 ∧ j = 0) → R1 c j = R c j := g9
    have hT : rl_m T T1 := g1
    have tV := u1.1.2.2.2.1
    have hV5 : ¬ V Cd < 460 ∨ V Cd = Cd + 8 := by omega
    have fs : ∀ c j, c < 460 → ¬ (442 ≤ c) → I2 c j = I c j := fun c j w1 w2 => fJ c j (by omega) (by omega) (by omega) (by omega) (by omega)
    have fm : ∀ c j, 460 ≤ c → c < 536 → ¬ (c = 460 ∧ (j = 0 ∨ (117 ≤ j ∧ j ≤ 119))) → I2 c j = I c j := fun c j w1 w2 w3 => fJ c j (by omega) (by omega) (by omega) (by omega) w3
    have hq : ∀ Q, pq_q Q → R1 Q 0 = R Q 0 := fun Q hQ => by
      obtain ⟨C, k, hC, hk, rfl⟩ := hQ
      exact fR _ _ (by omega) (by omega)
    obtain ⟨hZ, ht, hw, hk, hh⟩ := Rl_A_Z.mp hA
    obtain ⟨hY, _⟩ := Rl_Z_Y.mp hZ
    have hO2 : rl_O T1 N1 R1 tb := rl_O_g hO hT (by omega) (fun c j w1 w2 w3 w4 => fR c j (by omega) (by omega))
    have hY2 : Rl_Y T1 I2 (wv_u L1 536 0 y) R1 := Rl_Y_g hY hO.1 hT (fun c j w1 _ _ _ _ _ w7 => fR c j (by omega) (by omega)) hq (fun c j w => fR c j (by omega) (by omega)) (fun c j w => fJ c j (by omega) (by omega) (by omega) (by omega) (by omega)) (fun c j w => fM c j (by omega) (by omega)) (fun c j w => fs c j (by omega) (by omega)) (fun c j w => fM c j (by omega) (by omega)) (fun Q B j _ _ b1 b2 => fM B j (by omega) (by omega))
    have hB2 : Rl_B T1 I2 (wv_u L1 536 0 y) R1 tb m v Cs C P S m0 x sq := by
      refine ⟨hB.1, by rw [fR _ _ (by omega) (by omega)]; exact hB.2.1, fun p hp => ?_⟩
      obtain ⟨e1, e2⟩ := rl_CC hB.1 hp
      have e3 : 28 ≤ C p ∧ C p ≤ 346 := by unfold rl_C at e1; omega
      refine rl_p_g (hB.2.2 p hp) hp e1 hF.2.2.1 hO hT (fR _ _ (by omega) (by omega)) hq (fun k hk => fR _ _ (by omega) (by omega)) (fun _ w => w) (fun c j w => ?_) (fun k B j hk hB ht hTB b1 b2 => fJ B j (by omega) (fun w => ?_) (by omega) (by omega) (by omega)) (fun c j w => fM c j (by omega) (by omega)) (fun Q B j _ _ b1 b2 => fM B j (by omega) (by omega))
      · by_cases c4 : c < 460
        · exact fs c j c4 (by omega)
        · exact fm c j (by omega) (by omega) (by omega)
      · rw [w, tV] at hTB
        cases hTB
    have hD2 : rl_d T1 N1 I2 R1 Cd Dd a b g nx fi sg on tw (rl_up V Cd V1) (rl_up cp Cd cap1) (rl_up z Cd (tw_T a b g nx fi sg on tw)) := by
      have vD : V Dd = Dd + 8 ∨ (536 < V Dd ∧ V Dd < N) := (d8 Dd (by omega)).2
      have vne : ¬ V Dd = V Cd := by
        rcases d1 with ⟨rfl, rfl⟩ | ⟨rfl, rfl⟩
        · exact fun w => d9 w.symm
        · exact d9
      have b7 : ∀ j, ¬ j = 2 → ¬ j = 3 → I2 (Cd + 7) j = I (Cd + 7) j := fun j w1 w2 => by
        rw [fI2 _ j (by omega), wv_u_no _ _ (by omega), wv_u_no _ _ (by omega)]
        exact g7 j w1 w2
      have hbu : bu_D T1 I2 R1 (Cd + 7) V1 cap1 (tw_T a b g nx fi sg on tw) := bu_D_c hb (rl_m_id T1) rfl (fun j => by rw [fI2 _ j (by omega), wv_u_no _ _ (by omega), wv_u_no _ _ (by omega)]) (fun j => by
        have v1 : ¬ V1 = 460 ∧ ¬ V1 = Cd := by omega
        rw [fI2 _ j (by omega), wv_u_no _ _ (by omega), wv_u_no _ _ (by omega)])
      refine ⟨d1, ⟨by rw [fR _ _ (by omega) (by omega)]; exact d2, by rw [fR _ _ (by omega) (by omega)]; exact d3⟩, d4, tw_N_c d5 (fun j j1 j2 => fJ _ _ (by omega) (by omega) (by omega) (by omega) (by omega)) (fun c j w1 w2 => fJ _ _ (by omega) (by omega) (by omega) (by omega) (by omega)), tw_M_c d6 (fun j j1 j2 => fm _ _ (by omega) (by omega) (by omega)) (fun c j w1 w2 => fm _ _ (by omega) (by omega) (by omega)), ⟨by rw [fs _ _ (by omega) (by omega)]; exact d7.1, by rw [fJ _ _ (by omega) (by omega) (by omega) (by omega) (by omega)]; exact d7.2.1, by rw [fJ _ _ (by omega) (by omega) (by omega) (by omega) (by omega)]; exact d7.2.2⟩, fun E hE => ?_, ?_, fun _ => rl_up_at⟩
      · by_cases e : E = Cd
        · subst e
          rw [rl_up_at, rl_up_at, rl_up_at]
          exact ⟨hbu, by omega⟩
        · have eD : E = Dd := by omega
          subst eD
          rw [rl_up_no e, rl_up_no e, rl_up_no e]
          obtain ⟨q1, q2⟩ := d8 E hE
          exact ⟨bu_D_c q1 hT (fR _ _ (by omega) (by omega)) (fun j => fJ _ _ (by omega) (by omega) (by omega) (by omega) (by omega)) (fun j => fJ _ _ (by omega) vne (by omega) (by omega) (by omega)), by omega⟩
      · rcases d1 with ⟨e1, e2⟩ | ⟨e1, e2⟩
        · subst e1 e2
          rw [rl_up_at, rl_up_no (by omega)]
          omega
        · subst e1 e2
          rw [rl_up_at, rl_up_no (by omega)]
          omega
    have ecp : (rl_up cp Cd cap1) 442 + (rl_up cp Cd cap1) 451 + cp Cd = cp 442 + cp 451 + cap1 := by
      rcases hc with e | e
      · subst e
        rw [rl_up_at, rl_up_no (by omega)]
        omega
      · subst e
        rw [rl_up_at, rl_up_no (by omega)]
        omega
    obtain ⟨n1', n2', n3'⟩ := hN
    refine ⟨n, lk, m, v, tb, Cs, C, P, S, m0, x, sq, Cd, Dd, a, b, g, nx, fi, sg, on, tw, rl_up V Cd V1, rl_up cp Cd cap1, rl_up z Cd (tw_T a b g nx fi sg on tw), Rl_A_Z.mpr ⟨Rl_Z_Y.mpr ⟨hY2, hO2⟩, rl_t_c ht (fs _ _ (by omega) (by omega)) (fm _ _ (by omega) (by omega) (by omega)) (fun j => fs _ _ (by omega) (by omega)) (fun j => fm _ _ (by omega) (by omega) (by omega)), rl_w_c hw (fs _ _ (by omega) (by omega)) (fm _ _ (by omega) (by omega) (by omega)) (fun j => fs _ _ (by omega) (by omega)) (fun j => fm _ _ (by omega) (by omega) (by omega)), rl_k_c hk (fs _ _ (by omega) (by omega)) (fm _ _ (by omega) (by omega) (by omega)), rl_h_c hh (fs _ _ (by omega) (by omega)) (fm _ _ (by omega) (by omega) (by omega)) (fs _ _ (by omega) (by omega)) (fm _ _ (by omega) (by omega) (by omega)) (fun c j c1 c2 => fs _ _ (by omega) (by omega)) (fun j => fs _ _ (by omega) (by omega)) (fun c j c1 c2 => fm _ _ (by omega) (by omega) (by omega))⟩, hB2, hD2, by omega, by omega, by omega⟩
