/-! ===== the relation is kept: designs that are read ===== -/
/-- links of the first object that change -/
def rl_rR (R R1 : rl_R) : Prop := ∀ c j, ¬ c = 0 → R1 c j = R c j
theorem pq_q_0 {Q : Nat} (h : pq_q Q) : 37 ≤ Q ∧ Q < 460 := by
  obtain ⟨C, k, hC, hk, rfl⟩ := h
  omega
theorem rl_O_R {T : wv_T} {N : Nat} {R R1 : rl_R} {tb : Nat → Bool} (h : rl_O T N R tb) (hR : rl_rR R R1) : rl_O T N R1 tb := by
  obtain ⟨h1, h2, h3, ⟨h4, h5⟩, h6⟩ := h
  have hr : ∀ H, ¬ H = 0 → rl_r T N R H → rl_r T N R1 H := fun H hH w => by
    obtain ⟨B, l, a1, a2, a3, a4⟩ := w
    refine ⟨B, l, by rw [hR _ _ hH]; exact a1, a2, a3, fun hl => ⟨(a4 hl).1, (a4 hl).2.1, fun Q hQ => ?_⟩⟩
    rw [hR _ _ (by have := pq_q_0 hQ; omega)]
    exact (a4 hl).2.2 Q hQ
  refine ⟨fun Q hQ => ?_, hr 325 (by omega) h2, hr 333 (by omega) h3, ⟨fun E hE => ?_, fun E E2 B hE hE2 hne ht hB => ?_⟩, h6⟩
  · have q0 : ¬ Q = 0 := by have := pq_q_0 hQ; omega
    obtain ⟨B, len, ⟨o1, o2, o3, o4, o5, o6⟩, a2, a3⟩ := h1 Q hQ
    refine ⟨B, len, ⟨o1, by rw [hR _ _ q0]; exact o2, o3, o4, o5, o6⟩, a2, fun Q2 hQ2 hne hl => ?_⟩
    rw [hR _ _ (by have := pq_q_0 hQ2; omega)]
    exact a3 Q2 hQ2 hne hl
  · obtain ⟨B, b1, b2⟩ := h4 E hE
    exact ⟨B, by rw [hR _ _ (by have := (rl_E_in hE).2.1; omega)]; exact b1, b2⟩
  · rw [hR _ _ (by have := (rl_E_in hE).2.1; omega)] at hB
    rw [hR _ _ (by have := (rl_E_in hE2).2.1; omega)]
    exact h5 E E2 B hE hE2 hne ht hB
theorem rl_ef_R {N : Nat} {R R1 : rl_R} {L : rl_L} {I : rl_I} {C : Nat} (hC : rl_C C) (hR : rl_rR R R1) : rl_ef N R R1 L L I I C := ⟨fun _ _ _ _ => rfl, fun _ _ _ _ => rfl, fun k _ => ⟨hR _ _ (by unfold rl_C at hC; omega), fun _ _ _ _ _ => rfl⟩⟩
theorem Rl_Z_R {T : wv_T} {N : Nat} {I : rl_I} {L : rl_L} {R R1 : rl_R} {tb : Nat → Bool} (h : Rl_Z T N I L R tb) (hR : rl_rR R R1) : Rl_Z T N I L R1 tb := by
  obtain ⟨h1, h2, h3, h4, h5⟩ := h
  exact ⟨rl_F_c h1 (rl_m_id T) (fun c j _ w _ _ _ _ _ => hR c j w), rl_X_c h2 (rl_m_id T) (fun _ _ _ => rfl) (fun _ _ _ => rfl) (fun c j w => hR c j (by omega)), rl_O_R h3 hR, rl_e_c h4 (Nat.zero_le _) h1.2.2.1 (Or.inr (Or.inr (Or.inl rfl))) h3.1 (rl_m_id T) (rl_ef_R (Or.inr (Or.inr (Or.inl rfl))) hR), h5⟩
theorem Rl_B_R {N : Nat} {T : wv_T} {I : rl_I} {L : rl_L} {R R1 : rl_R} {tb : Nat → Bool} {m : Nat} {v : Nat → Nat} {Cs : Nat} {C : Nat → Nat} {P : Nat → pd_P} {S : Nat → rn_N} {m0 x : Nat → Nat} {sq : Nat → List Nat} (h : Rl_B T I L R tb m v Cs C P S m0 x sq) (h536 : T 536 = some (.inr (1, 1))) (hO : pq_O T N R) (hR : rl_rR R R1) (h13 : R1 0 13 = R 0 13) : Rl_B T I L R1 tb m v Cs C P S m0 x sq := by
  obtain ⟨a1, a2, a3⟩ := h
  refine ⟨a1, by rw [h13]; exact a2, fun p hp => ?_⟩
  obtain ⟨c1, c2⟩ := rl_CC a1 hp
  obtain ⟨h1, h2, h3, h4, h5, h6, h7⟩ := a3 p hp
  exact ⟨by rw [hR _ _ (by omega)]; exact h1, h2, rl_e_c h3 h2.2.2.2.2.2.2.1 h536 c1 hO (rl_m_id T) (rl_ef_R c1 hR), h4, h5, rl_c_c h6 (fun _ _ _ _ => rfl) (fun k hk => hR _ _ (by unfold rl_C at c1; omega)) (fun _ _ w => w) (fun _ _ _ _ _ _ => rfl), h7⟩
/-- what reading a design leaves alone -/
def rl_rd (D : Nat) (I J : rl_I) : Prop := ∀ c j, ¬ (c = 1 ∧ 6 ≤ j ∧ j ≤ 9) → ¬ (3 ≤ c ∧ c ≤ 6) → ¬ (c = 22 ∧ j = 4) → ¬ (c = 24 ∨ c = 25) → ¬ (D ≤ c ∧ c ≤ D + 5) → ¬ (c = 325 ∧ j = 8) → ¬ (c = 460 ∧ (j = 0 ∨ (2 ≤ j ∧ j ≤ 5) ∨ j = 8 ∨ (56 ≤ j ∧ j ≤ 58) ∨ j = 66 ∨ (100 ≤ j ∧ j ≤ 103) ∨ (110 ≤ j ∧ j ≤ 116))) → ¬ (496 ≤ c ∧ c ≤ 500) → ¬ (527 ≤ c ∧ c ≤ 535) → J c j = I c j
theorem rl_fL_d {L M : rl_L} (h : ∀ c j, ¬ (c = 7 ∨ c = 23) → M c j = L c j) : rl_fL L M := fun c j w => h c j (by omega)
section RD
variable {T : wv_T} {N : Nat} {I J : rl_I} {L M : rl_L} {R : rl_R} {nc ns i n lk m : Nat} {v : Nat → Nat} {tb : Nat → Bool} {Cs : Nat} {C : Nat → Nat} {P : Nat → pd_P} {S : Nat → rn_N} {m0 x : Nat → Nat} {sq : Nat → List Nat} {Cd Dd a b g : Nat} {nx : Nat → Nat} {fi : Nat → Bool} {sg on tw : Nat → Nat} {V cp : Nat → Nat} {z : Nat → List Nat}
theorem Rl_dbad (hA : Rl_A T N I L R n lk m v tb) (hB : Rl_B T I L R tb m v Cs C P S m0 x sq) (hD : rl_d T N I R Cd Dd a b g nx fi sg on tw V cp z) (hN : rl_N N nc ns i n lk tb cp) (fJ : rl_rd Dd I J) (fL : rl_fL L M) (e1 : J 1 6 = 0) (e2 : J 460 2 = 0) (e3 : J 325 8 = I 325 8) (e4 : ∀ c j, (c = 460 ∧ ((56 ≤ j ∧ j ≤ 58) ∨ j = 66)) ∨ (496 ≤ c ∧ c ≤ 500) → J c j = I c j) : Rl T N J M R nc ns (i + 4) := by
  obtain ⟨hZ, ht, hw, hk, hh⟩ := Rl_A_Z.mp hA
  obtain ⟨n1, n2, n3⟩ := hN
  have hD0 := hD
  obtain ⟨d1, d2, d3, d4, d5, ⟨d6, d6b, d6c⟩, d7, d8, d9⟩ := hD
  have hd2 : rl_d T N J R Cd Dd a b g nx fi sg on tw V cp z := by
    refine ⟨d1, d2, d3, tw_N_c d4 (fun j _ _ => ?_) (fun c j _ _ => ?_), tw_M_c d5 (fun j _ _ => e4 _ _ (by omega)) (fun c j _ _ => e4 _ _ (by omega)), ⟨?_, ?_, ?_⟩, fun E hE => ?_, d8, fun w => d9 ?_⟩
    case refine_3 => rw [fJ _ _ (by omega) (by omega) (by omega) (by omega) (by omega) (by omega) (by omega) (by omega) (by omega)]; exact d6
    case refine_4 => rw [fJ _ _ (by omega) (by omega) (by omega) (by omega) (by omega) (by omega) (by omega) (by omega) (by omega)]; exact d6b
    case refine_5 => rw [fJ _ _ (by omega) (by omega) (by omega) (by omega) (by omega) (by omega) (by omega) (by omega) (by omega)]; exact d6c
    case refine_6 =>
      obtain ⟨b1, b2⟩ := d7 E hE
      refine ⟨bu_D_c b1 (rl_m_id T) rfl (fun j => ?_) (fun j => ?_), b2⟩
      all_goals exact fJ _ _ (by omega) (by omega) (by omega) (by omega) (by omega) (by omega) (by omega) (by omega) (by omega)
    case refine_7 =>
      rw [← fJ Cd 7 (by omega) (by omega) (by omega) (by omega) (by omega) (by omega) (by omega) (by omega) (by omega)]
      exact w
    all_goals exact fJ _ _ (by omega) (by omega) (by omega) (by omega) (by omega) (by omega) (by omega) (by omega) (by omega)
  refine ⟨0, lk, m, v, tb, Cs, C, P, S, m0, x, sq, Cd, Dd, a, b, g, nx, fi, sg, on, tw, V, cp, z, Rl_A_Z.mpr ⟨Rl_Z_fr hZ (fun c j w => ?_) fL, rl_t_0 e1 e2, rl_w_c hw ?_ ?_ (fun j => ?_) (fun j => ?_), rl_k_c hk ?_ ?_, rl_h_c hh e3 (e4 _ _ (by omega)) ?_ ?_ (fun c j c1 c2 => ?_) (fun j => ?_) (fun c j c1 c2 => ?_)⟩, Rl_B_fr hB hZ.1.2.2.1 hZ.2.2.1 (fun c j w => ?_) fL, hd2, by omega, by omega, by omega⟩
  all_goals exact fJ _ _ (by omega) (by omega) (by omega) (by omega) (by omega) (by omega) (by omega) (by omega) (by omega)
theorem Rl_dgood (hA : Rl_A T N I L R n lk m v tb) (hB : Rl_B T I L R tb m v Cs C P S m0 x sq) (hD : rl_d T N I R Cd Dd a b g nx fi sg on tw V cp z) (hN : rl_N N nc ns i n lk tb cp) (fJ : rl_rd Dd I J) (fL : rl_fL L M) {a2 b2 g2 : Nat} {nx2 : Nat → Nat} {fi2 : Nat → Bool} {sg2 on2 tw2 : Nat → Nat} (e1 : J 1 6 = 0) (e2 : J 460 2 = 0) (e3 : J 325 8 = 0) (e4 : J 460 66 = 0) (hV : dz_V a2 b2 g2 nx2 fi2 sg2 on2 tw2) (hn : tw_N Dd a2 b2 g2 nx2 fi2 sg2 on2 tw2 J) (hm : tw_M a2 b2 g2 nx2 fi2 sg2 on2 tw2 J) (h7 : J Dd 7 = 0) : Rl T N J M (wv_u (wv_u R 0 14 (some Dd)) 0 15 (some Cd)) nc ns (i + 4) := by
  have r0 : rl_rR R (wv_u (wv_u R 0 14 (some Dd)) 0 15 (some Cd)) := fun c j w => by rw [wv_u_no _ _ (by omega), wv_u_no _ _ (by omega)]
  have r13 : (wv_u (wv_u R 0 14 (some Dd)) 0 15 (some Cd)) 0 13 = R 0 13 := by rw [wv_u_no _ _ (by omega), wv_u_no _ _ (by omega)]
  have r14 : (wv_u (wv_u R 0 14 (some Dd)) 0 15 (some Cd)) 0 14 = some Dd := by rw [wv_u_no _ _ (by omega), wv_u_at]
  have r15 : (wv_u (wv_u R 0 14 (some Dd)) 0 15 (some Cd)) 0 15 = some Cd := wv_u_at _ _ _ _
  generalize wv_u (wv_u R 0 14 (some Dd)) 0 15 (some Cd) = R1 at r0 r13 r14 r15
  obtain ⟨hZ, ht, hw, hk, hh⟩ := Rl_A_Z.mp hA
  obtain ⟨n1, n2, n3⟩ := hN
  obtain ⟨d1, d2, d3, d4, d5, ⟨d6, d6b, d6c⟩, d7, d8, d9⟩ := hD
  have hd2 : rl_d T N J R1 Dd Cd a2 b2 g2 nx2 fi2 sg2 on2 tw2 V cp z := by
    refine ⟨by omega, ⟨r14, r15⟩, hV, hn, hm, ⟨?_, ?_, ?_⟩, fun E hE => ?_, d8, fun w => (w h7).elim⟩
    · rw [fJ _ _ (by omega) (by omega) (by omega) (by omega) (by omega) (by omega) (by omega) (by omega) (by omega)]; exact d6
    · rw [fJ _ _ (by omega) (by omega) (by omega) (by omega) (by omega) (by omega) (by omega) (by omega) (by omega)]; exact d6b
    · rw [fJ _ _ (by omega) (by omega) (by omega) (by omega) (by omega) (by omega) (by omega) (by omega) (by omega)]; exact d6c
    · obtain ⟨b1, b2⟩ := d7 E hE
      refine ⟨bu_D_c b1 (rl_m_id T) (r0 _ _ (by omega)) (fun j => ?_) (fun j => ?_), b2⟩
      all_goals exact fJ _ _ (by omega) (by omega) (by omega) (by omega) (by omega) (by omega) (by omega) (by omega) (by omega)
  have z0 : (0 : Int32).toInt = 0 := rfl
  obtain ⟨k1, k2, k3⟩ := hh.2
  refine ⟨0, lk, m, v, tb, Cs, C, P, S, m0, x, sq, Dd, Cd, a2, b2, g2, nx2, fi2, sg2, on2, tw2, V, cp, z, Rl_A_Z.mpr ⟨Rl_Z_R (Rl_Z_fr hZ (fun c j w => ?_) fL) r0, rl_t_0 e1 e2, rl_w_c hw ?_ ?_ (fun j => ?_) (fun j => ?_), rl_k_c hk ?_ ?_, ⟨⟨by rw [e3]; decide, by rw [e3, e4], fun t ht => by rw [e4] at ht; omega⟩, ?_⟩⟩, Rl_B_R (Rl_B_fr hB hZ.1.2.2.1 hZ.2.2.1 (fun c j w => ?_) fL) hZ.1.2.2.1 hZ.2.2.1.1 r0 r13, hd2, by omega, by omega, by omega⟩
  case refine_8 =>
    have q : ∀ c j, c = 333 ∨ c = 338 ∨ c = 505 ∨ (c = 460 ∧ j = 70) → J c j = I c j := fun c j w => fJ _ _ (by omega) (by omega) (by omega) (by omega) (by omega) (by omega) (by omega) (by omega) (by omega)
    refine ⟨by rw [q _ _ (by omega)]; exact k1, by rw [q _ _ (by omega), q _ _ (by omega)]; exact k2, fun t ht => ?_⟩
    rw [q 460 70 (by omega)] at ht
    rw [q 338 _ (by omega), q 505 _ (by omega)]
    exact k3 t ht
  all_goals exact fJ _ _ (by omega) (by omega) (by omega) (by omega) (by omega) (by omega) (by omega) (by omega) (by omega)
end RD
