/-! ===== the relation is kept: a letter ===== -/
theorem Rl_lt {T : wv_T} {N : Nat} {I : rl_I} {L : rl_L} {R : rl_R} {n lk m : Nat} {v : Nat → Nat} {tb : Nat → Bool} {Cs : Nat} {C : Nat → Nat} {P : Nat → pd_P} {S : Nat → rn_N} {m0 x : Nat → Nat} {sq : Nat → List Nat} (hA : Rl_A T N I L R n lk m v tb) (hB : Rl_B T I L R tb m v Cs C P S m0 x sq) : lt2_A T I L R m v C P S m0 x sq := by
  obtain ⟨hF, hX, hO, ht, hw, hk, hh, hu, hg⟩ := hA
  refine ⟨⟨hF.2.2.1, hF.1, ⟨0, hF.2.2.2.2.2.1⟩, ⟨3, hF.2.2.2.2.2.2.1⟩, hF.2.2.2.2.2.2.2.1⟩, hw, fun p hp => ?_⟩
  obtain ⟨h1, h2, h3, h4, ⟨s1, s2, s3, s4, s5⟩, h6, h7⟩ := hB.2.2 p hp
  obtain ⟨c1, c2⟩ := rl_CC hB.1 hp
  have hsl := rb_sl h2 (k := I (C p + 1)) (fun i hi => ⟨(h3.1.2.2.2 i hi).1, (h3.1.2.2.2 i hi).2.1⟩)
  have hok := sc_R_ok h2.1
  refine ⟨⟨h1, c1, rl_scE hF hO.1 c1 h3 h2.2.2.2.2.2.2.1 hsl.1 hok.1 (by omega), hok.2, fun k hk => ⟨fun w => ?_, fun w => ?_⟩, s4⟩, fun k hk B hB => (rl_qB hO.1 c1 hk hB).1, h4, h2.2.1, h2.1, (rb_Z h2).1, s1, s2, s5⟩
  · have := (rl_qB hO.1 c1 hk w).1
    omega
  · have := (rl_qB hO.1 c1 hk w).1
    omega
theorem Rl_3 : wL_3 Rl := by
  intro T N I L R nc ns i hi h
  have h0 := h
  obtain ⟨n, lk, m, v, tb, Cs, C, P, S, m0, x, sq, Cd, Dd, a, b, g, nx, fi, sg, on, tw, V, cp, z, hA, hB, hD, n1, n2, n3⟩ := h
  refine ⟨m, v, C, P, S, m0, x, sq, Rl_lt hA hB, Rl_th h0, Rl_th h0, fun u I2 L2 hu hm hl2 fI f0 fL => ?_⟩
  obtain ⟨hZ, ht, hw, hk, hh⟩ := Rl_A_Z.mp hA
  have hO := hZ.2.2.1
  have fJ : ∀ c j, ¬ c = 341 → ¬ c = 345 → ¬ (c = 0 ∧ j = 16) → ¬ (469 ≤ c ∧ c ≤ 475) → ¬ (489 ≤ c ∧ c ≤ 491) → ¬ c = 495 → ¬ (c = 460 ∧ (j = 0 ∨ j = 32 ∨ (37 ≤ j ∧ j ≤ 39) ∨ j = 46 ∨ j = 49)) → I2 c j = I c j := fI
  have fM : ∀ c j, c < 343 ∨ (344 < c ∧ c < 460) ∨ 536 < c → L2 c j = L c j := fun c j w => fL c j (by omega) (by omega) (by omega) (by omega)
  have hB2 : Rl_B T I2 L2 R tb (m + 1) (mr_v v m u) Cs C P S m0 x sq := by
    refine ⟨hB.1, hB.2.1, fun p hp => ?_⟩
    obtain ⟨c1, c2⟩ := rl_CC hB.1 hp
    obtain ⟨h1, h2, h3, h4, h5, h6, h7⟩ := hB.2.2 p hp
    have c3 : 28 ≤ C p ∧ C p ≤ 346 ∧ ¬ (221 ≤ C p ∧ C p < 346) := by unfold rl_C at c1; omega
    obtain ⟨⟨q1, q2, q3, q4, q5, q6⟩, o1, k1, _, _, _, e1, e2, e3⟩ := hl2.2.2 p hp
    refine ⟨h1, h2, ⟨q3.2.1, q3.2.2.1.1, q3.2.2.2.1.1, q3.2.2.2.1.2⟩, k1, ⟨e1, e2, fun w => by omega, q6, e3⟩, rl_c_c h6 (fun c j w1 w2 => fJ c j (by omega) (by omega) (by omega) (by omega) (by omega) (by omega) (by omega)) (fun _ _ => rfl) (fun _ _ w => w) (fun k B j hk hB ht => ?_), rl_z_c h7 (fun c j w1 w2 => fJ c j (by omega) (by omega) (by omega) (by omega) (by omega) (by omega) (by omega))⟩
    obtain ⟨B2, b1, b2, _⟩ := hO.2.2.2.1.1 (C p + 76 + 5 * k) ⟨C p, k, c1, hk, rfl⟩
    rw [hB] at b1
    cases b1
    have := (b2 ht).2.1
    exact fJ _ _ (by omega) (by omega) (by omega) (by omega) (by omega) (by omega) (by omega)
  refine ⟨n, lk, m + 1, mr_v v m u, tb, Cs, C, P, S, m0, x, sq, Cd, Dd, a, b, g, nx, fi, sg, on, tw, V, cp, z, Rl_A_Z.mpr ⟨Rl_Z_w hZ (fun c j w => fJ c j (by omega) (by omega) (by omega) (by omega) (by omega) (by omega) (by omega)) (fun c j w => fM c j (by omega)), rl_t_c ht ?_ ?_ (fun j => ?_) (fun j => ?_), hl2.2.1, rl_k_c hk ?_ ?_, rl_h_c hh ?_ ?_ ?_ ?_ (fun c j c1 c2 => ?_) (fun j => ?_) (fun c j c1 c2 => ?_)⟩, hB2, rl_d_c hD (rl_m_id T) (Nat.le_refl _) (fun c j c1 c2 => ?_) ?_ (fun j j1 j2 => ?_) (fun c j c1 c2 => ?_) (fun E j hE hV => ?_) ⟨rfl, rfl, rfl, rfl⟩, by omega, by omega, by omega⟩
  all_goals exact fJ _ _ (by omega) (by omega) (by omega) (by omega) (by omega) (by omega) (by omega)
