/-! ===== the relation is kept: calls that only look ===== -/
theorem Rl_5 : wL_5 Rl := by
  intro T N I L R nc ns i hi h
  have h0 := h
  obtain ⟨n, lk, m, v, tb, Cs, C, P, S, m0, x, sq, Cd, Dd, a, b, g, nx, fi, sg, on, tw, V, cp, z, hA, hB, hD, hN⟩ := h
  obtain ⟨hF, hX, hO, ht, hw, hk, hh, hu, hg⟩ := hA
  refine ⟨hF.2.2.1, hF.1, by rw [hw.1, hw.2.1], (hB.2.2 0 (by omega)).2.2.2.2.1.1, (hB.2.2 1 (by omega)).2.2.2.2.1.1, Rl_th h0, fun y => Rl_an h0⟩
theorem Rl_17 : wL_17 Rl := by
  intro T N I L R nc ns i hi h
  have h0 := h
  obtain ⟨n, lk, m, v, tb, Cs, C, P, S, m0, x, sq, Cd, Dd, a, b, g, nx, fi, sg, on, tw, V, cp, z, hA, hB, hD, hN⟩ := h
  obtain ⟨hF, hX, hO, ht, hw, hk, hh, hu, hg⟩ := hA
  obtain ⟨d1, ⟨d2, d3⟩, d4, d5, d6, d7, d8, d9, d10⟩ := hD
  refine ⟨hF.2.2.1, hF.1, ⟨Cd, d2, (hF.2.2.2.2.2.2.2.2.2.1 Cd (by omega)).1, by rw [d5.1, d6.1], by rw [d5.2.1, d6.2.1], by rw [d5.2.2.1, d6.2.2.1], fun k hk => by rw [d5.2.2.2.2.1 k hk, d6.2.2.2.2.1 k hk]⟩, Rl_th h0, fun y => Rl_an h0⟩
theorem Rl_23 : wL_23 Rl := by
  intro T N I L R nc ns i hi h
  have h0 := h
  obtain ⟨n, lk, m, v, tb, Cs, C, P, S, m0, x, sq, Cd, Dd, a, b, g, nx, fi, sg, on, tw, V, cp, z, hA, hB, hD, hN⟩ := h
  obtain ⟨hF, hX, hO, ht, hw, hk, hh, hu, hg⟩ := hA
  refine ⟨hF.2.2.1, hF.1, hF.2.2.2.2.2.2.2.2.2.2.1, hh.1.1, hh.1.2.1, hh.1.2.2, Rl_th h0, Rl_th h0, Rl_fr h0 (fun c j w => (wv_u_no _ _ (by unfold rl_di at w; omega)).trans (wv_u_no _ _ (by unfold rl_di at w; omega))) (rl_fL_id L) (by omega) (by omega) (by omega), fun y => Rl_an h0⟩
theorem Rl_25 : wL_25 Rl := by
  intro T N I L R nc ns i hi h
  have h0 := h
  obtain ⟨n, lk, m, v, tb, Cs, C, P, S, m0, x, sq, Cd, Dd, a, b, g, nx, fi, sg, on, tw, V, cp, z, hA, hB, hD, hN⟩ := h
  obtain ⟨hF, hX, hO, ht, hw, hk, hh, hu, hg⟩ := hA
  exact ⟨hF.2.2.1, hF.1, hF.2.2.2.2.2.2.2.2.2.2.2, hh.2.1, hh.2.2.1, hh.2.2.2, Rl_th h0, Rl_th h0, fun y => Rl_an h0⟩
theorem Rl_6 : wL_6 Rl := by
  intro T N I L R nc ns i hi h
  have h0 := h
  obtain ⟨n, lk, m, v, tb, Cs, C, P, S, m0, x, sq, Cd, Dd, a, b, g, nx, fi, sg, on, tw, V, cp, z, hA, hB, hD, hN⟩ := h
  obtain ⟨hF, hX, hO, ht, hw, hk, hh, hu, hg⟩ := hA
  refine ⟨m, v, C, P, S, m0, x, sq, hF.2.2.1, ⟨hF.1, ⟨0, hF.2.2.2.2.2.1⟩, hw.1, hw.2.2.1, fun k hk => ⟨(hw.2.2.2 k hk).1, (hw.2.2.2 k hk).2.2⟩, fun p hp => ?_⟩, ⟨hF.1, hw.2.1, hw.2.2.1, fun k hk => (hw.2.2.2 k hk).2, fun p hp => ?_⟩, fun p hp => ?_, Rl_th h0, Rl_th h0, fun I2 f f0 => ?_, fun I2 L2 f f0 fl => ?_⟩
  · obtain ⟨p1, p2, p3, p4, p5, p6, p7⟩ := hB.2.2 p hp
    exact ⟨p1, (hF.2.2.2.2.2.2.2.2.1 _ (rl_CC hB.1 hp).1).1, p3.2.1, p2.2.2.2.2.2.2.1⟩
  · obtain ⟨p1, p2, p3, p4, p5, p6, p7⟩ := hB.2.2 p hp
    exact ⟨p4, p2.2.1⟩
  · obtain ⟨p1, p2, p3, p4, p5, p6, p7⟩ := hB.2.2 p hp
    exact ⟨fun y hy => ⟨(p2.2.2.2.2.2.1 y hy).1, (p2.2.2.2.2.2.1 y hy).2.1⟩, (rb_Z p2).2⟩
  · exact Rl_fr h0 (fun c j w => f c j (by unfold rl_di at w; omega) (by unfold rl_di at w; omega) (by unfold rl_di at w; omega) (by unfold rl_di at w; omega)) (rl_fL_id L) (by omega) (by omega) (by omega)
  · exact Rl_fr h0 (fun c j w => f c j (by unfold rl_di at w; omega) (by unfold rl_di at w; omega) (by unfold rl_di at w; omega) (by unfold rl_di at w; omega)) (fun c j w => fl c j (by omega) (by omega) (by omega)) (by omega) (by omega) (by omega)
theorem Rl_7 : wL_7 Rl := Rl_6
/-- the end of a text is set back -/
theorem Rl_1 : wL_1 Rl := by
  intro T N I L R nc ns i hi h
  have h0 := h
  obtain ⟨n, lk, m, v, tb, Cs, C, P, S, m0, x, sq, Cd, Dd, a, b, g, nx, fi, sg, on, tw, V, cp, z, hA, hB, hD, n1, n2, n3⟩ := h
  obtain ⟨hZ, ht, hw, hk, hh⟩ := Rl_A_Z.mp hA
  obtain ⟨t1, t2, t3, t4⟩ := ht
  refine ⟨by rw [t1, t2], fun e => ⟨fun _ => Rl_th h0, fun he => ?_⟩⟩
  have en := wi_on (n := n) (by omega)
  rw [t2, wi_lt, wi_lt, wi_0, en] at he
  have ee : e = Int32.ofNat e.toNatClampNeg := by
    apply wi_eq.mpr
    rw [wi_on (by rw [wi_nat]; omega), wi_nat]
    omega
  have el : e.toNatClampNeg ≤ n := by rw [wi_nat]; omega
  generalize e.toNatClampNeg = k at ee el
  subst ee
  have fJ : ∀ c j, ¬ (c = 1 ∧ j = 6) → ¬ (c = 460 ∧ (j = 0 ∨ j = 2)) → (wv_u (wv_u (wv_u I 1 6 (Int32.ofNat k)) 460 0 0) 460 2 (Int32.ofNat k)) c j = I c j := fun c j w1 w2 => by
    rw [wv_u_no _ _ (by omega), wv_u_no _ _ (by omega), wv_u_no _ _ (by omega)]
  have j1 : (wv_u (wv_u (wv_u I 1 6 (Int32.ofNat k)) 460 0 0) 460 2 (Int32.ofNat k)) 1 6 = Int32.ofNat k := by rw [wv_u_no _ _ (by omega), wv_u_no _ _ (by omega), wv_u_at]
  have j2 : (wv_u (wv_u (wv_u I 1 6 (Int32.ofNat k)) 460 0 0) 460 2 (Int32.ofNat k)) 460 2 = Int32.ofNat k := wv_u_at _ _ _ _
  generalize wv_u (wv_u (wv_u I 1 6 (Int32.ofNat k)) 460 0 0) 460 2 (Int32.ofNat k) = J at fJ j1 j2
  refine ⟨k, lk, m, v, tb, Cs, C, P, S, m0, x, sq, Cd, Dd, a, b, g, nx, fi, sg, on, tw, V, cp, z, Rl_A_Z.mpr ⟨Rl_Z_fr hZ (fun c j w => fJ c j (by omega) (by omega)) (rl_fL_id L), ⟨j1, j2, by omega, fun k2 hk2 => by rw [fJ _ _ (by omega) (by omega), fJ _ _ (by omega) (by omega)]; exact t4 k2 (by omega)⟩, rl_w_c hw (fJ _ _ (by omega) (by omega)) (fJ _ _ (by omega) (by omega)) (fun j => fJ _ _ (by omega) (by omega)) (fun j => fJ _ _ (by omega) (by omega)), rl_k_c hk (fJ _ _ (by omega) (by omega)) (fJ _ _ (by omega) (by omega)), rl_h_c hh (fJ _ _ (by omega) (by omega)) (fJ _ _ (by omega) (by omega)) (fJ _ _ (by omega) (by omega)) (fJ _ _ (by omega) (by omega)) (fun c j c1 c2 => fJ _ _ (by omega) (by omega)) (fun j => fJ _ _ (by omega) (by omega)) (fun c j c1 c2 => fJ _ _ (by omega) (by omega))⟩, Rl_B_fr hB hZ.1.2.2.1 hZ.2.2.1 (fun c j w => fJ c j (by omega) (by omega)) (rl_fL_id L), rl_d_c hD (rl_m_id T) (Nat.le_refl _) (fun c j c1 c2 => fJ c j (by omega) (by omega)) (fJ _ _ (by omega) (by omega)) (fun j j1 j2 => fJ _ _ (by omega) (by omega)) (fun c j c1 c2 => fJ c j (by omega) (by omega)) (fun E j hE hV => fJ _ _ (by omega) (by omega)) ⟨rfl, rfl, rfl, rfl⟩, by omega, by omega, by omega⟩
