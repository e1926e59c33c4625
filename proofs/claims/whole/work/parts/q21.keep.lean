/-! ===== the relation is kept: designs ===== -/
/-- the design alone was touched -/
theorem Rl_de {T : wv_T} {N : Nat} {I J : rl_I} {L M : rl_L} {R : rl_R} {nc ns i n lk m : Nat} {v : Nat → Nat} {tb : Nat → Bool} {Cs : Nat} {C : Nat → Nat} {P : Nat → pd_P} {S : Nat → rn_N} {m0 x : Nat → Nat} {sq : Nat → List Nat} {Cd Dd a b g : Nat} {nx : Nat → Nat} {fi : Nat → Bool} {sg on tw : Nat → Nat} {V cp : Nat → Nat} {z : Nat → List Nat} (hA : Rl_A T N I L R n lk m v tb) (hB : Rl_B T I L R tb m v Cs C P S m0 x sq) (hD : rl_d T N I R Cd Dd a b g nx fi sg on tw V cp z) (hN : rl_N N nc ns i n lk tb cp) (fJ : ∀ c j, ¬ (Cd ≤ c ∧ c ≤ Cd + 5) → ¬ (c = 325 ∧ j = 8) → ¬ (c = 460 ∧ (j = 0 ∨ (56 ≤ j ∧ j ≤ 58) ∨ j = 66)) → ¬ (496 ≤ c ∧ c ≤ 500) → J c j = I c j) (fL : rl_fL L M) {a2 b2 g2 : Nat} {nx2 : Nat → Nat} {fi2 : Nat → Bool} {sg2 on2 tw2 : Nat → Nat} (e1 : J 325 8 = 0) (e2 : J 460 66 = 0) (hV : dz_V a2 b2 g2 nx2 fi2 sg2 on2 tw2) (hn : tw_N Cd a2 b2 g2 nx2 fi2 sg2 on2 tw2 J) (hm : tw_M a2 b2 g2 nx2 fi2 sg2 on2 tw2 J) (h7 : J Cd 7 = 0) : Rl T N J M R nc ns (i + 4) := by
  obtain ⟨hZ, ht, hw, hk, hh⟩ := Rl_A_Z.mp hA
  obtain ⟨n1, n2, n3⟩ := hN
  obtain ⟨d1, d2, d3, d4, d5, ⟨d6, d6b, d6c⟩, d7, d8, d9⟩ := hD
  have hd2 : rl_d T N J R Cd Dd a2 b2 g2 nx2 fi2 sg2 on2 tw2 V cp z := by
    refine ⟨d1, d2, hV, hn, hm, ⟨by rw [fJ _ _ (by omega) (by omega) (by omega) (by omega)]; exact d6, by rw [fJ _ _ (by omega) (by omega) (by omega) (by omega)]; exact d6b, by rw [fJ _ _ (by omega) (by omega) (by omega) (by omega)]; exact d6c⟩, fun E hE => ?_, d8, fun w => (w h7).elim⟩
    obtain ⟨b1, b2⟩ := d7 E hE
    refine ⟨bu_D_c b1 (rl_m_id T) rfl (fun j => fJ _ _ (by omega) (by omega) (by omega) (by omega)) (fun j => fJ _ _ (by omega) (by omega) (by omega) (by omega)), b2⟩
  refine ⟨n, lk, m, v, tb, Cs, C, P, S, m0, x, sq, Cd, Dd, a2, b2, g2, nx2, fi2, sg2, on2, tw2, V, cp, z, Rl_A_Z.mpr ⟨Rl_Z_fr hZ (fun c j w => fJ c j (by omega) (by omega) (by omega) (by omega)) fL, rl_t_c ht ?_ ?_ (fun j => ?_) (fun j => ?_), rl_w_c hw ?_ ?_ (fun j => ?_) (fun j => ?_), rl_k_c hk ?_ ?_, ⟨⟨by rw [e1]; decide, by rw [e1, e2], fun t ht => ?_⟩, ?_⟩⟩, Rl_B_fr hB hZ.1.2.2.1 hZ.2.2.1 (fun c j w => fJ c j (by omega) (by omega) (by omega) (by omega)) fL, hd2, by omega, by omega, by omega⟩
  case refine_11 =>
    rw [e2] at ht
    have : (0 : Int32).toInt = 0 := rfl
    omega
  case refine_12 =>
    obtain ⟨h1, h2, h3⟩ := hh.2
    refine ⟨by rw [fJ _ _ (by omega) (by omega) (by omega) (by omega)]; exact h1, by rw [fJ _ _ (by omega) (by omega) (by omega) (by omega), fJ _ _ (by omega) (by omega) (by omega) (by omega)]; exact h2, fun t ht => ?_⟩
    rw [fJ _ _ (by omega) (by omega) (by omega) (by omega)] at ht
    rw [fJ _ _ (by omega) (by omega) (by omega) (by omega), fJ _ _ (by omega) (by omega) (by omega) (by omega)]
    exact h3 t ht
  all_goals exact fJ _ _ (by omega) (by omega) (by omega) (by omega)
theorem wg_l_at {j : Nat} {I : rl_I} : ∀ k, j < k → wg_l I k 498 j = Int32.ofInt 2 * (Int32.ofInt 1 + I 460 56 + Int32.ofNat j) ∧ wg_l I k 499 j = 0
  | 0, h => by omega
  | k + 1, h => by
    have e : wg_l I (k + 1) = wv_u (wv_u (wg_l I k) 498 k (Int32.ofInt 2 * (Int32.ofInt 1 + wg_l I k 460 56 + Int32.ofNat k))) 499 k (vp_nar .boolean (Int32.ofInt 0)) := rfl
    rw [e]
    by_cases c : j = k
    · subst c
      rw [wv_u_no _ _ (by omega), wv_u_at, wv_u_at, wg_l_no (by omega) (by omega)]
      exact ⟨rfl, rfl⟩
    · rw [wv_u_no _ _ (by omega), wv_u_no _ _ (by omega), wv_u_no _ _ (by omega), wv_u_no _ _ (by omega)]
      exact wg_l_at k (by omega)
theorem wg_s_at {r j : Nat} {I : rl_I} : ∀ k, j < k → wg_s r I k r j = Int32.ofInt 2
  | 0, h => by omega
  | k + 1, h => by
    have e : wg_s r I (k + 1) = wv_u (wg_s r I k) r k (Int32.ofInt 2) := rfl
    rw [e]
    by_cases c : j = k
    · subst c
      exact wv_u_at _ _ _ _
    · rw [wv_u_no _ _ (by omega)]
      exact wg_s_at k (by omega)
theorem wd_l_4 {C j : Nat} {I : rl_I} : ∀ k, j < k → wd_l C I k (C + 4) j = 0
  | 0, h => by omega
  | k + 1, h => by
    have e : wd_l C I (k + 1) = wv_u (wv_u (wd_l C I k) (C + 3) k (Int32.ofInt 2 * (Int32.ofInt 1 + wd_l C I k C 8 + Int32.ofNat k))) (C + 4) k (vp_nar .boolean (Int32.ofInt 0)) := rfl
    rw [e]
    by_cases c : j = k
    · subst c
      exact wv_u_at _ _ _ _
    · rw [wv_u_no _ _ (by omega), wv_u_no _ _ (by omega)]
      exact wd_l_4 k (by omega)
theorem rl_on {x : Int32} {k : Nat} (h0 : 0 ≤ x.toInt) (h1 : x.toInt < k) (hk : k ≤ 1000000) : ∃ n : Nat, x = Int32.ofNat n ∧ n < k := by
  refine ⟨x.toNatClampNeg, ?_, by rw [wi_nat]; omega⟩
  apply wi_eq.mpr
  rw [wi_on (by rw [wi_nat]; omega), wi_nat]
  omega
theorem Rl_18 : wL_18 Rl := by
  intro T N I L R nc ns i hi h
  have h0 := h
  obtain ⟨n, lk, m, v, tb, Cs, C, P, S, m0, x, sq, Cd, Dd, a, b, g, nx, fi, sg, on, tw, V, cp, z, hA, hB, hD, hN⟩ := h
  have hF := hA.1
  have hc : Cd = 442 ∨ Cd = 451 := by have := hD.1; omega
  refine ⟨hF.1, hF.2.2.2.2.2.2.2.2.2.2.1.1, Cd, hD.2.1.1, (hF.2.2.2.2.2.2.2.2.2.1 Cd (by omega)).1, by omega, Rl_th h0, fun x y hxy => ?_⟩
  unfold wg_bad at hxy
  rw [wi_lt, wi_lt, wi_lt, wi_lt, wi_0, show (Int32.ofInt 1).toInt = 1 from rfl, show (Int32.ofInt 3).toInt = 3 from rfl, show (Int32.ofInt 5).toInt = 5 from rfl] at hxy
  obtain ⟨A, rfl, hA4⟩ := rl_on (x := x) (k := 4) (by omega) (by omega) (by omega)
  obtain ⟨B, rfl, hB6⟩ := rl_on (x := y) (k := 6) (by omega) (by omega) (by omega)
  have eA := wi_on (n := A) (by omega)
  have eB := wi_onn (n := B) (by omega)
  rw [eA] at hxy
  have fW : ∀ c j, ¬ c = 325 → (wv_u (wd_new Cd (Int32.ofNat A) (Int32.ofNat B) I) 325 8 (Int32.ofInt 0)) c j = wd_new Cd (Int32.ofNat A) (Int32.ofNat B) I c j := fun c j w => wv_u_no _ _ (by omega)
  have f8 : (wv_u (wd_new Cd (Int32.ofNat A) (Int32.ofNat B) I) 325 8 (Int32.ofInt 0)) 325 8 = 0 := wv_u_at _ _ _ _
  have f9 : ∀ j, ¬ j = 8 → (wv_u (wd_new Cd (Int32.ofNat A) (Int32.ofNat B) I) 325 8 (Int32.ofInt 0)) 325 j = I 325 j := fun j w => (wv_u_no _ _ (by omega)).trans (wd_new_F _ _ (by omega))
  generalize wv_u (wd_new Cd (Int32.ofNat A) (Int32.ofNat B) I) 325 8 (Int32.ofInt 0) = X at fW f8 f9
  have g0 : ∀ c j, ¬ c = 460 → ¬ (498 ≤ c ∧ c ≤ 500) → wg_new (Int32.ofNat A) (Int32.ofNat B) X c j = X c j := fun c j w1 w2 => wg_new_no w1 (by omega) (by omega) (by omega)
  have g1 : ∀ j, ¬ (j = 0 ∨ (56 ≤ j ∧ j ≤ 58) ∨ j = 66) → wg_new (Int32.ofNat A) (Int32.ofNat B) X 460 j = X 460 j := fun j w => by
    unfold wg_new
    rw [wv_u_no _ _ (by omega), wg_s_no (by omega), wg_l_no (by omega) (by omega)]
    unfold wg_0
    rw [wv_u_no _ _ (by omega), wv_u_no _ _ (by omega), wv_u_no _ _ (by omega), wv_u_no _ _ (by omega)]
  have g56 : wg_0 (Int32.ofNat A) (Int32.ofNat B) X 460 56 = Int32.ofNat A := by
    unfold wg_0
    rw [wv_u_no _ _ (by omega), wv_u_no _ _ (by omega), wv_u_at]
  refine Rl_de hA hB hD hN (fun c j w1 w2 w3 w4 => ?_) (rl_fL_id L) (a2 := A) (b2 := B) (g2 := 0) (nx2 := fun i => 2 * (1 + A + i)) (fi2 := fun _ => false) (sg2 := fun _ => 2) (on2 := fun _ => 0) (tw2 := fun _ => 0) ?_ ?_ ?_ ?_ ?_ ?_
  · by_cases c4 : c = 460
    · subst c4
      rw [g1 _ (by omega), fW _ _ (by omega), wd_new_F _ _ (by omega)]
    · rw [g0 _ _ c4 (by omega)]
      by_cases c5 : c = 325
      · subst c5
        exact f9 j (by omega)
      · rw [fW _ _ c5, wd_new_F _ _ (by omega)]
  · rw [g0 _ _ (by omega) (by omega)]
    exact f8
  · exact wv_u_at _ _ _ _
  · exact ⟨by omega, by omega, by omega, by omega, fun i hi => by show 2 * (1 + A + i) < 2 * (1 + A + B + 0); omega, fun i hi => by show 2 < 2 * (1 + A + B + 0); omega, fun i hi => by omega⟩
  · have k8 := wd_new_8 (C := Cd) (a := Int32.ofNat A) (b := Int32.ofNat B) (I := I)
    refine ⟨?_, ?_, ?_, fun i hi => ⟨?_, ?_⟩, fun i hi => ?_, fun i hi => by omega⟩
    · rw [g0 _ _ (by omega) (by omega), fW _ _ (by omega)]
      exact k8.1
    · rw [g0 _ _ (by omega) (by omega), fW _ _ (by omega)]
      exact k8.2.1
    · rw [g0 _ _ (by omega) (by omega), fW _ _ (by omega)]
      exact k8.2.2
    · rw [g0 _ _ (by omega) (by omega), fW _ _ (by omega), wd_new_3 (by omega)]
      exact dg_2x (by omega)
    · rw [g0 _ _ (by omega) (by omega), fW _ _ (by omega)]
      unfold wd_new
      rw [wv_u_no _ _ (by omega), wg_f_no (by omega), eB]
      exact wd_l_4 _ hi
    · rw [g0 _ _ (by omega) (by omega), fW _ _ (by omega), wd_new_5 hi]
      rfl
  · refine ⟨?_, ?_, ?_, fun i hi => ?_, fun i hi => ?_, fun i hi => by omega⟩
    · unfold wg_new
      rw [wv_u_no _ _ (by omega), wg_s_no (by omega), wg_l_no (by omega) (by omega)]
      exact g56
    · unfold wg_new
      rw [wv_u_no _ _ (by omega), wg_s_no (by omega), wg_l_no (by omega) (by omega)]
      unfold wg_0
      rw [wv_u_no _ _ (by omega), wv_u_at]
    · unfold wg_new
      rw [wv_u_no _ _ (by omega), wg_s_no (by omega), wg_l_no (by omega) (by omega)]
      exact wv_u_at _ _ _ _
    · unfold wg_new
      rw [wv_u_no _ _ (by omega), wv_u_no _ _ (by omega), wg_s_no (by omega), wg_s_no (by omega), (wg_l_at 5 (by omega)).1, (wg_l_at 5 (by omega)).2, g56]
      exact ⟨dg_2x (by omega), rfl⟩
    · unfold wg_new
      rw [wv_u_no _ _ (by omega), wg_s_at 6 hi]
      rfl
  · rw [g0 _ _ (by omega) (by omega), fW _ _ (by omega)]
    unfold wd_new
    rw [wv_u_at]
    rfl
