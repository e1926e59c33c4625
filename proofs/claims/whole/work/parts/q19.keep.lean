/-! ===== the relation is kept: signs, letters, an empty word ===== -/
theorem rl_ef_w {N : Nat} {T : wv_T} {I J : rl_I} {L M : rl_L} {R : rl_R} {C : Nat} (hC : rl_C C) (hO : pq_O T N R) (fI : ∀ c j, C ≤ c → c < C + 76 → J c j = I c j) (fL : ∀ c j, (C ≤ c ∧ c < C + 76) ∨ 536 < c → M c j = L c j) : rl_ef N R R L M I J C := by
  refine ⟨fI, fun c j h1 h2 => fL c j (by omega), fun k hk => ⟨rfl, fun B j hB h _ => fL B j (by omega)⟩⟩
theorem Rl_Z_w {T : wv_T} {N : Nat} {I J : rl_I} {L M : rl_L} {R : rl_R} {tb : Nat → Bool} (h : Rl_Z T N I L R tb) (fI : ∀ c j, (c = 9 ∧ j = 11) ∨ (220 ≤ c ∧ c < 296) ∨ 536 < c → J c j = I c j) (fL : ∀ c j, (220 ≤ c ∧ c < 296) ∨ 536 < c → M c j = L c j) : Rl_Z T N J M R tb := by
  obtain ⟨h1, h2, h3, h4, g, h5, h6⟩ := h
  refine ⟨h1, rl_X_c h2 (rl_m_id T) (fun c j hc => fI c j (by omega)) (fun c j hc => fL c j (by omega)) (fun _ _ _ => rfl), h3, rl_e_c h4 (Nat.zero_le _) h1.2.2.1 (Or.inr (Or.inr (Or.inl rfl))) h3.1 (rl_m_id T) (rl_ef_w (Or.inr (Or.inr (Or.inl rfl))) h3.1 (fun c j c1 c2 => fI c j (by omega)) (fun c j w => fL c j (by omega))), g, by rw [fI _ _ (by omega)]; exact h5, h6⟩
/-- the text alone was touched -/
theorem Rl_tx {T : wv_T} {N : Nat} {I J : rl_I} {L M : rl_L} {R : rl_R} {nc ns i n lk m : Nat} {v : Nat → Nat} {tb : Nat → Bool} {Cs : Nat} {C : Nat → Nat} {P : Nat → pd_P} {S : Nat → rn_N} {m0 x : Nat → Nat} {sq : Nat → List Nat} {Cd Dd a b g : Nat} {nx : Nat → Nat} {fi : Nat → Bool} {sg on tw : Nat → Nat} {V cp : Nat → Nat} {z : Nat → List Nat} (hA : Rl_A T N I L R n lk m v tb) (hB : Rl_B T I L R tb m v Cs C P S m0 x sq) (hD : rl_d T N I R Cd Dd a b g nx fi sg on tw V cp z) (hN : rl_N N nc ns i n lk tb cp) (fJ : ∀ c j, ¬ (c = 1 ∧ j = 6) → ¬ c = 2 → ¬ c = 461 → ¬ (c = 460 ∧ (j = 0 ∨ j = 2)) → J c j = I c j) (fL : rl_fL L M) {k : Nat} (hk4 : k ≤ n + 4) (ht2 : rl_t k J) : Rl T N J M R nc ns (i + 4) := by
  obtain ⟨hZ, ht, hw, hk, hh⟩ := Rl_A_Z.mp hA
  obtain ⟨n1, n2, n3⟩ := hN
  exact ⟨k, lk, m, v, tb, Cs, C, P, S, m0, x, sq, Cd, Dd, a, b, g, nx, fi, sg, on, tw, V, cp, z, Rl_A_Z.mpr ⟨Rl_Z_fr hZ (fun c j w => fJ c j (by omega) (by omega) (by omega) (by omega)) fL, ht2, rl_w_c hw (fJ _ _ (by omega) (by omega) (by omega) (by omega)) (fJ _ _ (by omega) (by omega) (by omega) (by omega)) (fun j => fJ _ _ (by omega) (by omega) (by omega) (by omega)) (fun j => fJ _ _ (by omega) (by omega) (by omega) (by omega)), rl_k_c hk (fJ _ _ (by omega) (by omega) (by omega) (by omega)) (fJ _ _ (by omega) (by omega) (by omega) (by omega)), rl_h_c hh (fJ _ _ (by omega) (by omega) (by omega) (by omega)) (fJ _ _ (by omega) (by omega) (by omega) (by omega)) (fJ _ _ (by omega) (by omega) (by omega) (by omega)) (fJ _ _ (by omega) (by omega) (by omega) (by omega)) (fun c j c1 c2 => fJ _ _ (by omega) (by omega) (by omega) (by omega)) (fun j => fJ _ _ (by omega) (by omega) (by omega) (by omega)) (fun c j c1 c2 => fJ _ _ (by omega) (by omega) (by omega) (by omega))⟩, Rl_B_fr hB hZ.1.2.2.1 hZ.2.2.1 (fun c j w => fJ c j (by omega) (by omega) (by omega) (by omega)) fL, rl_d_c hD (rl_m_id T) (Nat.le_refl _) (fun c j c1 c2 => fJ c j (by omega) (by omega) (by omega) (by omega)) (fJ _ _ (by omega) (by omega) (by omega) (by omega)) (fun j j1 j2 => fJ _ _ (by omega) (by omega) (by omega) (by omega)) (fun c j c1 c2 => fJ c j (by omega) (by omega) (by omega) (by omega)) (fun E j hE hV => fJ _ _ (by omega) (by omega) (by omega) (by omega)) ⟨rfl, rfl, rfl, rfl⟩, by omega, by omega, by omega⟩
/-- the signs of a number -/
def wb_l (s : Int32) : Nat → List Int32
  | 0 => []
  | j + 1 => wb_l s j ++ (if wb s j = 0 then [] else [wb s j])
theorem wb_l_n (s : Int32) : ∀ j, (wb_l s j).length = wb_cnt s j
  | 0 => rfl
  | j + 1 => by
    show (wb_l s j ++ (if wb s j = 0 then [] else [wb s j])).length = wb_cnt s j + (if wb s j = 0 then 0 else 1)
    rw [List.length_append, wb_l_n s j]
    split <;> rfl
theorem wb_l_0 (s : Int32) : ∀ j x, x ∈ wb_l s j → ¬ x = 0
  | 0, x, h => absurd h (by simp [wb_l])
  | j + 1, x, h => by
    have h : x ∈ wb_l s j ++ (if wb s j = 0 then [] else [wb s j]) := h
    rcases List.mem_append.mp h with w | w
    · exact wb_l_0 s j x w
    · split at w
      · exact absurd w (by simp)
      · rename_i c
        rw [List.mem_singleton.mp w]
        exact c
theorem wb_ap_l {a k b n : Nat} {s : Int32} {I : rl_I} (hab : ¬ a = b) (hI : I a k = Int32.ofNat n) (hn : n ≤ 400) : ∀ j, j ≤ 4 → wb_ap a k b s I j a k = Int32.ofNat (n + (wb_l s j).length) ∧ (∀ t, t < n → wb_ap a k b s I j b t = I b t) ∧ ∀ t x, (wb_l s j)[t]? = some x → wb_ap a k b s I j b (n + t) = x
  | 0, _ => ⟨hI, fun _ _ => rfl, fun t x h => by cases t <;> cases h⟩
  | j + 1, hj => by
    obtain ⟨h1, h2, h3⟩ := wb_ap_l hab hI hn j (by omega)
    have hc : (wb_l s j).length ≤ 4 := by
      rw [wb_l_n]
      have := wb_cnt_le s j
      omega
    show (if wb s j = 0 then wb_ap a k b s I j else wv_u (wv_u (wb_ap a k b s I j) b (wb_ap a k b s I j a k).toNatClampNeg (wb s j)) a k (wb_ap a k b s I j a k + Int32.ofInt 1)) a k = Int32.ofNat (n + (wb_l s j ++ (if wb s j = 0 then [] else [wb s j])).length) ∧ (∀ t, t < n → (if wb s j = 0 then wb_ap a k b s I j else wv_u (wv_u (wb_ap a k b s I j) b (wb_ap a k b s I j a k).toNatClampNeg (wb s j)) a k (wb_ap a k b s I j a k + Int32.ofInt 1)) b t = I b t) ∧ ∀ t x, (wb_l s j ++ (if wb s j = 0 then [] else [wb s j]))[t]? = some x → (if wb s j = 0 then wb_ap a k b s I j else wv_u (wv_u (wb_ap a k b s I j) b (wb_ap a k b s I j a k).toNatClampNeg (wb s j)) a k (wb_ap a k b s I j a k + Int32.ofInt 1)) b (n + t) = x
    by_cases c : wb s j = 0
    · rw [if_pos c, if_pos c, List.append_nil]
      exact ⟨h1, h2, h3⟩
    · rw [if_neg c, if_neg c, h1, wi_onn (n := n + (wb_l s j).length) (by omega)]
      refine ⟨?_, fun t ht => ?_, fun t x hx => ?_⟩
      · rw [wv_u_at, List.length_append]
        exact wq_4s _
      · rw [wv_u_no _ _ (by omega), wv_u_no _ _ (by omega)]
        exact h2 t ht
      · rw [wv_u_no _ _ (by omega)]
        by_cases e : t < (wb_l s j).length
        · rw [List.getElem?_append_left e] at hx
          rw [wv_u_no _ _ (by omega)]
          exact h3 t x hx
        · have e2 : t = (wb_l s j).length := by
            have := (List.getElem?_eq_some_iff.mp hx).1
            rw [List.length_append] at this
            simp only [List.length_singleton] at this
            omega
          subst e2
          rw [List.getElem?_append_right (Nat.le_refl _), Nat.sub_self] at hx
          cases hx
          exact wv_u_at _ _ _ _
theorem Rl_0 : wL_0 Rl := by
  intro T N I L R nc ns i hi h
  have h0 := h
  obtain ⟨n, lk, m, v, tb, Cs, C, P, S, m0, x, sq, Cd, Dd, a, b, g, nx, fi, sg, on, tw, V, cp, z, hA, hB, hD, hN⟩ := h
  have hF := hA.1
  obtain ⟨t1, t2, t3, t4⟩ := hA.2.2.2.1
  have en := wi_on (n := n) (by omega)
  refine ⟨hF.2.2.1, hF.1, by rw [t1, t2], by rw [t2, en]; omega, by rw [t2, en]; omega, fun s => ⟨fun _ => Rl_th h0, fun _ _ => Rl_th h0, fun _ hs => ?_⟩⟩
  rw [t2, en, ← wb_l_n] at hs
  obtain ⟨a1, a2, a3⟩ := wb_ap_l (a := 1) (k := 6) (b := 2) (s := s) (by omega) t1 t3 4 (by omega)
  have e460 : (wv_u (wb_ap 1 6 2 s I 4) 460 0 0) 460 2 = Int32.ofNat n := by rw [wv_u_no _ _ (by omega), wb_ap_no (by omega) (by omega)]; exact t2
  obtain ⟨b1, b2, b3⟩ := wb_ap_l (a := 460) (k := 2) (b := 461) (s := s) (by omega) e460 t3 4 (by omega)
  refine Rl_tx hA hB hD hN (k := n + (wb_l s 4).length) (fun c j w1 w2 w3 w4 => ?_) rl_fL_u ?_ ⟨?_, b1, by omega, fun k hk => ?_⟩
  · by_cases c460 : c = 460
    · subst c460
      rw [wb_ap_k (by omega) (by omega), wv_u_no _ _ (by omega), wb_ap_no (by omega) (by omega)]
    · rw [wb_ap_no (by omega) (by omega), wv_u_no _ _ (by omega)]
      by_cases c1 : c = 1
      · subst c1
        rw [wb_ap_k (by omega) (by omega)]
      · rw [wb_ap_no (by omega) (by omega)]
  · rw [wb_l_n]
    have := wb_cnt_le s 4
    omega
  · rw [wb_ap_no (by omega) (by omega), wv_u_no _ _ (by omega)]
    exact a1
  · rw [wb_ap_no (c := 2) (by omega) (by omega), wv_u_no _ _ (by omega)]
    by_cases c : k < n
    · rw [a2 k c, b2 k c, wv_u_no _ _ (by omega), wb_ap_no (by omega) (by omega)]
      exact t4 k c
    · obtain ⟨y, hy⟩ : ∃ y, (wb_l s 4)[k - n]? = some y := ⟨_, List.getElem?_eq_getElem (by omega)⟩
      have y1 := a3 _ _ hy
      have y2 := b3 _ _ hy
      rw [show n + (k - n) = k by omega] at y1 y2
      rw [y1, y2]
      exact ⟨rfl, wb_l_0 s 4 y (List.mem_of_getElem? hy)⟩
/-- the word is emptied -/
theorem Rl_4 : wL_4 Rl := by
  intro T N I L R nc ns i hi h
  obtain ⟨n, lk, m, v, tb, Cs, C, P, S, m0, x, sq, Cd, Dd, a, b, g, nx, fi, sg, on, tw, V, cp, z, hA, hB, hD, n1, n2, n3⟩ := h
  refine ⟨hA.1.1, ?_⟩
  obtain ⟨hZ, ht, hw, hk, hh⟩ := Rl_A_Z.mp hA
  have fJ : ∀ c j, ¬ (c = 0 ∧ j = 16) → ¬ c = 345 → ¬ (c = 460 ∧ (j = 0 ∨ j = 46)) → ¬ c = 490 → (wc 460 46 490 (wv_u (wc 0 16 345 I) 460 0 (Int32.ofInt 0))) c j = I c j := fun c j w1 w2 w3 w4 => by
    unfold wc
    rw [wv_u_no _ _ (by omega), wv_u_no _ _ (by omega), wv_u_no _ _ (by omega), wv_u_no _ _ (by omega), wv_u_no _ _ (by omega), wv_u_no _ _ (by omega), wv_u_no _ _ (by omega)]
  have j0 : (wc 460 46 490 (wv_u (wc 0 16 345 I) 460 0 (Int32.ofInt 0))) 0 16 = 0 := by
    unfold wc
    rw [wv_u_no _ _ (by omega), wv_u_no _ _ (by omega), wv_u_no _ _ (by omega), wv_u_no _ _ (by omega), wv_u_no _ _ (by omega), wv_u_no _ _ (by omega), wv_u_at]
    rfl
  have j1 : (wc 460 46 490 (wv_u (wc 0 16 345 I) 460 0 (Int32.ofInt 0))) 460 46 = 0 := by
    unfold wc
    rw [wv_u_no _ _ (by omega), wv_u_no _ _ (by omega), wv_u_at]
    rfl
  have j2 : ∀ p, p < 2 → (wc 460 46 490 (wv_u (wc 0 16 345 I) 460 0 (Int32.ofInt 0))) 345 p = 0 ∧ (wc 460 46 490 (wv_u (wc 0 16 345 I) 460 0 (Int32.ofInt 0))) 490 p = 0 := fun p hp => by
    have e : p = 0 ∨ p = 1 := by omega
    unfold wc
    rcases e with rfl | rfl
    · constructor
      · rw [wv_u_no _ _ (by omega), wv_u_no _ _ (by omega), wv_u_no _ _ (by omega), wv_u_no _ _ (by omega), wv_u_no _ _ (by omega), wv_u_at]
        rfl
      · rw [wv_u_no _ _ (by omega), wv_u_at]
        rfl
    · constructor
      · rw [wv_u_no _ _ (by omega), wv_u_no _ _ (by omega), wv_u_no _ _ (by omega), wv_u_no _ _ (by omega), wv_u_at]
        rfl
      · rw [wv_u_at]
        rfl
  generalize wc 460 46 490 (wv_u (wc 0 16 345 I) 460 0 (Int32.ofInt 0)) = J at fJ j0 j1 j2
  have hB2 : Rl_B T J L R tb 0 v Cs C P S m0 x sq := by
    refine ⟨hB.1, hB.2.1, fun p hp => ?_⟩
    obtain ⟨c1, c2⟩ := rl_CC hB.1 hp
    obtain ⟨h1, h2, h3, h4, h5, h6, h7⟩ := hB.2.2 p hp
    have hO := hZ.2.2.1
    have c3 : 28 ≤ C p ∧ C p ≤ 346 ∧ ¬ (221 ≤ C p ∧ C p < 346) := by unfold rl_C at c1; omega
    refine ⟨h1, h2, rl_e_c h3 h2.2.2.2.2.2.2.1 hZ.1.2.2.1 c1 hO.1 (rl_m_id T) (rl_ef_s c1 hO.1 (fun c j w1 w2 => fJ c j (by omega) (by omega) (by omega) (by omega)) (rl_fL_id L)), kp_K_F h4 (fun c j w1 w2 => fJ c j (by omega) (by omega) (by omega) (by omega)), rl_s_0 (j2 p hp).1 (j2 p hp).2, rl_c_c h6 (fun c j w1 w2 => fJ c j (by omega) (by omega) (by omega) (by omega)) (fun _ _ => rfl) (fun _ _ w => w) (fun k B j hk hB ht => ?_), rl_z_c h7 (fun c j w1 w2 => fJ c j (by omega) (by omega) (by omega) (by omega))⟩
    obtain ⟨B2, b1, b2, _⟩ := hO.2.2.2.1.1 (C p + 76 + 5 * k) ⟨C p, k, c1, hk, rfl⟩
    rw [hB] at b1
    cases b1
    exact fJ _ _ (by have := (b2 ht).2.1; omega) (by have := (b2 ht).2.1; omega) (by have := (b2 ht).2.1; omega) (by have := (b2 ht).2.1; omega)
  exact ⟨n, lk, 0, v, tb, Cs, C, P, S, m0, x, sq, Cd, Dd, a, b, g, nx, fi, sg, on, tw, V, cp, z, Rl_A_Z.mpr ⟨Rl_Z_fr hZ (fun c j w => fJ c j (by omega) (by omega) (by omega) (by omega)) (rl_fL_id L), rl_t_c ht (fJ _ _ (by omega) (by omega) (by omega) (by omega)) (fJ _ _ (by omega) (by omega) (by omega) (by omega)) (fun j => fJ _ _ (by omega) (by omega) (by omega) (by omega)) (fun j => fJ _ _ (by omega) (by omega) (by omega) (by omega)), rl_w_0 j0 j1, rl_k_c hk (fJ _ _ (by omega) (by omega) (by omega) (by omega)) (fJ _ _ (by omega) (by omega) (by omega) (by omega)), rl_h_c hh (fJ _ _ (by omega) (by omega) (by omega) (by omega)) (fJ _ _ (by omega) (by omega) (by omega) (by omega)) (fJ _ _ (by omega) (by omega) (by omega) (by omega)) (fJ _ _ (by omega) (by omega) (by omega) (by omega)) (fun c j c1 c2 => fJ _ _ (by omega) (by omega) (by omega) (by omega)) (fun j => fJ _ _ (by omega) (by omega) (by omega) (by omega)) (fun c j c1 c2 => fJ _ _ (by omega) (by omega) (by omega) (by omega))⟩, hB2, rl_d_c hD (rl_m_id T) (Nat.le_refl _) (fun c j c1 c2 => fJ c j (by omega) (by omega) (by omega) (by omega)) (fJ _ _ (by omega) (by omega) (by omega) (by omega)) (fun j j1 j2 => fJ _ _ (by omega) (by omega) (by omega) (by omega)) (fun c j c1 c2 => fJ c j (by omega) (by omega) (by omega) (by omega)) (fun E j hE hV => fJ _ _ (by omega) (by omega) (by omega) (by omega)) ⟨rfl, rfl, rfl, rfl⟩, by omega, by omega, by omega⟩
