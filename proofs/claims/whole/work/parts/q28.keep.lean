/-! ===== the relation is kept: read, the class's side ===== -/
theorem rl_e_r {N : Nat} {T T1 : wv_T} {I J : rl_I} {L M : rl_L} {R R1 : rl_R} {C : Nat} {P : pd_P} {S : rn_N} {sq : List Nat} (h : rl_e T I L R C P S sq) (hl : sq.length ≤ 67) (hC : rl_C C) (hO : pq_O T N R) (hT : rl_m T T1) (fI : ∀ c j, C ≤ c → c < C + 76 → J c j = I c j) (fL : ∀ c j, C ≤ c → c < C + 76 → M c j = L c j) (fR : ∀ k, k < 67 → R1 (C + 9 + k) 0 = R (C + 9 + k) 0) (fS : ∀ k B len j, k < 67 → R (C + 9 + k) 0 = some B → T B = some (.inr (1, len)) → 64 ≤ len → M B j = L B j) : rl_e T1 J M R1 C P S sq := by
  obtain ⟨⟨m1, m2, m3, m4⟩, ⟨s1, s2, s3⟩, h3, h4⟩ := h
  have e1 : J (C + 1) = I (C + 1) := funext fun j => fI _ j (by omega) (by omega)
  refine ⟨⟨by rw [fI _ _ (by omega) (by omega)]; exact m1, m2, m3, fun i hi => ?_⟩, ⟨by rw [fI _ _ (by omega) (by omega)]; exact s1, fun k y hk => ?_, s3⟩, fun i hi hk => by rw [fI _ _ (by omega) (by omega), e1]; exact h3 i hi hk, by rw [fI _ _ (by omega) (by omega), e1]; exact h4⟩
  · obtain ⟨a1, a2, a3, a4, a5, a6, a7, a8⟩ := m4 i hi
    exact ⟨by rw [e1]; exact a1, a2, by rw [fI _ _ (by omega) (by omega)]; exact a3, a4, by rw [fI _ _ (by omega) (by omega)]; exact a5, a6, fun u hu => by rw [fL _ _ (by omega) (by omega)]; exact a7 u hu, fun u hu => by rw [fL _ _ (by omega) (by omega)]; exact a8 u hu⟩
  · have hk6 : k < 67 := Nat.lt_of_lt_of_le (List.getElem?_eq_some_iff.mp hk).1 hl
    obtain ⟨y1, g, ⟨b1, b2, b3, b4, b5, b6, b7, b8, B, len, c1, c2, c3, c4⟩, y2⟩ := s2 k y hk
    exact ⟨y1, g, ⟨hT _ _ b1, by rw [fI _ _ (by omega) (by omega)]; exact b2, by rw [fI _ _ (by omega) (by omega)]; exact b3, by rw [fI _ _ (by omega) (by omega)]; exact b4, b5, b6, fun t ht => by rw [fL _ _ (by omega) (by omega)]; exact b7 t ht, fun t ht => by rw [fL _ _ (by omega) (by omega)]; exact b8 t ht, B, len, by rw [fR k hk6]; exact c1, hT _ _ c2, c3, fun s v t h1 h2 h3 h4 => by rw [fS k B len _ hk6 c1 c2 (by omega)]; exact c4 s v t h1 h2 h3 h4⟩, y2⟩
theorem rl_X_w {T T1 : wv_T} {I J : rl_I} {L M : rl_L} {R R1 : rl_R} (h : rl_X T I L R) (hT : rl_m T T1) (hI : ∀ c j, 1099511627776 ≤ c → ¬ T c = none → J c j = I c j) (hL : wt_LW T1 M) (hR : ∀ c j, 1099511627776 ≤ c → ¬ T c = none → R1 c j = R c j) : rl_X T1 J M R1 := by
  obtain ⟨h1, _, h4, h5, h6⟩ := h
  have sm : ∀ {c : Nat} {x : Nat ⊕ (Nat × Nat)}, T c = some x → ¬ T c = none := fun e z => by rw [z] at e; cases e
  refine ⟨fun i w e => ?_, hL, hT _ _ h4, hT _ _ h5, fun r hr => ?_⟩
  · obtain ⟨a1, a2, a3, a4, a5, a6⟩ := h1 i w e
    exact ⟨hT _ _ a1, by rw [hR _ _ (by omega) (sm a1)]; exact a2, by rw [hI _ _ (by omega) (sm a1)]; exact a3, hT _ _ a4, a5, fun k c hk => by rw [hI _ _ (by omega) (sm a4)]; exact a6 k c hk⟩
  · rw [hI _ _ (by omega) (sm h4), hI _ _ (by omega) (sm h5)]
    exact h6 r hr
/-- all but the text's own cells and the property that is being read stays when the class reads -/
theorem Rl_rd {T T1 : wv_T} {N N1 : Nat} {I I1 : rl_I} {L L1 : rl_L} {R R1 : rl_R} {c1 s1 n lk m : Nat} {v : Nat → Nat} {tb : Nat → Bool} {Cs : Nat} {C : Nat → Nat} {P : Nat → pd_P} {S : Nat → rn_N} {m0 x : Nat → Nat} {sq : Nat → List Nat} {Cd Dd a b g : Nat} {nx : Nat → Nat} {fi : Nat → Bool} {sg on tw : Nat → Nat} {V cp : Nat → Nat} {z : Nat → List Nat} (hA : Rl_A T N I L R n lk m v tb) (hB : Rl_B T I L R tb m v Cs C P S m0 x sq) (hD : rl_d T N I R Cd Dd a b g nx fi sg on tw V cp z) (h : lr_C T N I L R n Cs T1 N1 I1 L1 R1 c1 s1) : Rl_A T1 N1 I1 L1 R1 n lk m v tb ∧ Rl_B T1 I1 L1 R1 tb m v Cs C P S m0 x sq ∧ rl_d T1 N1 I1 R1 Cd Dd a b g nx fi sg on tw V cp z ∧ N1 = N + c1 ∧ s1 ≤ 2624 * c1 ∧ 3 * c1 ≤ n + 1 ∧ ∀ k, k < 4 → I1 (Cs + 76 + 5 * k) 8 = 0 := by
  obtain ⟨I2, L2, ⟨w1, w2⟩, ⟨t1, t2, t3, t4, t5, t6, t7, t8, t9⟩, ⟨i1, i2, i3, i4, i5⟩, h3⟩ := h
  obtain ⟨hF, hX, hO, ht, hw, hk, hh, hu, hg⟩ := hA
  obtain ⟨b1, b2, b3⟩ := hB
  have hA2 := hF.2.1
  have hCs := (rl_3C b1).2.2
  have cs : Cs = 28 ∨ Cs = 124 ∨ Cs = 346 := b1.2.2.1
  have sm : ∀ {c : Nat} {x : Nat ⊕ (Nat × Nat)}, T c = some x → ¬ T c = none := fun e z => by rw [z] at e; cases e
  have hT : rl_m T T1 := fun y v e => by rw [t7 y (sm e)]; exact e
  have gI : ∀ c j, ¬ T c = none → ¬ (c = 1 ∧ 7 ≤ j ∧ j ≤ 9) → ¬ (3 ≤ c ∧ c ≤ 6) → ¬ (9 ≤ c ∧ c ≤ 21) → ¬ (Cs ≤ c ∧ c < Cs + 96) → I1 c j = I c j := fun c j x1 x2 x3 x4 x5 => by
    rw [i1 c j x1 (by omega) x4 x5, w1 c j (by omega) x3]
  have gL : ∀ c j, ¬ T c = none → ¬ c = 7 → ¬ (9 ≤ c ∧ c ≤ 21) → ¬ (Cs ≤ c ∧ c < Cs + 96) → (∀ k, k < 67 → ¬ R (Cs + 9 + k) 0 = some c) → L1 c j = L c j := fun c j x1 x2 x3 x4 x5 => by
    rw [i2 c j x1 x3 x4 x5, w2 c j x2]
  have nlow : ∀ c k, c < 536 → k < 67 → ¬ R (Cs + 9 + k) 0 = some c := fun c k x1 x2 x3 => by
    have := (rl_qB hO.1 hCs x2 x3).1
    omega
  have fR : ∀ c j, c < 536 → ¬ (Cs + 9 ≤ c ∧ c < Cs + 76 ∧ j = 0) → R1 c j = R c j := fun c j x1 x2 => t8 c j (hA2 c x1) x2
  have fS : ∀ q, rl_C q → ¬ q = Cs → ∀ k B len j, k < 67 → R (q + 9 + k) 0 = some B → T B = some (.inr (1, len)) → 64 ≤ len → L1 B j = L B j := fun q hq hne k B len j hk hB hTB hlen => by
    have hlo := (rl_qB hO.1 hq hk hB).1
    obtain ⟨B2, len2, o, _, hd⟩ := hO.1 (q + 9 + k) ⟨q, k, hq, hk, rfl⟩
    have e1 := o.2.1
    rw [hB] at e1
    cases e1
    have e2 := o.2.2.1
    rw [hTB] at e2
    cases e2
    refine gL B j (sm hTB) (by omega) (by omega) (by omega) (fun k2 hk2 => hd _ ⟨Cs, k2, hCs, hk2, rfl⟩ ?_ (by omega))
    unfold rl_C at hq
    omega
  have hF1 : rl_F T1 R1 := rl_F_c hF hT (fun c j x1 x2 x3 x4 x5 x6 x7 => fR c j (by omega) (by omega))
  have hX1 : rl_X T1 I1 L1 R1 := rl_X_w hX hT (fun c j x1 x2 => gI c j x2 (by omega) (by omega) (by omega) (by omega)) i3 (fun c j x1 x2 => t8 c j x2 (by omega))
  have hr : ∀ H, (H = 325 ∨ H = 333) → rl_r T N R H → rl_r T1 N1 R1 H := fun H hH hr => by
    obtain ⟨B, l, r1, r2, r3, r4⟩ := hr
    refine ⟨B, l, by rw [fR _ _ (by omega) (by omega)]; exact r1, hT _ _ r2, r3, fun hl => ⟨(r4 hl).1, by have := (r4 hl).2.1; omega, fun Q hQ hQB => ?_⟩⟩
    have hQ0 := pq_q_0 hQ
    by_cases e : Cs + 9 ≤ Q ∧ Q < Cs + 76
    · have := t9 (Q - (Cs + 9)) (by omega) B (by rw [show Cs + 9 + (Q - (Cs + 9)) = Q by omega]; exact hQB)
      rw [show Cs + 9 + (Q - (Cs + 9)) = Q by omega] at this
      rcases this with y | y
      · exact (r4 hl).2.2 Q hQ y
      · exact sm r2 y
    · rw [fR Q 0 (by omega) (by omega)] at hQB
      exact (r4 hl).2.2 Q hQ hQB
  have hO1 : rl_O T1 N1 R1 tb := ⟨t4, hr 325 (Or.inl rfl) hO.2.1, hr 333 (Or.inr rfl) hO.2.2.1, rl_T_g hO.2.2.2.1 hT (by omega) (fun E hE => fR _ _ (by have := (rl_E_in hE).2.2; omega) (by omega)), by have := hO.2.2.2.2; omega⟩
  have lo : ∀ c j, c < 536 → ¬ (c = 1 ∧ 7 ≤ j ∧ j ≤ 9) → ¬ (3 ≤ c ∧ c ≤ 6) → ¬ (9 ≤ c ∧ c ≤ 21) → ¬ (Cs ≤ c ∧ c < Cs + 96) → I1 c j = I c j := fun c j x1 => gI c j (hA2 c x1)
  have ll : ∀ c j, c < 536 → ¬ c = 7 → ¬ (9 ≤ c ∧ c ≤ 21) → ¬ (Cs ≤ c ∧ c < Cs + 96) → L1 c j = L c j := fun c j x1 x2 x3 x4 => gL c j (hA2 c x1) x2 x3 x4 (fun k hk => nlow c k x1 hk)
  have he : ∀ q Pq Sq sqq, rl_C q → ¬ q = Cs → sqq.length ≤ 67 → rl_e T I L R q Pq Sq sqq → rl_e T1 I1 L1 R1 q Pq Sq sqq := fun q Pq Sq sqq hq hne hl hqe => by
    have q2 := hq
    unfold rl_C at q2
    exact rl_e_r hqe hl hq hO.1 hT (fun c j x1 x2 => lo c j (by omega) (by omega) (by omega) (by omega) (by omega)) (fun c j x1 x2 => ll c j (by omega) (by omega) (by omega) (by omega)) (fun k hk => fR _ _ (by omega) (by omega)) (fS q hq hne)
  refine ⟨Rl_A_Z.mpr ⟨Rl_Z_Y.mpr ⟨⟨hF1, hX1, he 220 _ _ _ (Or.inr (Or.inr (Or.inl rfl))) (by omega) (Nat.zero_le _) hu, i4⟩, hO1⟩, rl_t_c ht (lo _ _ (by omega) (by omega) (by omega) (by omega) (by omega)) (lo _ _ (by omega) (by omega) (by omega) (by omega) (by omega)) (fun j => lo _ _ (by omega) (by omega) (by omega) (by omega) (by omega)) (fun j => lo _ _ (by omega) (by omega) (by omega) (by omega) (by omega)), rl_w_c hw (lo _ _ (by omega) (by omega) (by omega) (by omega) (by omega)) (lo _ _ (by omega) (by omega) (by omega) (by omega) (by omega)) (fun j => lo _ _ (by omega) (by omega) (by omega) (by omega) (by omega)) (fun j => lo _ _ (by omega) (by omega) (by omega) (by omega) (by omega)), rl_k_c hk (lo _ _ (by omega) (by omega) (by omega) (by omega) (by omega)) (lo _ _ (by omega) (by omega) (by omega) (by omega) (by omega)), rl_h_c hh (lo _ _ (by omega) (by omega) (by omega) (by omega) (by omega)) (lo _ _ (by omega) (by omega) (by omega) (by omega) (by omega)) (lo _ _ (by omega) (by omega) (by omega) (by omega) (by omega)) (lo _ _ (by omega) (by omega) (by omega) (by omega) (by omega)) (fun c j c1 c2 => lo _ _ (by omega) (by omega) (by omega) (by omega) (by omega)) (fun j => lo _ _ (by omega) (by omega) (by omega) (by omega) (by omega)) (fun c j c1 c2 => lo _ _ (by omega) (by omega) (by omega) (by omega) (by omega))⟩, ⟨b1, by rw [fR _ _ (by omega) (by omega)]; exact b2, fun p hp => ?_⟩, ?_, t5, t6, h3, fun k hk => i5 k hk⟩
  · obtain ⟨p1, p2, p3, p4, p5, p6, p7⟩ := b3 p hp
    have e1 := (rl_CC b1 hp)
    have e2 : ¬ C p = Cs := by
      have e : p = 0 ∨ p = 1 := by omega
      unfold rl_3 at b1
      rcases e with rfl | rfl <;> omega
    have e3 : C p = 28 ∨ C p = 124 ∨ C p = 346 := by unfold rl_C at e1; omega
    refine ⟨by rw [fR _ _ (by omega) (by omega)]; exact p1, p2, he _ _ _ _ e1.1 e2 p2.2.2.2.2.2.2.1 p3, kp_K_F p4 (fun c j x1 x2 => lo c j (by omega) (by omega) (by omega) (by omega) (by omega)), rl_s_c p5 (lo _ _ (by omega) (by omega) (by omega) (by omega) (by omega)) (lo _ _ (by omega) (by omega) (by omega) (by omega) (by omega)) (fun j => lo _ _ (by omega) (by omega) (by omega) (by omega) (by omega)) (fun j => ll _ _ (by omega) (by omega) (by omega) (by omega)), rl_c_c p6 (fun c j x1 x2 => lo c j (by omega) (by omega) (by omega) (by omega) (by omega)) (fun k hk => fR _ _ (by omega) (by omega)) (fun _ _ w => w) (fun k B j hk hB ht => ?_), rl_z_c p7 (fun c j x1 x2 => lo c j (by omega) (by omega) (by omega) (by omega) (by omega))⟩
    obtain ⟨B2, y1, y2, _⟩ := hO.2.2.2.1.1 (C p + 76 + 5 * k) ⟨C p, k, e1.1, hk, rfl⟩
    rw [hB] at y1
    cases y1
    have := (y2 ht).2.1
    exact gI B j (sm (y2 ht).1) (by omega) (by omega) (by omega) (by omega)
  · refine rl_d_c hD hT (by omega) (fun c j x1 x2 => lo c j (by omega) (by omega) (by omega) (by omega) (by omega)) (lo _ _ (by omega) (by omega) (by omega) (by omega) (by omega)) (fun j x1 x2 => lo _ _ (by omega) (by omega) (by omega) (by omega) (by omega)) (fun c j x1 x2 => lo c j (by omega) (by omega) (by omega) (by omega) (by omega)) (fun E j hE hV => ?_) ⟨fR _ _ (by omega) (by omega), fR _ _ (by omega) (by omega), fR _ _ (by omega) (by omega), fR _ _ (by omega) (by omega)⟩
    have tV := (hD.2.2.2.2.2.2.1 E hE).1.1.2.2.2.1
    exact gI _ j (sm tV) (by omega) (by omega) (by omega) (by omega)
