/-! ===== the relation is kept: hunts ===== -/
theorem rl_W {T : wv_T} {I : rl_I} {L : rl_L} {R : rl_R} {C : Nat} {P : pd_P} {S : rn_N} {sq : List Nat} {m0 x : Nat} (hS : rb_S P S m0 x sq) (h : rl_e T I L R C P S sq) : I C 9 = Int32.ofNat sq.length ∧ sq.length ≤ 67 ∧ (∀ k, k < sq.length → I (C + 9 + k) 2 = Int32.ofNat (rn_w S (sq.getD k 0)) ∧ rn_w S (sq.getD k 0) < 2147483648) ∧ (fw S = true ↔ cf_s sq.length (fun k => rn_w S (sq.getD k 0)) sq.length) := by
  have gd : ∀ k, k < sq.length → sq[k]? = some (sq.getD k 0) := fun k hk => by
    rw [List.getD_eq_getElem?_getD, List.getElem?_eq_getElem hk]
    rfl
  refine ⟨h.2.1.1, hS.2.2.2.2.2.2.1, fun k hk => ?_, ?_⟩
  · obtain ⟨y1, g, hq, _⟩ := h.2.1.2.1 k _ (gd k hk)
    have := hS.2.1.2.2.2.1.2.2 _ y1
    exact ⟨hq.2.2.1, by omega⟩
  · rw [rb_fw hS]
    unfold cf_s
    refine ⟨fun ⟨a, b⟩ => ⟨a, fun j hj => b _ (List.mem_of_getElem? (gd j hj))⟩, fun ⟨a, b⟩ => ⟨a, fun y hy => ?_⟩⟩
    obtain ⟨k, hk, e⟩ := List.getElem_of_mem hy
    have : rn_w S (sq.getD k 0) ≤ 6 := b k hk
    rw [List.getD_eq_getElem?_getD, List.getElem?_eq_getElem hk] at this
    rw [← e]
    exact this
theorem rl_ok_t : sc_ok rl_Pt := by
  refine ⟨fun p q _ h => ?_, fun p s q _ _ h => ?_⟩
  · rcases h with ⟨_, h⟩ | ⟨h, _⟩
    · have h : (2 ≤ 0 ∧ 0 ≤ 5) ∨ 0 = 7 ∨ 0 = 8 ∨ 0 = 10 := h
      omega
    · have h : 0 = 10 := h
      omega
  · rcases h with ⟨_, h⟩ | ⟨h, _⟩
    · have h : (2 ≤ 0 ∧ 0 ≤ 5) ∨ 0 = 7 ∨ 0 = 8 ∨ 0 = 10 := h
      omega
    · have h : 0 = 10 := h
      omega
theorem rl_x_t (v : Nat → Nat) (l : Nat) : ¬ hw_X rl_Pt v l := tq_true (fun _ _ => rfl) (fun _ _ _ => rfl) v l
theorem rl_e_t {T : wv_T} {I : rl_I} {L : rl_L} {R : rl_R} (h : rl_e T I L R 220 rl_Pt rn_0 []) : hu_e 220 rl_Pt I = 2 := by
  have e : I (220 + 1) 0 = 0 := (h.1.2.2.2 0 (by show 0 < 1; omega)).1
  show 2 * 1 + (if I (220 + 1) 0 = Int32.ofInt 1 then 24 else 0) = 2
  rw [e, if_neg (by decide)]
/-- what a hunt is given -/
theorem rl_hup {T : wv_T} {N : Nat} {J : rl_I} {L : rl_L} {R : rl_R} {tb : Nat → Bool} {H C C1 C2 B0 l0 : Nat} {P1 P2 : pd_P} {S1 S2 : rn_N} {q1 q2 : List Nat} {a b g : Nat} {nx : Nat → Nat} {fi : Nat → Bool} {sg on tw : Nat → Nat} (hF : rl_F T R) (hO : rl_O T N R tb) (hN : N < 100000) (hH : H = 325 ∨ H = 333) (hC : C = 316 ∨ C = 442 ∨ C = 451) (h1 : rl_C C1) (h2 : rl_C C2) (e1 : rl_e T J L R C1 P1 S1 q1) (e2 : rl_e T J L R C2 P2 S2 q2) (l1 : q1.length ≤ 67) (l2 : q2.length ≤ 67) (o1 : sc_ok P1) (o2 : sc_ok P2) (u1 : hu_e C1 P1 J ≤ 1918 ∧ 0 < hu_e C1 P1 J) (u2 : hu_e C2 P2 J ≤ 1918 ∧ 0 < hu_e C2 P2 J) (hV : dz_V a b g nx fi sg on tw) (hn : tw_N C a b g nx fi sg on tw J) (h6 : J (C + 6) 0 = 0) (r1 : R H 7 = some B0) (r2 : T B0 = some (.inr (1, l0))) (r3 : l0 < 100000) (r4 : 0 < l0 → 536 < B0 ∧ B0 < N ∧ ∀ Q, pq_q Q → ¬ R Q 0 = some B0) : hu_p H B0 l0 C C1 P1 S1 q1 C2 P2 S2 q2 a b g nx fi sg on tw T N J L R := by
  have hw : wh_H T R H := by
    rcases hH with rfl | rfl
    · exact hF.2.2.2.2.2.2.2.2.2.2.1
    · exact hF.2.2.2.2.2.2.2.2.2.2.2
  have n5 := hO.2.2.2.2
  have sch : ∀ C, rl_C C → 0 < l0 → sc_h R C B0 := fun C hC hl => by
    obtain ⟨x1, x2, x3⟩ := r4 hl
    refine ⟨by unfold rl_C at hC; omega, by unfold rl_C at hC; omega, fun k hk => ⟨by unfold rl_C at hC; omega, x3 _ ⟨C, k, hC, hk, rfl⟩⟩⟩
  have nn : ∀ C, rl_C C → ∀ k, k < 67 → ∀ B, R (C + 9 + k) 0 = some B → ¬ T B = none := fun C hC k hk B hB => by
    obtain ⟨_, len, hl, _⟩ := rl_qB hO.1 hC hk hB
    rw [hl]
    exact fun z => by cases z
  refine ⟨⟨hw, r1, r2, r3, by omega, by omega, by omega⟩, ⟨⟨343, 0, 1918, rl_scE hF hO.1 h1 e1 l1 u1.1 o1 (Or.inl rfl)⟩, ⟨343, 0, 1918, rl_scE hF hO.1 h2 e2 l2 u2.1 o2 (Or.inl rfl)⟩, u1.1, u2.1, u1.2, u2.2⟩, ⟨(hF.2.2.2.2.2.2.2.2.2.1 C hC).1, by omega, hV, hn, h6⟩, by omega, ⟨by unfold rl_C at h1; omega, by unfold rl_C at h1; omega⟩, ⟨by unfold rl_C at h2; omega, by unfold rl_C at h2; omega⟩, fun hl => ⟨by have := r4 hl; omega, sch C1 h1 hl, sch C2 h2 hl⟩, ⟨by unfold rl_C at h1; omega, nn C1 h1⟩, by unfold rl_C at h2; omega, nn C2 h2⟩
/-- rows of a hunt that were made, or stood there -/
theorem rl_O_h {T T1 : wv_T} {N N1 : Nat} {R R1 : rl_R} {tb : Nat → Bool} {H B0 l0 B len n1 s1 : Nat} (h : rl_O T N R tb) (hH : H = 325 ∨ H = 333) (r1 : R H 7 = some B0) (r2 : T B0 = some (.inr (1, l0))) (r4 : 0 < l0 → 536 < B0 ∧ B0 < N ∧ ∀ Q, pq_q Q → ¬ R Q 0 = some B0) (hA : hu_A H B0 B len T N R T1 N1 R1 n1 s1) (tB : T1 B = some (.inr (1, len))) (hl : 0 < len) (hl2 : len < 100000) : rl_O T1 N1 R1 tb ∧ rl_m T T1 ∧ N ≤ N1 ∧ (∀ c j, c < N → ¬ (c = H ∧ j = 7) → R1 c j = R c j) ∧ (∀ c j, 1099511627776 ≤ c → N < 1099511627776 → R1 c j = R c j) ∧ 536 < B ∧ B < N1 ∧ (∀ Q, pq_q Q → ¬ R Q 0 = some B) ∧ N1 = N + n1 ∧ n1 ≤ 1 ∧ (n1 = 1 → B = N ∧ T N = none) := by
  have n5 := h.2.2.2.2
  rcases hA with ⟨rfl, rfl, rfl, rfl, rfl, rfl⟩ | ⟨rfl, hN, rfl, rfl, rfl, rfl, _⟩
  · rw [r2] at tB
    cases tB
    obtain ⟨x1, x2, x3⟩ := r4 hl
    exact ⟨h, rl_m_id T1, Nat.le_refl _, fun _ _ _ _ => rfl, fun _ _ _ _ => rfl, x1, x2, x3, rfl, by omega, fun w => by omega⟩
  · have hT : rl_m T (wv_n T B (.inr (1, len))) := fun y v e => by
      unfold wv_n
      rw [if_neg (fun z => by rw [z, hN] at e; cases e)]
      exact e
    have fR : ∀ c j, c < B → ¬ (c = H ∧ j = 7) → (wv_u (wv_z R B none) H 7 (some B)) c j = R c j := fun c j w1 w2 => by
      rw [wv_u_no _ _ w2]
      exact if_neg (by omega)
    have nQ : ∀ Q, pq_q Q → ¬ R Q 0 = some B := fun Q hQ hB => by
      obtain ⟨C, k, hC, hk, rfl⟩ := hQ
      obtain ⟨_, len, hl, _⟩ := rl_qB h.1 hC hk hB
      rw [hN] at hl
      cases hl
    have hq : ∀ Q, pq_q Q → (wv_u (wv_z R B none) H 7 (some B)) Q 0 = R Q 0 := fun Q hQ => fR Q 0 (by have := pq_q_0 hQ; omega) (by omega)
    have new : rl_r (wv_n T B (.inr (1, len))) (B + 1) (wv_u (wv_z R B none) H 7 (some B)) H := ⟨B, len, wv_u_at _ _ _ _, if_pos rfl, hl2, fun _ => ⟨n5, by omega, fun Q hQ => by rw [hq Q hQ]; exact nQ Q hQ⟩⟩
    refine ⟨⟨rl_pO_g h.1 hT (by omega) hq, ?_, ?_, rl_T_g h.2.2.2.1 hT (by omega) (fun E hE => fR _ _ (by have := (rl_E_in hE).2.2; omega) (by omega)), by omega⟩, hT, by omega, fR, fun c j w1 w2 => ?_, n5, by omega, nQ, rfl, by omega, fun _ => ⟨rfl, hN⟩⟩
    · by_cases e : H = 325
      · subst e; exact new
      · exact rl_r_g h.2.1 hT (by omega) (fR _ _ (by omega) (by omega)) hq
    · by_cases e : H = 333
      · subst e; exact new
      · exact rl_r_g h.2.2.1 hT (by omega) (fR _ _ (by omega) (by omega)) hq
    · rw [wv_u_no _ _ (by omega)]
      exact if_neg (by omega)
/-- a hunt is over -/
theorem Rl_hunt {T T1 : wv_T} {N N1 : Nat} {I J : rl_I} {L M : rl_L} {R R1 : rl_R} {nc ns i n lk m : Nat} {v : Nat → Nat} {tb : Nat → Bool} {Cs : Nat} {C : Nat → Nat} {P : Nat → pd_P} {S : Nat → rn_N} {m0 x : Nat → Nat} {sq : Nat → List Nat} {Cd Dd a b g : Nat} {nx : Nat → Nat} {fi : Nat → Bool} {sg on tw : Nat → Nat} {V cp : Nat → Nat} {z : Nat → List Nat} {H B0 l0 B len n1 s1 : Nat} (hA : Rl_A T N I L R n lk m v tb) (hB : Rl_B T I L R tb m v Cs C P S m0 x sq) (hD : rl_d T N I R Cd Dd a b g nx fi sg on tw V cp z) (hN : rl_N N nc ns i n lk tb cp) (hNb : N < 100000) (hH : H = 325 ∨ H = 333) (r1 : R H 7 = some B0) (r2 : T B0 = some (.inr (1, l0))) (r4 : 0 < l0 → 536 < B0 ∧ B0 < N ∧ ∀ Q, pq_q Q → ¬ R Q 0 = some B0) (hu : hu_A H B0 B len T N R T1 N1 R1 n1 s1) (tB : T1 B = some (.inr (1, len))) (hl : 0 < len) (hl2 : len < 100000) (hs1 : s1 ≤ 49868) (fJ : ∀ c j, ¬ (325 ≤ c ∧ c ≤ 340) → ¬ (c = 0 ∧ j = 17) → ¬ (316 ≤ c ∧ c ≤ 322) → ¬ c = 448 → ¬ c = 457 → (c = N → n1 = 0) → ¬ (c = 460 ∧ (j = 0 ∨ j = 32 ∨ (37 ≤ j ∧ j ≤ 39) ∨ j = 49 ∨ j = 65 ∨ j = 66 ∨ j = 70)) → ¬ (469 ≤ c ∧ c ≤ 475) → ¬ c = 491 → ¬ c = 495 → ¬ (501 ≤ c ∧ c ≤ 505) → J c j = I c j) (fM : ∀ c j, ¬ c = B → ¬ c = 536 → ¬ (492 ≤ c ∧ c ≤ 494) → ¬ c = 460 → (c = N → n1 = 0) → M c j = L c j) (z1 : J 322 0 = 0) (z2 : J 448 0 = 0) (z3 : J 457 0 = 0) (hh2 : rl_h J) (hk2 : rl_k (lk + 1) J) : Rl T1 N1 J M R1 (nc + n1) (ns + s1) (i + 4) := by
  obtain ⟨hZ, ht, hw, hk, hh⟩ := Rl_A_Z.mp hA
  obtain ⟨hY, hO⟩ := Rl_Z_Y.mp hZ
  obtain ⟨hO2, hT, hN1, fR, oR, b1, b2, nQ, eN, hn1, hnew⟩ := rl_O_h hO hH r1 r2 r4 hu tB hl hl2
  have hq : ∀ Q, pq_q Q → R1 Q 0 = R Q 0 := fun Q hQ => fR Q 0 (by have := pq_q_0 hQ; have := hO.2.2.2.2; omega) (by omega)
  have n5 := hO.2.2.2.2
  have h536 := hY.1.2.2.1
  have fS : ∀ Q B2 j, pq_q Q → R Q 0 = some B2 → 536 < B2 → B2 < N → M B2 j = L B2 j := fun Q B2 j hQ hB2 w1 w2 => fM B2 j (fun w => nQ Q hQ (by rw [← w]; exact hB2)) (by omega) (by omega) (by omega) (by omega)
  have fs : ∀ c j, c < 460 → ¬ (325 ≤ c ∧ c ≤ 340) → ¬ (c = 0 ∧ j = 17) → ¬ (316 ≤ c ∧ c ≤ 322) → ¬ c = 448 → ¬ c = 457 → J c j = I c j := fun c j w1 w2 w3 w4 w5 w6 => fJ c j w2 w3 w4 w5 w6 (by omega) (by omega) (by omega) (by omega) (by omega) (by omega)
  have fm : ∀ c j, 461 ≤ c → c < 536 → ¬ (469 ≤ c ∧ c ≤ 475) → ¬ c = 491 → ¬ c = 495 → ¬ (501 ≤ c ∧ c ≤ 505) → J c j = I c j := fun c j w1 w2 w3 w4 w5 w6 => fJ c j (by omega) (by omega) (by omega) (by omega) (by omega) (by omega) (by omega) w3 w4 w5 w6
  have f4 : ∀ j, ¬ (j = 0 ∨ j = 32 ∨ (37 ≤ j ∧ j ≤ 39) ∨ j = 49 ∨ j = 65 ∨ j = 66 ∨ j = 70) → J 460 j = I 460 j := fun j w => fJ 460 j (by omega) (by omega) (by omega) (by omega) (by omega) (by omega) (by omega) (by omega) (by omega) (by omega) (by omega)
  have fb : ∀ c j, 536 < c → c < N → J c j = I c j := fun c j w1 w2 => fJ c j (by omega) (by omega) (by omega) (by omega) (by omega) (by omega) (by omega) (by omega) (by omega) (by omega) (by omega)
  have hY2 : Rl_Y T1 J M R1 := Rl_Y_g hY hO.1 hT (fun c j w1 _ _ _ _ w6 _ => fR c j (by omega) (by omega)) hq (fun c j w => oR c j w (by omega)) (fun c j w => fJ c j (by omega) (by omega) (by omega) (by omega) (by omega) (by omega) (by omega) (by omega) (by omega) (by omega) (by omega)) (fun c j w => fM c j (by omega) (by omega) (by omega) (by omega) (by omega)) (fun c j w => fs c j (by omega) (by omega) (by omega) (by omega) (by omega) (by omega)) (fun c j w => fM c j (by omega) (by omega) (by omega) (by omega) (by omega)) fS
  have hB2 : Rl_B T1 J M R1 tb m v Cs C P S m0 x sq := by
    refine ⟨hB.1, by rw [fR _ _ (by omega) (by omega)]; exact hB.2.1, fun p hp => ?_⟩
    obtain ⟨e1, e2⟩ := rl_CC hB.1 hp
    have e3 : (28 ≤ C p ∧ C p ≤ 124) ∨ C p = 346 := by unfold rl_C at e1; omega
    refine rl_p_g (hB.2.2 p hp) hp e1 h536 hO hT (fR _ _ (by omega) (by omega)) hq (fun k hk => fR _ _ (by omega) (by omega)) (fun _ w => w) (fun c j w => ?_) (fun k B j hk hB ht hTB b1 b2 => fb B j b1 b2) (fun c j w => fM c j (by omega) (by omega) (by omega) (by omega) (by omega)) fS
    by_cases c4 : c < 460
    · exact fs c j c4 (by omega) (by omega) (by omega) (by omega) (by omega)
    · exact fm c j (by omega) (by omega) (by omega) (by omega) (by omega) (by omega)
  have hD2 : rl_d T1 N1 J R1 Cd Dd a b g nx fi sg on tw V cp z := by
    obtain ⟨d1, ⟨d2, d3⟩, d4, d5, d6, d7, d8, d9, d10⟩ := hD
    refine ⟨d1, ⟨by rw [fR _ _ (by omega) (by omega)]; exact d2, by rw [fR _ _ (by omega) (by omega)]; exact d3⟩, d4, tw_N_c d5 (fun j j1 j2 => fs _ _ (by omega) (by omega) (by omega) (by omega) (by omega) (by omega)) (fun c j w1 w2 => fs _ _ (by omega) (by omega) (by omega) (by omega) (by omega) (by omega)), tw_M_c d6 (fun j j1 j2 => f4 _ (by omega)) (fun c j w1 w2 => fm _ _ (by omega) (by omega) (by omega) (by omega) (by omega) (by omega)), ⟨z1, z2, z3⟩, fun E hE => ?_, d9, fun w => d10 (by rw [← fs Cd 7 (by omega) (by omega) (by omega) (by omega) (by omega) (by omega)]; exact w)⟩
    obtain ⟨q1, q2⟩ := d8 E hE
    refine ⟨bu_D_c q1 hT (fR _ _ (by omega) (by omega)) (fun j => fs _ _ (by omega) (by omega) (by omega) (by omega) (by omega) (by omega)) (fun j => ?_), by omega⟩
    rcases q2 with e | e
    · exact fs _ _ (by omega) (by omega) (by omega) (by omega) (by omega) (by omega)
    · exact fb _ _ e.1 e.2
  obtain ⟨m1, m2, m3⟩ := hN
  have hs2 : n1 = 0 → s1 = 0 := fun w => by
    rcases hu with ⟨_, _, _, _, _, e⟩ | ⟨_, _, _, _, _, e, _⟩
    · exact e
    · omega
  refine ⟨n, lk + 1, m, v, tb, Cs, C, P, S, m0, x, sq, Cd, Dd, a, b, g, nx, fi, sg, on, tw, V, cp, z, Rl_A_Z.mpr ⟨Rl_Z_Y.mpr ⟨hY2, hO2⟩, rl_t_c ht (fs _ _ (by omega) (by omega) (by omega) (by omega) (by omega) (by omega)) (f4 _ (by omega)) (fun j => fs _ _ (by omega) (by omega) (by omega) (by omega) (by omega) (by omega)) (fun j => fm _ _ (by omega) (by omega) (by omega) (by omega) (by omega) (by omega)), rl_w_c hw (fs _ _ (by omega) (by omega) (by omega) (by omega) (by omega) (by omega)) (f4 _ (by omega)) (fun j => fs _ _ (by omega) (by omega) (by omega) (by omega) (by omega) (by omega)) (fun j => fm _ _ (by omega) (by omega) (by omega) (by omega) (by omega) (by omega)), hk2, hh2⟩, hB2, hD2, by omega, by omega, by omega⟩
