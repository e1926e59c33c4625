/-! ===== the relation is kept: classes are built ===== -/
theorem rl_sk {α : Type} {Q : Nat → α → Prop} (h : ∀ p, p < 2 → ∃ a, Q p a) : ∃ f : Nat → α, ∀ p, p < 2 → Q p (f p) := by
  obtain ⟨a, ha⟩ := h 0 (by omega)
  obtain ⟨b, hb⟩ := h 1 (by omega)
  refine ⟨fun p => if p = 0 then a else b, fun p hp => ?_⟩
  have e : p = 0 ∨ p = 1 := by omega
  rcases e with rfl | rfl
  · exact ha
  · exact hb
/-- what a class of a light sequence is given -/
theorem rl_kc {T : wv_T} {N : Nat} {I : rl_I} {L : rl_L} {R : rl_R} {tb : Nat → Bool} {p m : Nat} {v : Nat → Nat} {C : Nat} {P : pd_P} {S : rn_N} {m0 x : Nat} {sq : List Nat} (hF : rl_F T R) (hO : rl_O T N R tb) (hN : N < 100000) (hC : rl_C C) (h : rl_p T I L R tb p m v C P S m0 x sq) {k y : Nat} (hk : k < 4) (hy : sq[k]? = some y) (h6 : rn_w S y ≤ 6) : ∃ g, I (C + 9 + k) 3 = Int32.ofNat g ∧ g < 64 ∧ kc_D T R (C + 76 + 5 * k) ∧ kc_Q T I L R (C + 76 + 5 * k) (C + 9 + k) (rn_t S y) (rn_w S y) g ∧ nt_n (rn_t S y) ≤ 6 ∧ kc_Sd C k (rn_t S y) g T N I R ∧ ni_A g (rn_t S y) := by
  obtain ⟨h1, h2, h3, h4, h5, hc, hz⟩ := h
  obtain ⟨y1, g, hq, hn⟩ := h3.2.1.2.1 k y hy
  have n5 := hO.2.2.2.2
  have ys := h2.2.2.2.2.2.1 y (List.mem_of_getElem? hy)
  have g3 := hq.2.2.2.1
  have g64 := hq.2.2.2.2.1
  refine ⟨g, g3, g64, (hF.2.2.2.2.2.2.2.2.1 C hC).2 k hk, ⟨hq, fun B2 hB2 => ?_⟩, ?_, ?_, hn⟩
  · have := (rl_qB hO.1 hC (by omega) hB2).1
    unfold rl_C at hC
    omega
  · obtain ⟨lo, hlo⟩ := h2.2.2.2.2.2.2.2.2.1
    exact (rb_y h2 hlo (List.ne_nil_of_mem (List.mem_of_getElem? hy)) y1 ys.2.1 h6).2.2.2.2
  · obtain ⟨B, b1, b2, b3⟩ := hO.2.2.2.1.1 (C + 76 + 5 * k) ⟨C, k, hC, hk, rfl⟩
    refine ⟨B, b1, by omega, by omega, ?_⟩
    have kB : tb (C + 76 + 5 * k) = true → kc_B T R (C + 76 + 5 * k) B := fun w => ⟨b1, (b2 w).1, by have := (b2 w).2.1; omega, by have := (b2 w).2.2; omega⟩
    rcases hc k hk with e | ⟨y2, B2, g2, a1, a2, a3, a4, a5⟩
    · cases ht : tb (C + 76 + 5 * k) with
      | true => exact Or.inr (Or.inl ⟨e, kB ht⟩)
      | false => exact Or.inr (Or.inr ⟨e, b3 ht⟩)
    · rw [hy] at a1
      cases a1
      rw [b1] at a2
      cases a2
      have eg : g2 = g := by
        have g2b := a4
        obtain ⟨K, mv, kd, _, _, g264, _⟩ := g2b
        have := wi_eq.mp (a5.symm.trans g3)
        rw [wi_on (by omega), wi_on (by omega)] at this
        omega
      subst eg
      exact Or.inl ⟨kB a3, a4⟩
/-- classes are built, or were: what stays -/
theorem Rl_ka {T T1 : wv_T} {N N1 : Nat} {I I1 : rl_I} {L L1 : rl_L} {R R1 : rl_R} {n lk m : Nat} {v : Nat → Nat} {tb : Nat → Bool} {Cs : Nat} {C : Nat → Nat} {P : Nat → pd_P} {S : Nat → rn_N} {m0 x : Nat → Nat} {sq : Nat → List Nat} {Cd Dd a b g : Nat} {nx : Nat → Nat} {fi : Nat → Bool} {sg on tw : Nat → Nat} {V cp : Nat → Nat} {z : Nat → List Nat} {p k y gk n1 s1 : Nat} (hA : Rl_A T N I L R n lk m v tb) (hB : Rl_B T I L R tb m v Cs C P S m0 x sq) (hD : rl_d T N I R Cd Dd a b g nx fi sg on tw V cp z) (hN : N < 1099511627776) (hp : p < 2) (hk : k < 4) (hy : (sq p)[k]? = some y) (hg : I (C p + 9 + k) 3 = Int32.ofNat gk) (h : kc_A (C p) k (rn_t (S p) y) gk T N I L R T1 N1 I1 L1 R1 n1 s1) : ∃ tb1, Rl_A T1 N1 I1 L1 R1 n lk m v tb1 ∧ Rl_B T1 I1 L1 R1 tb1 m v Cs C P S m0 x sq ∧ rl_d T1 N1 I1 R1 Cd Dd a b g nx fi sg on tw V cp z ∧ N1 = N + n1 ∧ rl_tn tb1 rl_es = rl_tn tb rl_es + n1 ∧ s1 = 4224 * n1 ∧ (∀ q c, q < 67 → I1 (C p + 9 + q) c = I (C p + 9 + q) c) := by
  obtain ⟨hZ, ht, hw, hkk, hh⟩ := Rl_A_Z.mp hA
  obtain ⟨hYY, hO⟩ := Rl_Z_Y.mp hZ
  obtain ⟨hC, hC2⟩ := rl_CC hB.1 hp
  have n5 := hO.2.2.2.2
  have c3 : C p = 28 ∨ C p = 124 ∨ C p = 346 := by unfold rl_C at hC; omega
  have h536 := hYY.1.2.2.1
  have hE : rl_E (C p + 76 + 5 * k) := ⟨C p, k, hC, hk, rfl⟩
  obtain ⟨B, ⟨e1, e2, e3, e4⟩, hres, hcase⟩ := h
  -- the frame, whichever way
  have main : ∀ tb1, rl_O T1 N1 R1 tb1 → rl_m T T1 → N ≤ N1 → (∀ E, tb E = true → tb1 E = true) → tb1 (C p + 76 + 5 * k) = true → (∀ c j, c < N → ¬ (c = C p + 76 + 5 * k ∧ j = 4) → R1 c j = R c j) → (∀ c j, 1099511627776 ≤ c → R1 c j = R c j) → (∀ c j, (c < N ∨ 1099511627776 ≤ c) → ¬ (c = C p + 76 + 5 * k ∧ 5 ≤ j ∧ j ≤ 8) → ¬ (C p + 76 + 5 * k + 2 ≤ c ∧ c ≤ C p + 76 + 5 * k + 4) → ¬ c = B → I1 c j = I c j) → (∀ c j, (c < N ∨ 1099511627776 ≤ c) → ¬ c = C p + 76 + 5 * k + 1 → L1 c j = L c j) → (∀ E2 B2, rl_E E2 → ¬ E2 = C p + 76 + 5 * k → tb E2 = true → R E2 4 = some B2 → ¬ B2 = B) → (∀ c x, T c = some x → c < N ∨ 1099511627776 ≤ c → ¬ x = .inr (0, 4224) → ¬ c = B) → Rl_A T1 N1 I1 L1 R1 n lk m v tb1 ∧ Rl_B T1 I1 L1 R1 tb1 m v Cs C P S m0 x sq ∧ rl_d T1 N1 I1 R1 Cd Dd a b g nx fi sg on tw V cp z ∧ (∀ q c, q < 67 → I1 (C p + 9 + q) c = I (C p + 9 + q) c) := by
    intro tb1 hO1 hT hNN htb htbE fR oR fI fL hne hbt
    have hb5 : 536 < B := by
      have : ¬ B = 536 := fun w => by
        rw [w, hT _ _ h536] at e2
        cases e2
      omega
    have lo : ∀ c j, c < 536 → ¬ (C p + 76 + 5 * k ≤ c ∧ c ≤ C p + 76 + 5 * k + 4) → I1 c j = I c j := fun c j x1 x2 => fI c j (by omega) (by omega) (by omega) (by omega)
    have ll : ∀ c j, c < 536 → ¬ c = C p + 76 + 5 * k + 1 → L1 c j = L c j := fun c j x1 x2 => fL c j (by omega) x2
    have hq : ∀ Q, pq_q Q → R1 Q 0 = R Q 0 := fun Q hQ => fR Q 0 (by have := pq_q_0 hQ; omega) (by omega)
    have fS : ∀ Q B2 j, pq_q Q → R Q 0 = some B2 → 536 < B2 → B2 < N → L1 B2 j = L B2 j := fun Q B2 j _ _ x1 x2 => fL B2 j (by omega) (by omega)
    have sm : ∀ {c : Nat} {x : Nat ⊕ (Nat × Nat)}, T c = some x → ¬ x = .inr (0, 4224) → (c < N ∨ 1099511627776 ≤ c) → ¬ c = B := fun e w1 w2 => hbt _ _ e w2 w1
    have hX1 : rl_X T1 I1 L1 R1 := rl_X_w hYY.2.1 hT (fun c j x1 x2 => fI c j (by omega) (by omega) (by omega) (by omega)) (by
      obtain ⟨l1, l2⟩ := hYY.2.1.2.1
      exact ⟨hT _ _ l1, fun v hv u hu => by rw [fL _ _ (by omega) (by omega)]; exact l2 v hv u hu⟩) (fun c j x1 x2 => oR c j x1)
    have hY1 : Rl_Y T1 I1 L1 R1 := by
      obtain ⟨y1, y2, y3, g0, y4, y5⟩ := hYY
      exact ⟨rl_F_c y1 hT (fun c j x1 _ _ _ x5 _ _ => fR c j (by omega) (by omega)), hX1, rl_e_c y3 (Nat.zero_le _) h536 (Or.inr (Or.inr (Or.inl rfl))) hO.1 hT (rl_ef_g (fun c j x1 x2 => lo c j (by omega) (by omega)) (fun c j w => ll c j (by omega) (by omega)) (fun k hk => hq _ ⟨220, k, by omega, hk, rfl⟩) (fun k B j hk => fS _ B j ⟨220, k, by omega, hk, rfl⟩)), g0, by rw [lo _ _ (by omega) (by omega)]; exact y4, y5⟩
    refine ⟨Rl_A_Z.mpr ⟨Rl_Z_Y.mpr ⟨hY1, hO1⟩, rl_t_c ht (lo _ _ (by omega) (by omega)) (lo _ _ (by omega) (by omega)) (fun j => lo _ _ (by omega) (by omega)) (fun j => lo _ _ (by omega) (by omega)), rl_w_c hw (lo _ _ (by omega) (by omega)) (lo _ _ (by omega) (by omega)) (fun j => lo _ _ (by omega) (by omega)) (fun j => lo _ _ (by omega) (by omega)), rl_k_c hkk (lo _ _ (by omega) (by omega)) (lo _ _ (by omega) (by omega)), rl_h_c hh (lo _ _ (by omega) (by omega)) (lo _ _ (by omega) (by omega)) (lo _ _ (by omega) (by omega)) (lo _ _ (by omega) (by omega)) (fun c j x1 x2 => lo _ _ (by omega) (by omega)) (fun j => lo _ _ (by omega) (by omega)) (fun c j x1 x2 => lo _ _ (by omega) (by omega))⟩, ⟨hB.1, by rw [fR _ _ (by omega) (by omega)]; exact hB.2.1, fun q hq2 => ?_⟩, ?_, fun q c hq => lo _ _ (by omega) (by omega)⟩
    · obtain ⟨eC, eC2⟩ := rl_CC hB.1 hq2
      have e3' : C q = 28 ∨ C q = 124 ∨ C q = 346 := by unfold rl_C at eC; omega
      by_cases eq : q = p
      · subst eq
        obtain ⟨p1, p2, p3, p4, p5, p6, p7⟩ := hB.2.2 q hq2
        refine ⟨by rw [fR _ _ (by omega) (by omega)]; exact p1, p2, rl_e_c p3 p2.2.2.2.2.2.2.1 h536 hC hO.1 hT (rl_ef_g (fun c j x1 x2 => lo c j (by omega) (by omega)) (fun c j w => ll c j (by omega) (by omega)) (fun k hk => hq _ ⟨C q, k, hC, hk, rfl⟩) (fun k B j hk => fS _ B j ⟨C q, k, hC, hk, rfl⟩)), kp_K_F p4 (fun c j x1 x2 => lo c j (by omega) (by omega)), rl_s_c p5 (lo _ _ (by omega) (by omega)) (lo _ _ (by omega) (by omega)) (fun j => lo _ _ (by omega) (by omega)) (fun j => ll _ _ (by omega) (by omega)), fun k2 hk2 => ?_, rl_z_c p7 (fun c j x1 x2 => lo c j (by omega) (by omega))⟩
        by_cases ek : k2 = k
        · subst ek
          exact Or.inr ⟨y, B, gk, hy, e1, htbE, hres, by rw [lo _ _ (by omega) (by omega)]; exact hg⟩
        · rcases p6 k2 hk2 with a | ⟨y2, B2, g2, a1, a2, a3, a4, a5⟩
          · exact Or.inl (by rw [lo _ _ (by omega) (by omega)]; exact a)
          · have hB2 := hne _ B2 ⟨C q, k2, hC, hk2, rfl⟩ (by omega) a3 a2
            obtain ⟨B3, y1, y2', _⟩ := hO.2.2.2.1.1 (C q + 76 + 5 * k2) ⟨C q, k2, hC, hk2, rfl⟩
            rw [a2] at y1
            cases y1
            exact Or.inr ⟨y2, B2, g2, a1, by rw [fR _ _ (by omega) (by omega)]; exact a2, htb _ a3, kc_res_fr a4 (fun j => lo _ _ (by omega) (by omega)) (fun j => lo _ _ (by omega) (by omega)) (fun j => fI _ _ (Or.inl (y2' a3).2.2) (by have := (y2' a3).2.1; omega) (by have := (y2' a3).2.1; omega) hB2), by rw [lo _ _ (by omega) (by omega)]; exact a5⟩
      · have hne2 : ¬ C q = C p := by
          have b1 := hB.1
          unfold rl_3 at b1
          have eqq : (q = 0 ∧ p = 1) ∨ (q = 1 ∧ p = 0) := by omega
          rcases eqq with ⟨rfl, rfl⟩ | ⟨rfl, rfl⟩ <;> omega
        refine rl_p_g (hB.2.2 q hq2) hq2 eC h536 hO hT (fR _ _ (by omega) (by omega)) hq (fun k2 hk2 => fR _ _ (by omega) (by omega)) htb (fun c j w => lo c j (by omega) (by omega)) (fun k2 B2 j hk2 hB2 ht2 hTB b1 b2 => ?_) (fun c j w => ll c j (by omega) (by omega)) fS
        have hB3 := hne _ B2 ⟨C q, k2, eC, hk2, rfl⟩ (by omega) ht2 hB2
        exact fI _ _ (Or.inl b2) (by omega) (by omega) hB3
    · refine rl_d_c hD hT hNN (fun c j x1 x2 => lo c j (by omega) (by omega)) (lo _ _ (by omega) (by omega)) (fun j x1 x2 => lo _ _ (by omega) (by omega)) (fun c j x1 x2 => lo c j (by omega) (by omega)) (fun E j hE hV => ?_) ⟨fR _ _ (by omega) (by omega), fR _ _ (by omega) (by omega), fR _ _ (by omega) (by omega), fR _ _ (by omega) (by omega)⟩
      obtain ⟨v1, v2⟩ := hD.2.2.2.2.2.2.1 E hE
      have vN : V E < N := by omega
      exact fI _ j (Or.inl vN) (by omega) (by omega) (sm v1.1.2.2.2.1 (fun z => by cases z) (Or.inl vN))
  obtain ⟨Bt, t1, t2, t3⟩ := hO.2.2.2.1.1 _ hE
  rcases hcase with ⟨rfl, rfl, rfl, rfl, rfl, bF, FL⟩ | ⟨⟨hNn, B0, z1, z2⟩, rfl, h5, h6, rfl, rfl, rfl, rfl, rfl, bF, FL⟩
  · rw [e1] at t1
    cases t1
    have htb : tb (C p + 76 + 5 * k) = true := by
      cases e : tb (C p + 76 + 5 * k) with
      | true => rfl
      | false =>
        have := t3 e
        rw [e2] at this
        cases this
    refine ⟨tb, ?_⟩
    obtain ⟨m1, m2, m3, m4⟩ := main tb hO (rl_m_id _) (Nat.le_refl _) (fun _ w => w) htb (fun _ _ _ _ => rfl) (fun _ _ _ => rfl) (fun c j _ x2 x3 x4 => bF c j x2 x3 x4) (fun c j _ x2 => FL c j x2) (fun E2 B2 hE2 hne ht2 hB2 w => by
      subst w
      exact hO.2.2.2.1.2 E2 _ B2 hE2 hE hne ht2 hB2 e1) (fun c x hx _ hne w => by
      rw [w, e2] at hx
      cases hx
      exact hne rfl)
    exact ⟨m1, m2, m3, rfl, rfl, rfl, m4⟩
  · have hT : rl_m T (wv_n T B (.inr (0, 4224))) := fun y v e => by
      unfold wv_n
      rw [if_neg (fun z => by rw [z, hNn] at e; cases e)]
      exact e
    have htb : tb (C p + 76 + 5 * k) = false := by
      cases e : tb (C p + 76 + 5 * k) with
      | false => rfl
      | true =>
        have := (t2 e).1
        rw [z1] at t1
        cases t1
        rw [z2] at this
        cases this
    have fR : ∀ c j, c < B → ¬ (c = C p + 76 + 5 * k ∧ j = 4) → (wv_u (wv_z R B none) (C p + 76 + 5 * k) 4 (some B)) c j = R c j := fun c j x1 x2 => by
      rw [wv_u_no _ _ x2]
      exact if_neg (by omega)
    have hq : ∀ Q, pq_q Q → (wv_u (wv_z R B none) (C p + 76 + 5 * k) 4 (some B)) Q 0 = R Q 0 := fun Q hQ => fR Q 0 (by have := pq_q_0 hQ; omega) (by omega)
    have tbu : ∀ E, tb E = true → (fun c => if c = C p + 76 + 5 * k then true else tb c) E = true := fun E w => by
      show (if E = C p + 76 + 5 * k then true else tb E) = true
      split
      · rfl
      · exact w
    have uT : (fun c => if c = C p + 76 + 5 * k then true else tb c) (C p + 76 + 5 * k) = true := if_pos rfl
    have uN : ∀ E, ¬ E = C p + 76 + 5 * k → (fun c => if c = C p + 76 + 5 * k then true else tb c) E = tb E := fun E e => if_neg e
    have hO1 : rl_O (wv_n T B (.inr (0, 4224))) (B + 1) (wv_u (wv_z R B none) (C p + 76 + 5 * k) 4 (some B)) (fun c => if c = C p + 76 + 5 * k then true else tb c) := by
      refine ⟨rl_pO_g hO.1 hT (by omega) hq, rl_r_g hO.2.1 hT (by omega) (fR _ _ (by omega) (by omega)) hq, rl_r_g hO.2.2.1 hT (by omega) (fR _ _ (by omega) (by omega)) hq, ⟨fun E hE2 => ?_, fun E E2 B2 hE2 hE3 hne ht2 hB2 => ?_⟩, by omega⟩
      · have hE0 := (rl_E_in hE2).2
        by_cases e : E = C p + 76 + 5 * k
        · subst e
          exact ⟨B, wv_u_at _ _ _ _, fun _ => ⟨if_pos rfl, n5, by omega⟩, fun w => by rw [uT] at w; cases w⟩
        · obtain ⟨B2, y1, y2, y3⟩ := hO.2.2.2.1.1 E hE2
          refine ⟨B2, by rw [fR _ _ (by omega) (by omega)]; exact y1, fun w => ?_, fun w => ?_⟩
          · rw [uN E e] at w
            exact ⟨hT _ _ (y2 w).1, (y2 w).2.1, by have := (y2 w).2.2; omega⟩
          · rw [uN E e] at w
            exact hT _ _ (y3 w)
      · have hE0 := (rl_E_in hE2).2
        have hE1 := (rl_E_in hE3).2
        have tN : ∀ E3 B3, rl_E E3 → R E3 4 = some B3 → ¬ B3 = B := fun E3 B3 h1 h2 w => by
          obtain ⟨B4, y1, y2, y3⟩ := hO.2.2.2.1.1 E3 h1
          rw [h2] at y1
          cases y1
          cases e : tb E3 with
          | true =>
            have := (y2 e).1
            rw [w, hNn] at this
            cases this
          | false =>
            have := y3 e
            rw [w, hNn] at this
            cases this
        by_cases e : E = C p + 76 + 5 * k
        · subst e
          rw [wv_u_at] at hB2
          cases hB2
          rw [fR _ _ (by omega) (by omega)]
          exact fun w => tN E2 _ hE3 w rfl
        · rw [fR _ _ (by omega) (by omega)] at hB2
          rw [uN E e] at ht2
          by_cases e2' : E2 = C p + 76 + 5 * k
          · subst e2'
            rw [wv_u_at]
            exact fun w => tN E B2 hE2 hB2 (Option.some.inj w).symm
          · rw [fR _ _ (by omega) (by omega)]
            exact hO.2.2.2.1.2 E E2 B2 hE2 hE3 hne ht2 hB2
    obtain ⟨m1, m2, m3, m4⟩ := main _ hO1 hT (by omega) tbu (if_pos rfl) fR (fun c j x1 => by
      rw [wv_u_no _ _ (by omega)]
      exact if_neg (by omega)) (fun c j x1 x2 x3 x4 => (bF c j x2 x3 x4).trans (if_neg x4)) (fun c j x1 x2 => (FL c j x2).trans (if_neg (by omega))) (fun E2 B2 hE2 hne ht2 hB2 w => by
      obtain ⟨B4, y1, y2, y3⟩ := hO.2.2.2.1.1 E2 hE2
      rw [hB2] at y1
      cases y1
      have := (y2 ht2).2.2
      omega) (fun c x hx x1 _ w => by omega)
    exact ⟨_, m1, m2, m3, rfl, rl_tn_u htb rl_es (by decide) (rl_E_in hE).1, rfl, m4⟩
