/-! ===== what is left alone keeps the relation ===== -/
/-- ints that the relation looks at -/
def rl_di (c j : Nat) : Prop := c < 460 ∨ (c = 460 ∧ (j = 2 ∨ j = 46 ∨ (56 ≤ j ∧ j ≤ 58) ∨ j = 65 ∨ j = 66 ∨ j = 70)) ∨ c = 461 ∨ (476 ≤ c ∧ c ≤ 483) ∨ c = 489 ∨ c = 490 ∨ (496 ≤ c ∧ c ≤ 500) ∨ (502 ≤ c ∧ c ≤ 505) ∨ (520 ≤ c ∧ c ≤ 522) ∨ 536 < c
def rl_fL (L M : rl_L) : Prop := ∀ c j, (28 ≤ c ∧ c < 460) ∨ 536 < c → M c j = L c j
theorem rl_fL_id (L : rl_L) : rl_fL L L := fun _ _ _ => rfl
theorem rl_fL_u {L : rl_L} {x : Int64} : rl_fL L (wv_u L 536 0 x) := fun c j h => wv_u_no _ _ (by omega)
theorem rl_fL_t {L M K : rl_L} (h : rl_fL L M) (g : rl_fL M K) : rl_fL L K := fun c j hc => (g c j hc).trans (h c j hc)
theorem rl_ef_s {N : Nat} {T : wv_T} {I J : rl_I} {L M : rl_L} {R : rl_R} {C : Nat} (hC : rl_C C) (hO : pq_O T N R) (fI : ∀ c j, C ≤ c → c < C + 76 → J c j = I c j) (fL : rl_fL L M) : rl_ef N R R L M I J C := by
  have hb : 28 ≤ C ∧ C ≤ 346 := by rcases hC with rfl | rfl | rfl | rfl <;> omega
  refine ⟨fI, fun c j h1 h2 => fL c j (by omega), fun k hk => ⟨rfl, fun B j hB h _ => fL B j (by omega)⟩⟩
theorem rl_3C {a b c : Nat} (h : rl_3 a b c) : rl_C a ∧ rl_C b ∧ rl_C c := by
  unfold rl_3 at h
  unfold rl_C
  omega
theorem rl_CC {C : Nat → Nat} {Cs p : Nat} (h : rl_3 (C 0) (C 1) Cs) (hp : p < 2) : rl_C (C p) ∧ ¬ C p = 220 := by
  have e : p = 0 ∨ p = 1 := by omega
  unfold rl_3 at h
  unfold rl_C
  rcases e with rfl | rfl <;> omega
/-- what stays of a property when only others are touched -/
theorem rl_p_fr {T : wv_T} {N : Nat} {I J : rl_I} {L M : rl_L} {R : rl_R} {tb : Nat → Bool} {p m : Nat} {v : Nat → Nat} {C : Nat} {P : pd_P} {S : rn_N} {m0 x : Nat} {sq : List Nat} (h : rl_p T I L R tb p m v C P S m0 x sq) (hp : p < 2) (hC : rl_C C) (h536 : T 536 = some (.inr (1, 1))) (hO : rl_O T N R tb) (fI : ∀ c j, (C ≤ c ∧ c < C + 96) ∨ c = 345 ∨ (476 ≤ c ∧ c ≤ 483) ∨ c = 490 ∨ (520 ≤ c ∧ c ≤ 522) ∨ 536 < c → J c j = I c j) (fL : rl_fL L M) : rl_p T J M R tb p m v C P S m0 x sq := by
  obtain ⟨h1, h2, h3, h4, h5, h6, h7⟩ := h
  refine ⟨h1, h2, rl_e_c h3 h2.2.2.2.2.2.2.1 h536 hC hO.1 (rl_m_id T) (rl_ef_s hC hO.1 (fun c j c1 c2 => fI c j (by omega)) fL), kp_K_F h4 (fun c j c1 c2 => fI c j (by omega)), rl_s_c h5 (fI _ _ (by omega)) (fI _ _ (by omega)) (fun j => fI _ _ (by omega)) (fun j => fL _ _ (by omega)), rl_c_c h6 (fun c j c1 c2 => fI c j (by omega)) (fun _ _ => rfl) (fun _ _ w => w) (fun k B j hk hB ht => ?_), rl_z_c h7 (fun c j c1 c2 => fI c j (by omega))⟩
  obtain ⟨B2, b1, b2, _⟩ := hO.2.2.2.1.1 (C + 76 + 5 * k) ⟨C, k, hC, hk, rfl⟩
  rw [hB] at b1
  cases b1
  exact fI _ _ (by have := (b2 ht).2.1; omega)
theorem Rl_B_fr {T : wv_T} {N : Nat} {I J : rl_I} {L M : rl_L} {R : rl_R} {tb : Nat → Bool} {m : Nat} {v : Nat → Nat} {Cs : Nat} {C : Nat → Nat} {P : Nat → pd_P} {S : Nat → rn_N} {m0 x : Nat → Nat} {sq : Nat → List Nat} (h : Rl_B T I L R tb m v Cs C P S m0 x sq) (h536 : T 536 = some (.inr (1, 1))) (hO : rl_O T N R tb) (fI : ∀ c j, (28 ≤ c ∧ c < 220) ∨ (345 ≤ c ∧ c < 442) ∨ (476 ≤ c ∧ c ≤ 483) ∨ c = 490 ∨ (520 ≤ c ∧ c ≤ 522) ∨ 536 < c → J c j = I c j) (fL : rl_fL L M) : Rl_B T J M R tb m v Cs C P S m0 x sq := by
  obtain ⟨h1, h2, h3⟩ := h
  refine ⟨h1, h2, fun p hp => ?_⟩
  obtain ⟨c1, c2⟩ := rl_CC h1 hp
  exact rl_p_fr (h3 p hp) hp c1 h536 hO (fun c j w => fI c j (by unfold rl_C at c1; omega)) fL
/-- the static part -/
def Rl_Z (T : wv_T) (N : Nat) (I : rl_I) (L : rl_L) (R : rl_R) (tb : Nat → Bool) : Prop := rl_F T R ∧ rl_X T I L R ∧ rl_O T N R tb ∧ rl_e T I L R 220 rl_Pt rn_0 [] ∧ ∃ g, I 9 11 = Int32.ofNat g ∧ g < 64
theorem Rl_Z_fr {T : wv_T} {N : Nat} {I J : rl_I} {L M : rl_L} {R : rl_R} {tb : Nat → Bool} (h : Rl_Z T N I L R tb) (fI : ∀ c j, (c = 9 ∧ j = 11) ∨ (220 ≤ c ∧ c < 296) ∨ 536 < c → J c j = I c j) (fL : rl_fL L M) : Rl_Z T N J M R tb := by
  obtain ⟨h1, h2, h3, h4, g, h5, h6⟩ := h
  refine ⟨h1, rl_X_c h2 (rl_m_id T) (fun c j hc => fI c j (by omega)) (fun c j hc => fL c j (by omega)) (fun _ _ _ => rfl), h3, rl_e_c h4 (Nat.zero_le _) h1.2.2.1 (Or.inr (Or.inr (Or.inl rfl))) h3.1 (rl_m_id T) (rl_ef_s (Or.inr (Or.inr (Or.inl rfl))) h3.1 (fun c j c1 c2 => fI c j (by omega)) fL), g, by rw [fI _ _ (by omega)]; exact h5, h6⟩
theorem Rl_A_Z {T : wv_T} {N : Nat} {I : rl_I} {L : rl_L} {R : rl_R} {n lk m : Nat} {v : Nat → Nat} {tb : Nat → Bool} : Rl_A T N I L R n lk m v tb ↔ Rl_Z T N I L R tb ∧ rl_t n I ∧ rl_w m v I ∧ rl_k lk I ∧ rl_h I :=
  ⟨fun ⟨h1, h2, h3, h4, h5, h6, h7, h8, h9⟩ => ⟨⟨h1, h2, h3, h8, h9⟩, h4, h5, h6, h7⟩, fun ⟨⟨h1, h2, h3, h8, h9⟩, h4, h5, h6, h7⟩ => ⟨h1, h2, h3, h4, h5, h6, h7, h8, h9⟩⟩
/-- nothing that counts was touched -/
theorem Rl_fr {T : wv_T} {N : Nat} {I J : rl_I} {L M : rl_L} {R : rl_R} {nc ns nc2 ns2 i : Nat} (h : Rl T N I L R nc ns i) (fI : ∀ c j, rl_di c j → J c j = I c j) (fL : rl_fL L M) (h0 : nc ≤ nc2) (h1 : nc2 ≤ nc + 1) (h2 : ns2 ≤ ns + 6) : Rl T N J M R nc2 ns2 (i + 4) := by
  obtain ⟨n, lk, m, v, tb, Cs, C, P, S, m0, x, sq, Cd, Dd, a, b, g, nx, fi, sg, on, tw, V, cp, z, hA, hB, hD, n1, n2, n3⟩ := h
  obtain ⟨hZ, ht, hw, hk, hh⟩ := Rl_A_Z.mp hA
  have h536 := hZ.1.2.2.1
  refine ⟨n, lk, m, v, tb, Cs, C, P, S, m0, x, sq, Cd, Dd, a, b, g, nx, fi, sg, on, tw, V, cp, z, Rl_A_Z.mpr ⟨Rl_Z_fr hZ (fun c j w => fI c j (by unfold rl_di; omega)) fL, rl_t_c ht (fI _ _ (by unfold rl_di; omega)) (fI _ _ (by unfold rl_di; omega)) (fun j => fI _ _ (by unfold rl_di; omega)) (fun j => fI _ _ (by unfold rl_di; omega)), rl_w_c hw (fI _ _ (by unfold rl_di; omega)) (fI _ _ (by unfold rl_di; omega)) (fun j => fI _ _ (by unfold rl_di; omega)) (fun j => fI _ _ (by unfold rl_di; omega)), rl_k_c hk (fI _ _ (by unfold rl_di; omega)) (fI _ _ (by unfold rl_di; omega)), rl_h_c hh (fI _ _ (by unfold rl_di; omega)) (fI _ _ (by unfold rl_di; omega)) (fI _ _ (by unfold rl_di; omega)) (fI _ _ (by unfold rl_di; omega)) (fun c j c1 c2 => fI _ _ (by unfold rl_di; omega)) (fun j => fI _ _ (by unfold rl_di; omega)) (fun c j c1 c2 => fI _ _ (by unfold rl_di; omega))⟩, Rl_B_fr hB h536 hZ.2.2.1 (fun c j w => fI c j (by unfold rl_di; omega)) fL, rl_d_c hD (rl_m_id T) (Nat.le_refl _) (fun c j c1 c2 => fI c j (by unfold rl_di; omega)) (fI _ _ (by unfold rl_di; omega)) (fun j j1 j2 => fI _ _ (by unfold rl_di; omega)) (fun c j c1 c2 => fI c j (by unfold rl_di; omega)) (fun E j hE hV => fI _ _ (by unfold rl_di; omega)) ⟨rfl, rfl, rfl, rfl⟩, ?_⟩
  exact ⟨by omega, by omega, by omega⟩
theorem Rl_th {T : wv_T} {N : Nat} {I : rl_I} {L : rl_L} {R : rl_R} {nc ns i : Nat} {x : Int32} (h : Rl T N I L R nc ns i) : Rl T N (wv_u I 460 0 x) L R (nc + 1) (ns + 6) (i + 4) := Rl_fr h (fun c j w => wv_u_no _ _ (by unfold rl_di at w; omega)) (rl_fL_id L) (by omega) (by omega) (by omega)
theorem Rl_an {T : wv_T} {N : Nat} {I : rl_I} {L : rl_L} {R : rl_R} {nc ns i : Nat} {x : Int32} {y : Int64} (h : Rl T N I L R nc ns i) : Rl T N (wv_u I 460 0 x) (wv_u L 536 0 y) R nc ns (i + 4) := Rl_fr h (fun c j w => wv_u_no _ _ (by unfold rl_di at w; omega)) rl_fL_u (by omega) (by omega) (by omega)
theorem Rl_mono (T : wv_T) (N : Nat) (I : rl_I) (L : rl_L) (R : rl_R) (nc ns i : Nat) (h : Rl T N I L R nc ns i) : Rl T N I L R nc ns (i + 4) := Rl_fr h (fun _ _ _ => rfl) (rl_fL_id L) (by omega) (by omega) (by omega)
theorem Rl_room (T : wv_T) (N : Nat) (I : rl_I) (L : rl_L) (R : rl_R) (nc ns i : Nat) (hi : i ≤ 2052) (h : Rl T N I L R nc ns i) : nc ≤ 601024 ∧ ns ≤ 7293034 := by
  obtain ⟨n, lk, m, v, tb, Cs, C, P, S, m0, x, sq, Cd, Dd, a, b, g, nx, fi, sg, on, tw, V, cp, z, hA, hB, hD, hN⟩ := h
  have d1 := (hD.2.2.2.2.2.2.1 442 (Or.inl rfl)).1.1.2.2.2.2.2.1
  have d2 := (hD.2.2.2.2.2.2.1 451 (Or.inr rfl)).1.1.2.2.2.2.2.1
  exact (rl_N_b hN hi hA.2.2.2.2.2.1.2.2 d1 d2).2
