/-! ===== how the two objects stand to one another: a property ===== -/
/-- a property of the class, as it lies in memory -/
def rl_e (T : wv_T) (I : rl_I) (L : rl_L) (R : rl_R) (C : Nat) (P : pd_P) (S : rn_N) (sq : List Nat) : Prop := pq_M I L C P (pd_m P) ∧ pq_S T I L R C S sq P ∧ (∀ i, i < pd_m P → pd_k P i = 1 → I (C + 6) i = Int32.ofNat (pp_sl (I (C + 1)) (pd_m P) i)) ∧ I C 10 = Int32.ofNat (pp_sl (I (C + 1)) (pd_m P) (pd_m P))
/-- what a property needs to stay -/
def rl_ef (N : Nat) (R R1 : rl_R) (L M : rl_L) (I J : rl_I) (C : Nat) : Prop := (∀ c j, C ≤ c → c < C + 76 → J c j = I c j) ∧ (∀ c j, C ≤ c → c < C + 76 → M c j = L c j) ∧ ∀ k, k < 67 → R1 (C + 9 + k) 0 = R (C + 9 + k) 0 ∧ ∀ B j, R (C + 9 + k) 0 = some B → 536 < B → B < N → M B j = L B j
/-- which arrays sequences have -/
theorem rl_qB {T : wv_T} {N : Nat} {R : rl_R} (h : pq_O T N R) {C k B : Nat} (hC : rl_C C) (hk : k < 67) (hB : R (C + 9 + k) 0 = some B) : 536 ≤ B ∧ ∃ len, T B = some (.inr (1, len)) ∧ (0 < len → B < N) := by
  obtain ⟨B2, len, ⟨o1, o2, o3, o4, o5, o6⟩, h2, h3⟩ := h (C + 9 + k) ⟨C, k, hC, hk, rfl⟩
  rw [hB] at o2
  cases o2
  refine ⟨?_, len, o3, h2⟩
  by_cases c : 0 < len
  · exact (o5 c).2
  · have := (o6 (by omega)).2
    omega
theorem rl_e_c {N : Nat} {T T1 : wv_T} {I J : rl_I} {L M : rl_L} {R R1 : rl_R} {C : Nat} {P : pd_P} {S : rn_N} {sq : List Nat} (h : rl_e T I L R C P S sq) (hl : sq.length ≤ 67) (h536 : T 536 = some (.inr (1, 1))) (hC : rl_C C) (hO : pq_O T N R) (hT : rl_m T T1) (hf : rl_ef N R R1 L M I J C) : rl_e T1 J M R1 C P S sq := by
  obtain ⟨⟨m1, m2, m3, m4⟩, ⟨s1, s2, s3⟩, h3, h4⟩ := h
  obtain ⟨fI, fL, fR⟩ := hf
  have e1 : J (C + 1) = I (C + 1) := funext fun j => fI _ j (by omega) (by omega)
  refine ⟨⟨by rw [fI _ _ (by omega) (by omega)]; exact m1, m2, m3, fun i hi => ?_⟩, ⟨by rw [fI _ _ (by omega) (by omega)]; exact s1, fun k y hk => ?_, s3⟩, fun i hi hk => by rw [fI _ _ (by omega) (by omega), e1]; exact h3 i hi hk, by rw [fI _ _ (by omega) (by omega), e1]; exact h4⟩
  · obtain ⟨a1, a2, a3, a4, a5, a6, a7, a8⟩ := m4 i hi
    exact ⟨by rw [e1]; exact a1, a2, by rw [fI _ _ (by omega) (by omega)]; exact a3, a4, by rw [fI _ _ (by omega) (by omega)]; exact a5, a6, fun u hu => by rw [fL _ _ (by omega) (by omega)]; exact a7 u hu, fun u hu => by rw [fL _ _ (by omega) (by omega)]; exact a8 u hu⟩
  · have hk6 : k < 67 := Nat.lt_of_lt_of_le (List.getElem?_eq_some_iff.mp hk).1 hl
    obtain ⟨y1, g, ⟨b1, b2, b3, b4, b5, b6, b7, b8, B, len, c1, c2, c3, c4⟩, y2⟩ := s2 k y hk
    obtain ⟨r1, r2⟩ := fR k hk6
    have hB : ¬ B = 536 := fun z => by
      rw [z, h536] at c2
      cases c2
      omega
    have hB2 : 536 < B ∧ B < N := by
      obtain ⟨x1, l2, x2, x3⟩ := rl_qB hO hC hk6 c1
      rw [c2] at x2
      cases x2
      exact ⟨by omega, x3 (by omega)⟩
    refine ⟨y1, g, ⟨hT _ _ b1, by rw [fI _ _ (by omega) (by omega)]; exact b2, by rw [fI _ _ (by omega) (by omega)]; exact b3, by rw [fI _ _ (by omega) (by omega)]; exact b4, b5, b6, fun t ht => by rw [fL _ _ (by omega) (by omega)]; exact b7 t ht, fun t ht => by rw [fL _ _ (by omega) (by omega)]; exact b8 t ht, B, len, by rw [r1]; exact c1, hT _ _ c2, c3, fun s v t h1 h2 h3 h4 => by rw [r2 B _ c1 hB2.1 hB2.2]; exact c4 s v t h1 h2 h3 h4⟩, y2⟩
theorem rl_ef_id {N : Nat} {R : rl_R} {L : rl_L} {I : rl_I} {C : Nat} : rl_ef N R R L L I I C := ⟨fun _ _ _ _ => rfl, fun _ _ _ _ => rfl, fun _ _ => ⟨rfl, fun _ _ _ _ _ => rfl⟩⟩
theorem rl_sch {T : wv_T} {N : Nat} {R : rl_R} (h : pq_O T N R) {C B : Nat} (hC : rl_C C) (hB : B = 343 ∨ B = 344) : sc_h R C B := by
  refine ⟨?_, ?_, fun k hk => ⟨?_, fun z => ?_⟩⟩
  · rcases hC with rfl | rfl | rfl | rfl <;> omega
  · rcases hC with rfl | rfl | rfl | rfl <;> omega
  · rcases hC with rfl | rfl | rfl | rfl <;> omega
  · have := (rl_qB h hC hk z).1
    omega
theorem rl_scE {T : wv_T} {N : Nat} {I : rl_I} {L : rl_L} {R : rl_R} {C B : Nat} {P : pd_P} {S : rn_N} {sq : List Nat} (hF : rl_F T R) (hO : pq_O T N R) (hC : rl_C C) (h : rl_e T I L R C P S sq) (hl : sq.length ≤ 67) (h19 : pp_sl (I (C + 1)) (pd_m P) (pd_m P) ≤ 1918) (hok : sc_ok P) (hB : B = 343 ∨ B = 344) : sc_E T I L R C P S sq B 0 1918 := by
  have hpp := ((hF.2.2.2.2.2.2.2.2.1) C hC).1
  refine ⟨⟨hpp, by rcases hC with rfl | rfl | rfl | rfl <;> omega⟩, h.1, ⟨h.2.1, hl⟩, ⟨h.2.2.1, h.2.2.2⟩, ⟨?_, by omega, by omega, by omega⟩, hok, rl_sch hO hC hB⟩
  rcases hB with rfl | rfl
  · exact wm_t hF.1 rfl
  · exact wm_t hF.1 rfl
/-- the word's rows of a property, and where it failed -/
def rl_s (I : rl_I) (L : rl_L) (p m : Nat) (v : Nat → Nat) (C : Nat) (P : pd_P) : Prop := I 345 p = I 490 p ∧ 0 ≤ (I 490 p).toInt ∧ (m = 0 → I 490 p = 0) ∧ (0 < m → sc_M P v (I (C + 1)) (343 + p) 0 m 0 L) ∧ (0 < m → I 490 p = 0 → sc_no P v (sc_W L (343 + p) 0) m)
theorem rl_sM {P : pd_P} {v : Nat → Nat} {k : Nat → Int32} {B b n p : Nat} {L M : rl_L} (h : sc_M P v k B b n p L) (hL : ∀ j, M B j = L B j) : sc_M P v k B b n p M := by
  have e : M B = L B := funext hL
  unfold sc_M sc_W at *
  rw [e]
  exact h
theorem rl_s_c {I J : rl_I} {L M : rl_L} {p m : Nat} {v : Nat → Nat} {C : Nat} {P : pd_P} (h : rl_s I L p m v C P) (h1 : J 345 p = I 345 p) (h2 : J 490 p = I 490 p) (h3 : ∀ j, J (C + 1) j = I (C + 1) j) (h4 : ∀ j, M (343 + p) j = L (343 + p) j) : rl_s J M p m v C P := by
  obtain ⟨a1, a2, a3, a4, a5⟩ := h
  have e1 : J (C + 1) = I (C + 1) := funext h3
  have e2 : M (343 + p) = L (343 + p) := funext h4
  refine ⟨by rw [h1, h2]; exact a1, by rw [h2]; exact a2, by rw [h2]; exact a3, fun hm => by rw [e1]; exact rl_sM (a4 hm) h4, fun hm h0 => ?_⟩
  rw [h2] at h0
  have := a5 hm h0
  unfold sc_W at this ⊢
  rw [e2]
  exact this
theorem rl_s_0 {I : rl_I} {L : rl_L} {p : Nat} {v : Nat → Nat} {C : Nat} {P : pd_P} (h1 : I 345 p = 0) (h2 : I 490 p = 0) : rl_s I L p 0 v C P := ⟨by rw [h1, h2], by rw [h2]; decide, fun _ => h2, fun w => by omega, fun w => by omega⟩
/-- classes of a property's first four sequences, where they were built -/
def rl_c (I : rl_I) (R : rl_R) (C : Nat) (S : rn_N) (sq : List Nat) (tb : Nat → Bool) : Prop := ∀ k, k < 4 → I (C + 76 + 5 * k) 8 = 0 ∨ ∃ y B g, sq[k]? = some y ∧ R (C + 76 + 5 * k) 4 = some B ∧ tb (C + 76 + 5 * k) = true ∧ kc_res (C + 76 + 5 * k) B g (rn_t S y) I ∧ I (C + 9 + k) 3 = Int32.ofNat g
theorem kc_res_fr {E B g : Nat} {A : nt_A} {I J : rl_I} (h : kc_res E B g A I) (h1 : ∀ j, J E j = I E j) (h2 : ∀ j, J (E + 2) j = I (E + 2) j) (h3 : ∀ j, J B j = I B j) : kc_res E B g A J := by
  obtain ⟨K, mv, kd, a1, a2, a3, a4, a5, a6, a7⟩ := h
  exact ⟨K, mv, kd, a1, by rw [h1]; exact a2, a3, by rw [h1]; exact a4, fun c hc => by rw [h2]; exact a5 c hc, fun c v hc hv => by rw [h3]; exact a6 c v hc hv, a7⟩
theorem rl_c_c {I J : rl_I} {R R1 : rl_R} {C : Nat} {S : rn_N} {sq : List Nat} {tb tb1 : Nat → Bool} (h : rl_c I R C S sq tb) (hI : ∀ c j, C ≤ c → c < C + 96 → J c j = I c j) (hR : ∀ k, k < 4 → R1 (C + 76 + 5 * k) 4 = R (C + 76 + 5 * k) 4) (ht : ∀ k, k < 4 → tb (C + 76 + 5 * k) = true → tb1 (C + 76 + 5 * k) = true) (hB : ∀ k B j, k < 4 → R (C + 76 + 5 * k) 4 = some B → tb (C + 76 + 5 * k) = true → J B j = I B j) : rl_c J R1 C S sq tb1 := fun k hk => by
  rcases h k hk with a | ⟨y, B, g, a1, a2, a3, a4, a5⟩
  · exact Or.inl (by rw [hI _ _ (by omega) (by omega)]; exact a)
  · exact Or.inr ⟨y, B, g, a1, by rw [hR k hk]; exact a2, ht k hk a3, kc_res_fr a4 (fun j => hI _ _ (by omega) (by omega)) (fun j => hI _ _ (by omega) (by omega)) (fun j => hB k B j hk a2 a3), by rw [hI _ _ (by omega) (by omega)]; exact a5⟩
/-- the reference's slots of a property -/
def rl_z (I : rl_I) (p : Nat) (S : rn_N) (sq : List Nat) : Prop := ∀ j y, j < 4 → sq[j]? = some y → rn_w S y ≤ 6 → I 520 (4 * p + j) = 0 ∨ ∃ K mv kd, rk_c (nu_U S y) K mv kd ∧ rk_T (4 * p + j) K mv kd I
theorem rl_z_1 {I J : rl_I} {s K : Nat} {mv : Nat → Nat → Nat} {kd : Nat → Nat} (h : rk_T s K mv kd I) (h1 : J 520 s = I 520 s) (h2 : ∀ j, 320 * s ≤ j → j < 320 * s + 320 → J 521 j = I 521 j) (h3 : ∀ j, 64 * (320 * s) ≤ j → j < 64 * (320 * s + 320) → J 522 j = I 522 j) : rk_T s K mv kd J := by
  obtain ⟨a1, a2, a3, a4, a5⟩ := h
  refine ⟨by rw [h1]; exact a1, a2, a3, fun c hc => by rw [h2 _ (by omega) (by omega)]; exact a4 c hc, fun c v hc hv => ?_⟩
  rw [h3 _ (by omega) (by omega)]
  exact a5 c v hc hv
theorem rl_z_c {I J : rl_I} {p : Nat} {S : rn_N} {sq : List Nat} (h : rl_z I p S sq) (hI : ∀ c j, 520 ≤ c → c ≤ 522 → J c j = I c j) : rl_z J p S sq := fun j y hj hy hw => by
  rcases h j y hj hy hw with a | ⟨K, mv, kd, a1, a2⟩
  · exact Or.inl (by rw [hI _ _ (by omega) (by omega)]; exact a)
  · exact Or.inr ⟨K, mv, kd, a1, rl_z_1 a2 (hI _ _ (by omega) (by omega)) (fun j _ _ => hI _ _ (by omega) (by omega)) (fun j _ _ => hI _ _ (by omega) (by omega))⟩
/-- a property, both sides -/
def rl_p (T : wv_T) (I : rl_I) (L : rl_L) (R : rl_R) (tb : Nat → Bool) (p m : Nat) (v : Nat → Nat) (C : Nat) (P : pd_P) (S : rn_N) (m0 x : Nat) (sq : List Nat) : Prop := R 27 p = some C ∧ rb_S P S m0 x sq ∧ rl_e T I L R C P S sq ∧ kp_K I p S m0 x sq ∧ rl_s I L p m v C P ∧ rl_c I R C S sq tb ∧ rl_z I p S sq
