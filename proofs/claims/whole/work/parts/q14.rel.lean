/-! ===== how the two objects stand to one another ===== -/
abbrev rl_I : Type := Nat → Nat → Int32
abbrev rl_L : Type := Nat → Nat → Int64
abbrev rl_R : Type := Nat → Nat → Option Nat
/-- properties of the class -/
def rl_C (C : Nat) : Prop := C = 28 ∨ C = 124 ∨ C = 220 ∨ C = 346
def rl_m (T T1 : wv_T) : Prop := ∀ y v, T y = some v → T1 y = some v
/-- types and links that never change -/
def rl_F (T : wv_T) (R : rl_R) : Prop := wm_T T ∧ wm_A T ∧ T 536 = some (.inr (1, 1)) ∧ T 460 = some (.inl 12) ∧ T 0 = some (.inl 0) ∧ T 27 = some (.inr (4, 2)) ∧ T 342 = some (.inr (7, 2)) ∧ (∀ p, p < 2 → R 342 p = some (343 + p)) ∧ (∀ C, rl_C C → pp_D T R C ∧ ∀ k, k < 4 → kc_D T R (C + 76 + 5 * k)) ∧ (∀ C, (C = 316 ∨ C = 442 ∨ C = 451) → wd_D T R C ∧ T (C + 7) = some (.inl 13) ∧ R C 6 = some (C + 7)) ∧ wh_H T R 325 ∧ wh_H T R 333
/-- links that stay -/
def rl_rk (R R1 : rl_R) : Prop := ∀ c j, c < 460 → ¬ c = 0 → ¬ c = 27 → ¬ (j = 0 ∧ ((37 ≤ c ∧ c < 104) ∨ (133 ≤ c ∧ c < 200) ∨ (229 ≤ c ∧ c < 296) ∨ (355 ≤ c ∧ c < 422))) → ¬ (j = 4 ∧ ((104 ≤ c ∧ c < 124) ∨ (200 ≤ c ∧ c < 220) ∨ (296 ≤ c ∧ c < 316) ∨ (422 ≤ c ∧ c < 442))) → ¬ ((c = 325 ∨ c = 333) ∧ j = 7) → ¬ ((c = 323 ∨ c = 449 ∨ c = 458) ∧ j = 0) → R1 c j = R c j
theorem rl_rk_id (R : rl_R) : rl_rk R R := fun _ _ _ _ _ _ _ _ _ => rfl
theorem rl_m_id (T : wv_T) : rl_m T T := fun _ _ h => h
theorem rl_F_c {T T1 : wv_T} {R R1 : rl_R} (h : rl_F T R) (hT : rl_m T T1) (hR : rl_rk R R1) : rl_F T1 R1 := by
  obtain ⟨a1, a2, a3, a4, a5, a6, a7, a8, a9, a10, a11, a12⟩ := h
  refine ⟨fun a x e => hT _ _ (a1 a x e), fun c hc => ?_, hT _ _ a3, hT _ _ a4, hT _ _ a5, hT _ _ a6, hT _ _ a7, fun p hp => ?_, fun C hC => ?_, fun C hC => ?_, ?_, ?_⟩
  · cases e : T c with
    | none => exact (a2 c hc e).elim
    | some x => rw [hT _ _ e]; exact fun z => by cases z
  · rw [hR _ _ (by omega) (by omega) (by omega) (by omega) (by omega) (by omega) (by omega)]
    exact a8 p hp
  · obtain ⟨⟨b1, ⟨b2, b3, b4, b5, b6, b7, b8, b9⟩, ⟨c1, c2, c3, c4, c5, c6⟩, ⟨k1, d1⟩, ⟨k2, d2⟩, d3, d4⟩, d5⟩ := a9 C hC
    have rr : ∀ j, R1 C j = R C j := fun j => hR _ _ (by rcases hC with rfl | rfl | rfl | rfl <;> omega) (by rcases hC with rfl | rfl | rfl | rfl <;> omega) (by rcases hC with rfl | rfl | rfl | rfl <;> omega) (by rcases hC with rfl | rfl | rfl | rfl <;> omega) (by rcases hC with rfl | rfl | rfl | rfl <;> omega) (by rcases hC with rfl | rfl | rfl | rfl <;> omega) (by rcases hC with rfl | rfl | rfl | rfl <;> omega)
    have rs : ∀ j, R1 (C + 7) j = R (C + 7) j ∧ R1 (C + 8) j = R (C + 8) j := fun j => by
      rcases hC with rfl | rfl | rfl | rfl
      all_goals exact ⟨hR _ _ (by omega) (by omega) (by omega) (by omega) (by omega) (by omega) (by omega), hR _ _ (by omega) (by omega) (by omega) (by omega) (by omega) (by omega) (by omega)⟩
    refine ⟨⟨hT _ _ b1, ⟨by rw [rr]; exact b2, by rw [rr]; exact b3, by rw [rr]; exact b4, by rw [rr]; exact b5, by rw [rr]; exact b6, by rw [rr]; exact b7, by rw [rr]; exact b8, by rw [rr]; exact b9⟩, ⟨hT _ _ c1, hT _ _ c2, hT _ _ c3, hT _ _ c4, hT _ _ c5, hT _ _ c6⟩, ⟨k1, hT _ _ d1⟩, ⟨k2, hT _ _ d2⟩, fun k hk => ⟨by rw [(rs k).1]; exact (d3 k hk).1, hT _ _ (d3 k hk).2⟩, fun k hk => ⟨by rw [(rs k).2]; exact (d4 k hk).1, hT _ _ (d4 k hk).2⟩⟩, fun k hk => ?_⟩
    obtain ⟨e1, e2, e3, e4, e5, e6, e7, e8, e9, e10⟩ := d5 k hk
    have re : ∀ j, j < 4 → R1 (C + 76 + 5 * k) j = R (C + 76 + 5 * k) j := fun j hj => by
      rcases hC with rfl | rfl | rfl | rfl
      all_goals exact hR _ _ (by omega) (by omega) (by omega) (by omega) (by omega) (by omega) (by omega)
    exact ⟨hT _ _ e1, by rw [re _ (by omega)]; exact e2, by rw [re _ (by omega)]; exact e3, by rw [re _ (by omega)]; exact e4, by rw [re _ (by omega)]; exact e5, hT _ _ e6, hT _ _ e7, hT _ _ e8, hT _ _ e9, e10⟩
  · obtain ⟨⟨b1, b2, b3, b4, b5, b6, b7, b8⟩, b9, b10⟩ := a10 C hC
    have rr : ∀ j, R1 C j = R C j := fun j => by
      rcases hC with rfl | rfl | rfl
      all_goals exact hR _ _ (by omega) (by omega) (by omega) (by omega) (by omega) (by omega) (by omega)
    exact ⟨⟨hT _ _ b1, fun k hk => by rw [rr]; exact b2 k hk, hT _ _ b3, hT _ _ b4, hT _ _ b5, hT _ _ b6, hT _ _ b7, hT _ _ b8⟩, hT _ _ b9, by rw [rr]; exact b10⟩
  · obtain ⟨b1, b2, b3, b4, b5, b6, b7, b8, b9⟩ := a11
    exact ⟨hT _ _ b1, fun k hk => by rw [hR _ _ (by omega) (by omega) (by omega) (by omega) (by omega) (by omega) (by omega)]; exact b2 k hk, hT _ _ b3, hT _ _ b4, hT _ _ b5, hT _ _ b6, hT _ _ b7, hT _ _ b8, hT _ _ b9⟩
  · obtain ⟨b1, b2, b3, b4, b5, b6, b7, b8, b9⟩ := a12
    exact ⟨hT _ _ b1, fun k hk => by rw [hR _ _ (by omega) (by omega) (by omega) (by omega) (by omega) (by omega) (by omega)]; exact b2 k hk, hT _ _ b3, hT _ _ b4, hT _ _ b5, hT _ _ b6, hT _ _ b7, hT _ _ b8, hT _ _ b9⟩
/-- things outside -/
def rl_X (T : wv_T) (I : rl_I) (L : rl_L) (R : rl_R) : Prop := wt_S T I R ∧ wt_LW T L ∧ bu_T T I
def rl_o {α : Type} (f g : Nat → Nat → α) : Prop := ∀ c j, 1099511627776 ≤ c → g c j = f c j
theorem rl_X_c {T T1 : wv_T} {I J : rl_I} {L M : rl_L} {R R1 : rl_R} (h : rl_X T I L R) (hT : rl_m T T1) (hI : rl_o I J) (hL : rl_o L M) (hR : rl_o R R1) : rl_X T1 J M R1 := by
  obtain ⟨h1, ⟨h2, h3⟩, h4, h5, h6⟩ := h
  refine ⟨fun i w e => ?_, ⟨hT _ _ h2, fun v hv u hu => by rw [hL _ _ (by omega)]; exact h3 v hv u hu⟩, hT _ _ h4, hT _ _ h5, fun r hr => ?_⟩
  · obtain ⟨a1, a2, a3, a4, a5, a6⟩ := h1 i w e
    exact ⟨hT _ _ a1, by rw [hR _ _ (by omega)]; exact a2, by rw [hI _ _ (by omega)]; exact a3, hT _ _ a4, a5, fun k c hk => by rw [hI _ _ (by omega)]; exact a6 k c hk⟩
  · rw [hI _ _ (by omega), hI _ _ (by omega)]
    exact h6 r hr
/-- the text -/
def rl_t (n : Nat) (I : rl_I) : Prop := I 1 6 = Int32.ofNat n ∧ I 460 2 = Int32.ofNat n ∧ n ≤ 400 ∧ ∀ k, k < n → I 2 k = I 461 k ∧ ¬ I 2 k = 0
theorem rl_t_c {n : Nat} {I J : rl_I} (h : rl_t n I) (h1 : J 1 6 = I 1 6) (h2 : J 460 2 = I 460 2) (h3 : ∀ j, J 2 j = I 2 j) (h4 : ∀ j, J 461 j = I 461 j) : rl_t n J := by
  obtain ⟨a, b, c, d⟩ := h
  exact ⟨h1.trans a, h2.trans b, c, fun k hk => by rw [h3, h4]; exact d k hk⟩
theorem rl_t_0 {I : rl_I} (h1 : I 1 6 = Int32.ofInt 0) (h2 : I 460 2 = 0) : rl_t 0 I := ⟨h1, h2, by omega, fun k hk => absurd hk (Nat.not_lt_zero _)⟩
theorem rl_t_Y {T : wv_T} {n : Nat} {I : rl_I} (hT : wm_T T) (h : rl_t n I) : wp_Y T I (wt_c I) n := by
  obtain ⟨a, b, c, d⟩ := h
  have en := wi_on (n := n) (by omega)
  refine ⟨⟨hT, by rw [b, en]; omega, by rw [b, en]; omega⟩, ?_, c, fun p hp => ?_, fun p hp => ?_⟩
  · funext k
    unfold wt_m wt_c
    rw [a, b, en]
    by_cases hk : (k : Int) < n
    · rw [if_pos hk, if_pos hk, (d k (by omega)).1]
    · rw [if_neg hk, if_neg hk]
  · unfold wt_c
    rw [a, en, if_neg (by omega)]
  · unfold wt_c
    rw [a, en, if_pos (by omega)]
    exact (d p hp).2
/-- the word -/
def rl_w (m : Nat) (v : Nat → Nat) (I : rl_I) : Prop := I 0 16 = Int32.ofNat m ∧ I 460 46 = Int32.ofNat m ∧ m ≤ 24 ∧ ∀ k, k < m → I 341 k = Int32.ofNat (v k) ∧ I 489 k = Int32.ofNat (v k) ∧ v k < 64
theorem rl_w_c {m : Nat} {v : Nat → Nat} {I J : rl_I} (h : rl_w m v I) (h1 : J 0 16 = I 0 16) (h2 : J 460 46 = I 460 46) (h3 : ∀ j, J 341 j = I 341 j) (h4 : ∀ j, J 489 j = I 489 j) : rl_w m v J := by
  obtain ⟨a, b, c, d⟩ := h
  exact ⟨h1.trans a, h2.trans b, c, fun k hk => by rw [h3, h4]; exact d k hk⟩
theorem rl_w_0 {v : Nat → Nat} {I : rl_I} (h1 : I 0 16 = 0) (h2 : I 460 46 = 0) : rl_w 0 v I := ⟨h1, h2, by omega, fun k hk => absurd hk (Nat.not_lt_zero _)⟩
/-- looks -/
def rl_k (lk : Nat) (I : rl_I) : Prop := I 0 17 = Int32.ofNat lk ∧ I 460 65 = Int32.ofNat lk ∧ lk ≤ 5
theorem rl_k_c {lk : Nat} {I J : rl_I} (h : rl_k lk I) (h1 : J 0 17 = I 0 17) (h2 : J 460 65 = I 460 65) : rl_k lk J := ⟨h1.trans h.1, h2.trans h.2.1, h.2.2⟩
/-- what was found -/
def rl_h (I : rl_I) : Prop := ((I 325 8).toInt ≤ 12 ∧ I 325 8 = I 460 66 ∧ ∀ t : Nat, (t : Int) < (I 460 66).toInt → I 329 t = I 502 t ∧ I 330 t = I 503 t ∧ I 331 t = I 504 t) ∧ (I 333 8).toInt ≤ 12 ∧ I 333 8 = I 460 70 ∧ ∀ t : Nat, (t : Int) < (I 460 70).toInt → I 338 t = I 505 t
theorem rl_h_c {I J : rl_I} (h : rl_h I) (h1 : J 325 8 = I 325 8) (h2 : J 460 66 = I 460 66) (h3 : J 333 8 = I 333 8) (h4 : J 460 70 = I 460 70) (h5 : ∀ c j, 329 ≤ c → c ≤ 331 → J c j = I c j) (h6 : ∀ j, J 338 j = I 338 j) (h7 : ∀ c j, 502 ≤ c → c ≤ 505 → J c j = I c j) : rl_h J := by
  obtain ⟨⟨a1, a2, a3⟩, b1, b2, b3⟩ := h
  refine ⟨⟨by rw [h1]; exact a1, by rw [h1, h2]; exact a2, fun t ht => ?_⟩, by rw [h3]; exact b1, by rw [h3, h4]; exact b2, fun t ht => ?_⟩
  · rw [h2] at ht
    rw [h5 329 t (by omega) (by omega), h5 330 t (by omega) (by omega), h5 331 t (by omega) (by omega), h7 502 t (by omega) (by omega), h7 503 t (by omega) (by omega), h7 504 t (by omega) (by omega)]
    exact a3 t ht
  · rw [h4] at ht
    rw [h6, h7 505 t (by omega) (by omega)]
    exact b3 t ht
/-- rows of a hunt -/
def rl_r (T : wv_T) (N : Nat) (R : rl_R) (H : Nat) : Prop := ∃ B l, R H 7 = some B ∧ T B = some (.inr (1, l)) ∧ l < 100000 ∧ (0 < l → 536 < B ∧ B < N ∧ ∀ Q, pq_q Q → ¬ R Q 0 = some B)
/-- an object of Classes -/
def rl_E (E : Nat) : Prop := ∃ C k, rl_C C ∧ k < 4 ∧ E = C + 76 + 5 * k
/-- tables of classes -/
def rl_T (T : wv_T) (N : Nat) (R : rl_R) (tb : Nat → Bool) : Prop := (∀ E, rl_E E → ∃ B, R E 4 = some B ∧ (tb E = true → T B = some (.inr (0, 4224)) ∧ 536 < B ∧ B < N) ∧ (tb E = false → T B = some (.inr (0, 0)))) ∧ ∀ E E2 B, rl_E E → rl_E E2 → ¬ E = E2 → tb E = true → R E 4 = some B → ¬ R E2 4 = some B
def rl_O (T : wv_T) (N : Nat) (R : rl_R) (tb : Nat → Bool) : Prop := pq_O T N R ∧ rl_r T N R 325 ∧ rl_r T N R 333 ∧ rl_T T N R tb ∧ 536 < N
