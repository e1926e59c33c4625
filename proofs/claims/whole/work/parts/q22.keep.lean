/-! ===== the relation is kept: gates, latches, signals ===== -/
def rl_up {α : Type} (f : Nat → α) (k : Nat) (x : α) : Nat → α := fun j => if j = k then x else f j
theorem rl_up_at {α : Type} {f : Nat → α} {k : Nat} {x : α} : rl_up f k x k = x := if_pos rfl
theorem rl_up_no {α : Type} {f : Nat → α} {k j : Nat} {x : α} (h : ¬ j = k) : rl_up f k x j = f j := if_neg h
theorem rl_lit {a b g : Nat} {l : Int32} (h : a + b + g ≤ 200) (hl : wo_no (Int32.ofNat a) (Int32.ofNat b) (Int32.ofNat g) l = false) : ∃ k : Nat, l = Int32.ofNat k ∧ k < 2 * (1 + a + b + g) := by
  have hl := of_decide_eq_false hl
  have e : (Int32.ofInt 2 * (Int32.ofInt 1 + Int32.ofNat a + Int32.ofNat b + Int32.ofNat g)).toInt = 2 * (1 + a + b + g) := nq_li h
  rw [wi_lt, wi_le, wi_0, e] at hl
  exact rl_on (by omega) (by omega) (by omega)
theorem Rl_S {T : wv_T} {N : Nat} {I : rl_I} {R : rl_R} {Cd Dd a b g : Nat} {nx : Nat → Nat} {fi : Nat → Bool} {sg on tw : Nat → Nat} {V cp : Nat → Nat} {z : Nat → List Nat} (hF : rl_F T R) (hD : rl_d T N I R Cd Dd a b g nx fi sg on tw V cp z) : wL_B T R Cd ∧ wL_S I Cd := by
  obtain ⟨d1, ⟨d2, d3⟩, d4, d5, d6, d7⟩ := hD
  have v := d4
  unfold dz_V at v
  refine ⟨⟨hF.2.2.1, hF.1, hF.2.2.2.1, hF.2.2.2.2.2.2.2.2.2.2.1.1, hF.2.2.2.2.2.2.2.2.2.2.2.1, d2, (hF.2.2.2.2.2.2.2.2.2.1 Cd (by omega)).1, by omega⟩, by rw [d5.1, d6.1], by rw [d5.2.1, d6.2.1], by rw [d5.2.2.1, d6.2.2.1], ?_, ?_, ?_⟩
  · rw [d6.1, wi_on (by omega)]
    omega
  · rw [d6.2.1, wi_on (by omega)]
    omega
  · rw [d6.2.2.1, wi_on (by omega)]
    omega
theorem Rl_19 : wL_19 Rl := by
  intro T N I L R nc ns i hi h
  have h0 := h
  obtain ⟨n, lk, m, v, tb, Cs, C, P, S, m0, x, sq, Cd, Dd, a, b, g, nx, fi, sg, on, tw, V, cp, z, hA, hB, hD, hN⟩ := h
  obtain ⟨b1, b2⟩ := Rl_S hA.1 hD
  refine ⟨Cd, b1, b2, Rl_th h0, Rl_th h0, fun p q y hpq hg => ?_⟩
  have hD0 := hD
  obtain ⟨d1, ⟨d2, d3⟩, ⟨v1, v2, v3, v4, v5, v6, v7⟩, d5, d6, d7⟩ := hD
  have hc : Cd = 442 ∨ Cd = 451 := by omega
  rw [d6.2.2.1, wi_on (by omega)] at hg
  rw [Bool.or_eq_false_iff] at hpq
  have lit : ∀ l, wn_no I l = false → ∃ k : Nat, l = Int32.ofNat k ∧ k < 2 * (1 + a + b + g) := fun l hl => by
    unfold wn_no wn_lim at hl
    rw [d6.1, d6.2.1, d6.2.2.1] at hl
    exact rl_lit (by omega) hl
  obtain ⟨p, rfl, hp⟩ := lit p hpq.1
  obtain ⟨q, rfl, hq⟩ := lit q hpq.2
  have e10 : I Cd 10 = Int32.ofNat g := d5.2.2.1
  rw [e10]
  have en := wi_onn (n := g) (by omega)
  have fX : ∀ c j, ¬ (c = Cd ∧ (j = 7 ∨ j = 10)) → ¬ (c = Cd + 1 ∧ j = g) → ¬ (c = Cd + 2 ∧ j = g) → ¬ (c = 325 ∧ j = 8) → ¬ (c = 460 ∧ j = 0) → (wv_u (wd_add Cd (Int32.ofNat p) (Int32.ofNat q) (Int32.ofNat g) (wv_u I 325 8 (Int32.ofInt 0))) 460 0 0) c j = I c j := fun c j w1 w2 w3 w4 w5 => by
    unfold wd_add
    rw [en, wv_u_no _ _ (by omega), wv_u_no _ _ (by omega), wv_u_no _ _ (by omega), wv_u_no _ _ (by omega), wv_u_no _ _ (by omega), wv_u_no _ _ (by omega)]
  have x7 : (wv_u (wd_add Cd (Int32.ofNat p) (Int32.ofNat q) (Int32.ofNat g) (wv_u I 325 8 (Int32.ofInt 0))) 460 0 0) Cd 7 = 0 := by
    unfold wd_add
    rw [wv_u_no _ _ (by omega), wv_u_at]
    rfl
  have x10 : (wv_u (wd_add Cd (Int32.ofNat p) (Int32.ofNat q) (Int32.ofNat g) (wv_u I 325 8 (Int32.ofInt 0))) 460 0 0) Cd 10 = Int32.ofNat (g + 1) := by
    unfold wd_add
    rw [wv_u_no _ _ (by omega), wv_u_no _ _ (by omega), wv_u_at]
    exact wq_4s g
  have x1 : (wv_u (wd_add Cd (Int32.ofNat p) (Int32.ofNat q) (Int32.ofNat g) (wv_u I 325 8 (Int32.ofInt 0))) 460 0 0) (Cd + 1) g = Int32.ofNat p := by
    unfold wd_add
    rw [en, wv_u_no _ _ (by omega), wv_u_no _ _ (by omega), wv_u_no _ _ (by omega), wv_u_no _ _ (by omega), wv_u_at]
  have x2 : (wv_u (wd_add Cd (Int32.ofNat p) (Int32.ofNat q) (Int32.ofNat g) (wv_u I 325 8 (Int32.ofInt 0))) 460 0 0) (Cd + 2) g = Int32.ofNat q := by
    unfold wd_add
    rw [en, wv_u_no _ _ (by omega), wv_u_no _ _ (by omega), wv_u_no _ _ (by omega), wv_u_at]
  have x8 : (wv_u (wd_add Cd (Int32.ofNat p) (Int32.ofNat q) (Int32.ofNat g) (wv_u I 325 8 (Int32.ofInt 0))) 460 0 0) 325 8 = 0 := by
    unfold wd_add
    rw [wv_u_no _ _ (by omega), wv_u_no _ _ (by omega), wv_u_no _ _ (by omega), wv_u_no _ _ (by omega), wv_u_no _ _ (by omega), wv_u_at]
    rfl
  generalize wv_u (wd_add Cd (Int32.ofNat p) (Int32.ofNat q) (Int32.ofNat g) (wv_u I 325 8 (Int32.ofInt 0))) 460 0 0 = X at fX x7 x10 x1 x2 x8
  have g58 : X 460 58 = Int32.ofNat g := (fX _ _ (by omega) (by omega) (by omega) (by omega) (by omega)).trans d6.2.2.1
  have gJ : ∀ c j, ¬ (c = 496 ∧ j = g) → ¬ (c = 497 ∧ j = g) → ¬ (c = 460 ∧ (j = 58 ∨ j = 66)) → wn_add (Int32.ofNat p) (Int32.ofNat q) X c j = X c j := fun c j w1 w2 w3 => by
    unfold wn_add
    rw [g58, en, wv_u_no _ _ (by omega), wv_u_no _ _ (by omega), wv_u_no _ _ (by omega), wv_u_no _ _ (by omega)]
  refine Rl_de hA hB hD0 hN (fun c j w1 w2 w3 w4 => ?_) rl_fL_u (a2 := a) (b2 := b) (g2 := g + 1) (nx2 := nx) (fi2 := fi) (sg2 := sg) (on2 := rl_up on g p) (tw2 := rl_up tw g q) ?_ ?_ ?_ ?_ ?_ ?_
  · rw [gJ _ _ (by omega) (by omega) (by omega), fX _ _ (by omega) (by omega) (by omega) (by omega) (by omega)]
  · rw [gJ _ _ (by omega) (by omega) (by omega)]
    exact x8
  · exact wv_u_at _ _ _ _
  · refine ⟨v1, v2, v3, by omega, fun i hi => by have := v5 i hi; omega, fun i hi => by have := v6 i hi; omega, fun i hi => ?_⟩
    by_cases c : i = g
    · subst c
      rw [rl_up_at, rl_up_at]
      exact ⟨hp, hq⟩
    · rw [rl_up_no c, rl_up_no c]
      exact v7 i (by omega)
  · obtain ⟨m1, m2, m3, m4, m5, m6⟩ := d5
    refine ⟨?_, ?_, ?_, fun i hi => ⟨?_, ?_⟩, fun i hi => ?_, fun i hi => ?_⟩
    · rw [gJ _ _ (by omega) (by omega) (by omega), fX _ _ (by omega) (by omega) (by omega) (by omega) (by omega)]; exact m1
    · rw [gJ _ _ (by omega) (by omega) (by omega), fX _ _ (by omega) (by omega) (by omega) (by omega) (by omega)]; exact m2
    · rw [gJ _ _ (by omega) (by omega) (by omega)]; exact x10
    · rw [gJ _ _ (by omega) (by omega) (by omega), fX _ _ (by omega) (by omega) (by omega) (by omega) (by omega)]; exact (m4 i hi).1
    · rw [gJ _ _ (by omega) (by omega) (by omega), fX _ _ (by omega) (by omega) (by omega) (by omega) (by omega)]; exact (m4 i hi).2
    · rw [gJ _ _ (by omega) (by omega) (by omega), fX _ _ (by omega) (by omega) (by omega) (by omega) (by omega)]; exact m5 i hi
    · rw [gJ _ _ (by omega) (by omega) (by omega), gJ _ _ (by omega) (by omega) (by omega)]
      by_cases c : i = g
      · subst c
        rw [rl_up_at, rl_up_at]
        exact ⟨x1, x2⟩
      · rw [rl_up_no c, rl_up_no c, fX _ _ (by omega) (by omega) (by omega) (by omega) (by omega), fX _ _ (by omega) (by omega) (by omega) (by omega) (by omega)]
        exact m6 i (by omega)
  · obtain ⟨m1, m2, m3, m4, m5, m6⟩ := d6
    refine ⟨?_, ?_, ?_, fun i hi => ⟨?_, ?_⟩, fun i hi => ?_, fun i hi => ?_⟩
    · rw [gJ _ _ (by omega) (by omega) (by omega), fX _ _ (by omega) (by omega) (by omega) (by omega) (by omega)]; exact m1
    · rw [gJ _ _ (by omega) (by omega) (by omega), fX _ _ (by omega) (by omega) (by omega) (by omega) (by omega)]; exact m2
    · unfold wn_add
      rw [g58, wv_u_no _ _ (by omega), wv_u_at]
      exact wq_4s g
    · rw [gJ _ _ (by omega) (by omega) (by omega), fX _ _ (by omega) (by omega) (by omega) (by omega) (by omega)]; exact (m4 i hi).1
    · rw [gJ _ _ (by omega) (by omega) (by omega), fX _ _ (by omega) (by omega) (by omega) (by omega) (by omega)]; exact (m4 i hi).2
    · rw [gJ _ _ (by omega) (by omega) (by omega), fX _ _ (by omega) (by omega) (by omega) (by omega) (by omega)]; exact m5 i hi
    · by_cases c : i = g
      · subst c
        rw [rl_up_at, rl_up_at]
        unfold wn_add
        rw [g58, en]
        constructor
        · rw [wv_u_no _ _ (by omega), wv_u_no _ _ (by omega), wv_u_no _ _ (by omega), wv_u_at]
        · rw [wv_u_no _ _ (by omega), wv_u_no _ _ (by omega), wv_u_at]
      · rw [rl_up_no c, rl_up_no c, gJ _ _ (by omega) (by omega) (by omega), gJ _ _ (by omega) (by omega) (by omega), fX _ _ (by omega) (by omega) (by omega) (by omega) (by omega), fX _ _ (by omega) (by omega) (by omega) (by omega) (by omega)]
        exact m6 i (by omega)
  · rw [gJ _ _ (by omega) (by omega) (by omega)]
    exact x7
theorem Rl_21 : wL_21 Rl := by
  intro T N I L R nc ns i hi h
  have h0 := h
  obtain ⟨n, lk, m, v, tb, Cs, C, P, S, m0, x, sq, Cd, Dd, a, b, g, nx, fi, sg, on, tw, V, cp, z, hA, hB, hD, hN⟩ := h
  obtain ⟨b1, b2⟩ := Rl_S hA.1 hD
  refine ⟨Cd, b1, b2, Rl_th h0, fun k l hkl => ?_⟩
  have hD0 := hD
  obtain ⟨d1, ⟨d2, d3⟩, ⟨v1, v2, v3, v4, v5, v6, v7⟩, d5, d6, d7⟩ := hD
  have hc : Cd = 442 ∨ Cd = 451 := by omega
  unfold wk_bs at hkl
  rw [d6.1, d6.2.1, d6.2.2.1, wi_lt, wi_0] at hkl
  have hno : wo_no (Int32.ofNat a) (Int32.ofNat b) (Int32.ofNat g) l = false := by
    cases e : wo_no (Int32.ofNat a) (Int32.ofNat b) (Int32.ofNat g) l with
    | false => rfl
    | true => exact (hkl (Or.inr (Or.inr e))).elim
  obtain ⟨l, rfl, hl⟩ := rl_lit (by omega) hno
  obtain ⟨k, rfl, hk⟩ := rl_on (x := k) (k := 6) (by omega) (by omega) (by omega)
  have en := wi_onn (n := k) (by omega)
  have gJ : ∀ c j, ¬ (c = 500 ∧ j = k) → ¬ (c = 460 ∧ (j = 0 ∨ j = 66)) → ¬ (c = Cd + 5 ∧ j = k) → ¬ (c = Cd ∧ j = 7) → ¬ (c = 325 ∧ j = 8) → wn_sig (Int32.ofNat k) (Int32.ofNat l) (wv_u (wd_sig Cd (Int32.ofNat k) (Int32.ofNat l) I) 460 0 0) c j = I c j := fun c j w1 w2 w3 w4 w5 => by
    unfold wn_sig wd_sig
    rw [en, wv_u_no _ _ (by omega), wv_u_no _ _ (by omega), wv_u_no _ _ (by omega), wv_u_no _ _ (by omega), wv_u_no _ _ (by omega), wv_u_no _ _ (by omega)]
  have j66 : wn_sig (Int32.ofNat k) (Int32.ofNat l) (wv_u (wd_sig Cd (Int32.ofNat k) (Int32.ofNat l) I) 460 0 0) 460 66 = 0 := wv_u_at _ _ _ _
  have j5 : wn_sig (Int32.ofNat k) (Int32.ofNat l) (wv_u (wd_sig Cd (Int32.ofNat k) (Int32.ofNat l) I) 460 0 0) 500 k = Int32.ofNat l := by
    unfold wn_sig
    rw [en, wv_u_no _ _ (by omega), wv_u_at]
  have jc : wn_sig (Int32.ofNat k) (Int32.ofNat l) (wv_u (wd_sig Cd (Int32.ofNat k) (Int32.ofNat l) I) 460 0 0) (Cd + 5) k = Int32.ofNat l := by
    unfold wn_sig wd_sig
    rw [en, wv_u_no _ _ (by omega), wv_u_no _ _ (by omega), wv_u_no _ _ (by omega), wv_u_no _ _ (by omega), wv_u_no _ _ (by omega), wv_u_at]
  have j7 : wn_sig (Int32.ofNat k) (Int32.ofNat l) (wv_u (wd_sig Cd (Int32.ofNat k) (Int32.ofNat l) I) 460 0 0) Cd 7 = 0 := by
    unfold wn_sig wd_sig
    rw [wv_u_no _ _ (by omega), wv_u_no _ _ (by omega), wv_u_no _ _ (by omega), wv_u_no _ _ (by omega), wv_u_at]
    rfl
  have j8 : wn_sig (Int32.ofNat k) (Int32.ofNat l) (wv_u (wd_sig Cd (Int32.ofNat k) (Int32.ofNat l) I) 460 0 0) 325 8 = 0 := by
    unfold wn_sig wd_sig
    rw [wv_u_no _ _ (by omega), wv_u_no _ _ (by omega), wv_u_no _ _ (by omega), wv_u_at]
    rfl
  generalize wn_sig (Int32.ofNat k) (Int32.ofNat l) (wv_u (wd_sig Cd (Int32.ofNat k) (Int32.ofNat l) I) 460 0 0) = J at gJ j66 j5 jc j7 j8
  refine Rl_de hA hB hD0 hN (fun c j w1 w2 w3 w4 => gJ _ _ (by omega) (by omega) (by omega) (by omega) (by omega)) (rl_fL_id L) (a2 := a) (b2 := b) (g2 := g) (nx2 := nx) (fi2 := fi) (sg2 := rl_up sg k l) (on2 := on) (tw2 := tw) j8 j66 ⟨v1, v2, v3, v4, v5, fun i hi => ?_, v7⟩ ?_ ?_ j7
  · by_cases c : i = k
    · subst c
      rw [rl_up_at]
      exact hl
    · rw [rl_up_no c]
      exact v6 i hi
  · obtain ⟨m1, m2, m3, m4, m5, m6⟩ := d5
    refine ⟨(gJ _ _ (by omega) (by omega) (by omega) (by omega) (by omega)).trans m1, (gJ _ _ (by omega) (by omega) (by omega) (by omega) (by omega)).trans m2, (gJ _ _ (by omega) (by omega) (by omega) (by omega) (by omega)).trans m3, fun i hi => ⟨(gJ _ _ (by omega) (by omega) (by omega) (by omega) (by omega)).trans (m4 i hi).1, (gJ _ _ (by omega) (by omega) (by omega) (by omega) (by omega)).trans (m4 i hi).2⟩, fun i hi => ?_, fun i hi => ⟨(gJ _ _ (by omega) (by omega) (by omega) (by omega) (by omega)).trans (m6 i hi).1, (gJ _ _ (by omega) (by omega) (by omega) (by omega) (by omega)).trans (m6 i hi).2⟩⟩
    by_cases c : i = k
    · subst c
      rw [rl_up_at]
      exact jc
    · rw [rl_up_no c, gJ _ _ (by omega) (by omega) (by omega) (by omega) (by omega)]
      exact m5 i hi
  · obtain ⟨m1, m2, m3, m4, m5, m6⟩ := d6
    refine ⟨(gJ _ _ (by omega) (by omega) (by omega) (by omega) (by omega)).trans m1, (gJ _ _ (by omega) (by omega) (by omega) (by omega) (by omega)).trans m2, (gJ _ _ (by omega) (by omega) (by omega) (by omega) (by omega)).trans m3, fun i hi => ⟨(gJ _ _ (by omega) (by omega) (by omega) (by omega) (by omega)).trans (m4 i hi).1, (gJ _ _ (by omega) (by omega) (by omega) (by omega) (by omega)).trans (m4 i hi).2⟩, fun i hi => ?_, fun i hi => ⟨(gJ _ _ (by omega) (by omega) (by omega) (by omega) (by omega)).trans (m6 i hi).1, (gJ _ _ (by omega) (by omega) (by omega) (by omega) (by omega)).trans (m6 i hi).2⟩⟩
    by_cases c : i = k
    · subst c
      rw [rl_up_at]
      exact j5
    · rw [rl_up_no c, gJ _ _ (by omega) (by omega) (by omega) (by omega) (by omega)]
      exact m5 i hi
theorem Rl_20 : wL_20 Rl := by
  intro T N I L R nc ns i hi h
  have h0 := h
  obtain ⟨n, lk, m, v, tb, Cs, C, P, S, m0, x, sq, Cd, Dd, a, b, g, nx, fi, sg, on, tw, V, cp, z, hA, hB, hD, hN⟩ := h
  obtain ⟨b1, b2⟩ := Rl_S hA.1 hD
  refine ⟨Cd, b1, b2, Rl_th h0, fun k l f hf hkl => ?_⟩
  have hD0 := hD
  obtain ⟨d1, ⟨d2, d3⟩, ⟨v1, v2, v3, v4, v5, v6, v7⟩, d5, d6, d7⟩ := hD
  have hc : Cd = 442 ∨ Cd = 451 := by omega
  unfold wk_bl at hkl
  rw [d6.1, d6.2.1, d6.2.2.1, wi_lt, wi_0, wi_le, wi_on (n := b) (by omega)] at hkl
  have hno : wo_no (Int32.ofNat a) (Int32.ofNat b) (Int32.ofNat g) l = false := by
    cases e : wo_no (Int32.ofNat a) (Int32.ofNat b) (Int32.ofNat g) l with
    | false => rfl
    | true => exact (hkl (Or.inr (Or.inr e))).elim
  obtain ⟨l, rfl, hl⟩ := rl_lit (by omega) hno
  obtain ⟨k, rfl, hk⟩ := rl_on (x := k) (k := b) (by omega) (by omega) (by omega)
  have en := wi_onn (n := k) (by omega)
  obtain ⟨F, hF⟩ : ∃ F : Bool, vp_nar .boolean f = wb_i F := by
    rcases hf with rfl | rfl
    · exact ⟨false, rfl⟩
    · exact ⟨true, rfl⟩
  have gJ : ∀ c j, ¬ ((c = 498 ∨ c = 499) ∧ j = k) → ¬ (c = 460 ∧ (j = 0 ∨ j = 66)) → ¬ ((c = Cd + 3 ∨ c = Cd + 4) ∧ j = k) → ¬ (c = Cd ∧ j = 7) → ¬ (c = 325 ∧ j = 8) → wn_lat (Int32.ofNat k) (Int32.ofNat l) f (wv_u (wd_lat Cd (Int32.ofNat k) (Int32.ofNat l) f I) 460 0 0) c j = I c j := fun c j w1 w2 w3 w4 w5 => by
    unfold wn_lat wd_lat
    rw [en, wv_u_no _ _ (by omega), wv_u_no _ _ (by omega), wv_u_no _ _ (by omega), wv_u_no _ _ (by omega), wv_u_no _ _ (by omega), wv_u_no _ _ (by omega), wv_u_no _ _ (by omega), wv_u_no _ _ (by omega), wv_u_no _ _ (by omega)]
  have j66 : wn_lat (Int32.ofNat k) (Int32.ofNat l) f (wv_u (wd_lat Cd (Int32.ofNat k) (Int32.ofNat l) f I) 460 0 0) 460 66 = 0 := wv_u_at _ _ _ _
  have j3 : wn_lat (Int32.ofNat k) (Int32.ofNat l) f (wv_u (wd_lat Cd (Int32.ofNat k) (Int32.ofNat l) f I) 460 0 0) 498 k = Int32.ofNat l := by
    unfold wn_lat
    rw [en, wv_u_no _ _ (by omega), wv_u_no _ _ (by omega), wv_u_at]
  have j4 : wn_lat (Int32.ofNat k) (Int32.ofNat l) f (wv_u (wd_lat Cd (Int32.ofNat k) (Int32.ofNat l) f I) 460 0 0) 499 k = wb_i F := by
    unfold wn_lat
    rw [en, wv_u_no _ _ (by omega), wv_u_at]
    exact hF
  have jc3 : wn_lat (Int32.ofNat k) (Int32.ofNat l) f (wv_u (wd_lat Cd (Int32.ofNat k) (Int32.ofNat l) f I) 460 0 0) (Cd + 3) k = Int32.ofNat l := by
    unfold wn_lat wd_lat
    rw [en, wv_u_no _ _ (by omega), wv_u_no _ _ (by omega), wv_u_no _ _ (by omega), wv_u_no _ _ (by omega), wv_u_no _ _ (by omega), wv_u_no _ _ (by omega), wv_u_no _ _ (by omega), wv_u_no _ _ (by omega), wv_u_at]
  have jc4 : wn_lat (Int32.ofNat k) (Int32.ofNat l) f (wv_u (wd_lat Cd (Int32.ofNat k) (Int32.ofNat l) f I) 460 0 0) (Cd + 4) k = wb_i F := by
    unfold wn_lat wd_lat
    rw [en, wv_u_no _ _ (by omega), wv_u_no _ _ (by omega), wv_u_no _ _ (by omega), wv_u_no _ _ (by omega), wv_u_no _ _ (by omega), wv_u_no _ _ (by omega), wv_u_at]
    exact hF
  have j7 : wn_lat (Int32.ofNat k) (Int32.ofNat l) f (wv_u (wd_lat Cd (Int32.ofNat k) (Int32.ofNat l) f I) 460 0 0) Cd 7 = 0 := by
    unfold wn_lat wd_lat
    rw [wv_u_no _ _ (by omega), wv_u_no _ _ (by omega), wv_u_no _ _ (by omega), wv_u_no _ _ (by omega), wv_u_no _ _ (by omega), wv_u_at]
    rfl
  have j8 : wn_lat (Int32.ofNat k) (Int32.ofNat l) f (wv_u (wd_lat Cd (Int32.ofNat k) (Int32.ofNat l) f I) 460 0 0) 325 8 = 0 := by
    unfold wn_lat wd_lat
    rw [wv_u_no _ _ (by omega), wv_u_no _ _ (by omega), wv_u_no _ _ (by omega), wv_u_no _ _ (by omega), wv_u_at]
    rfl
  generalize wn_lat (Int32.ofNat k) (Int32.ofNat l) f (wv_u (wd_lat Cd (Int32.ofNat k) (Int32.ofNat l) f I) 460 0 0) = J at gJ j66 j3 j4 jc3 jc4 j7 j8
  refine Rl_de hA hB hD0 hN (fun c j w1 w2 w3 w4 => gJ _ _ (by omega) (by omega) (by omega) (by omega) (by omega)) (rl_fL_id L) (a2 := a) (b2 := b) (g2 := g) (nx2 := rl_up nx k l) (fi2 := rl_up fi k F) (sg2 := sg) (on2 := on) (tw2 := tw) j8 j66 ⟨v1, v2, v3, v4, fun i hi => ?_, v6, v7⟩ ?_ ?_ j7
  · by_cases c : i = k
    · subst c
      rw [rl_up_at]
      exact hl
    · rw [rl_up_no c]
      exact v5 i hi
  · obtain ⟨m1, m2, m3, m4, m5, m6⟩ := d5
    refine ⟨(gJ _ _ (by omega) (by omega) (by omega) (by omega) (by omega)).trans m1, (gJ _ _ (by omega) (by omega) (by omega) (by omega) (by omega)).trans m2, (gJ _ _ (by omega) (by omega) (by omega) (by omega) (by omega)).trans m3, fun i hi => ?_, fun i hi => (gJ _ _ (by omega) (by omega) (by omega) (by omega) (by omega)).trans (m5 i hi), fun i hi => ⟨(gJ _ _ (by omega) (by omega) (by omega) (by omega) (by omega)).trans (m6 i hi).1, (gJ _ _ (by omega) (by omega) (by omega) (by omega) (by omega)).trans (m6 i hi).2⟩⟩
    by_cases c : i = k
    · subst c
      rw [rl_up_at, rl_up_at]
      exact ⟨jc3, jc4⟩
    · rw [rl_up_no c, rl_up_no c, gJ _ _ (by omega) (by omega) (by omega) (by omega) (by omega), gJ _ _ (by omega) (by omega) (by omega) (by omega) (by omega)]
      exact m4 i hi
  · obtain ⟨m1, m2, m3, m4, m5, m6⟩ := d6
    refine ⟨(gJ _ _ (by omega) (by omega) (by omega) (by omega) (by omega)).trans m1, (gJ _ _ (by omega) (by omega) (by omega) (by omega) (by omega)).trans m2, (gJ _ _ (by omega) (by omega) (by omega) (by omega) (by omega)).trans m3, fun i hi => ?_, fun i hi => (gJ _ _ (by omega) (by omega) (by omega) (by omega) (by omega)).trans (m5 i hi), fun i hi => ⟨(gJ _ _ (by omega) (by omega) (by omega) (by omega) (by omega)).trans (m6 i hi).1, (gJ _ _ (by omega) (by omega) (by omega) (by omega) (by omega)).trans (m6 i hi).2⟩⟩
    by_cases c : i = k
    · subst c
      rw [rl_up_at, rl_up_at]
      exact ⟨j3, j4⟩
    · rw [rl_up_no c, rl_up_no c, gJ _ _ (by omega) (by omega) (by omega) (by omega) (by omega), gJ _ _ (by omega) (by omega) (by omega) (by omega) (by omega)]
      exact m4 i hi
