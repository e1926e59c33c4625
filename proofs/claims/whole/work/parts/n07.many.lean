/-! ===== the class: classes of several sequences ===== -/
theorem kc_res_c {E B g : Nat} {A : nt_A} {I J : Nat → Nat → Int32} (h : kc_res E B g A I) (h1 : ∀ j, J E j = I E j) (h2 : ∀ j, J (E + 2) j = I (E + 2) j) (h3 : ∀ j, J B j = I B j) : kc_res E B g A J := by
  obtain ⟨K, mv, kd, a1, a2, a3, a4, a5, a6, a7⟩ := h
  exact ⟨K, mv, kd, a1, (h1 _).trans a2, a3, (h1 _).trans a4, fun c hc => by rw [h2]; exact a5 c hc, fun c v hc hv => by rw [h3]; exact a6 c v hc hv, a7⟩
theorem kc_A_g {C k g : Nat} {A : nt_A} {T : wv_T} {N : Nat} {I : Nat → Nat → Int32} {L : Nat → Nat → Int64} {R : Nat → Nat → Option Nat} {T1 : wv_T} {N1 : Nat} {I1 : Nat → Nat → Int32} {L1 : Nat → Nat → Int64} {R1 : Nat → Nat → Option Nat} {n1 s1 : Nat} (hN : 535 < N) (h : kc_A C k A g T N I L R T1 N1 I1 L1 R1 n1 s1) : ∃ B, kc_B T1 R1 (C + 76 + 5 * k) B ∧ kc_res (C + 76 + 5 * k) B g A I1 ∧ (∀ c, ¬ T c = none → T1 c = T c) ∧ (∀ c j, c < 460 → ¬ (c = C + 76 + 5 * k ∧ j = 4) → R1 c j = R c j) ∧ (∀ c j, ¬ (c = C + 76 + 5 * k ∧ 5 ≤ j ∧ j ≤ 8) → ¬ (C + 76 + 5 * k + 2 ≤ c ∧ c ≤ C + 76 + 5 * k + 4) → ¬ c = B → (c < 460 ∨ ¬ T c = none) → I1 c j = I c j) ∧ (∀ c j, ¬ c = C + 76 + 5 * k + 1 → (c < 460 ∨ ¬ T c = none) → L1 c j = L c j) ∧ N1 = N + n1 ∧ n1 ≤ 1 ∧ s1 = 4224 * n1 ∧ (kc_B T R (C + 76 + 5 * k) B ∨ T B = none) := by
  obtain ⟨B, hB, hr, h⟩ := h
  refine ⟨B, hB, hr, ?_⟩
  rcases h with ⟨rfl, rfl, rfl, rfl, rfl, f, g⟩ | ⟨⟨hN0, _⟩, rfl, h5, h6, rfl, rfl, rfl, rfl, rfl, f, g⟩
  · exact ⟨fun _ _ => rfl, fun _ _ _ _ => rfl, fun c j z1 z2 z3 _ => f c j z1 z2 z3, fun c j z _ => g c j z, rfl, by omega, rfl, Or.inl hB⟩
  · refine ⟨fun c hc => ?_, fun c j hc z => ?_, fun c j z1 z2 z3 z4 => ?_, fun c j z1 z2 => ?_, rfl, Nat.le_refl _, rfl, Or.inr hN0⟩
    · unfold wv_n
      rw [if_neg (fun z => hc (by rw [z]; exact hN0))]
    · rw [wv_u_no _ _ z]
      exact if_neg (by omega)
    · rw [f c j z1 z2 z3]
      exact if_neg z3
    · rw [g c j z1]
      refine if_neg (fun z => ?_)
      subst z
      rcases z2 with z2 | z2
      · omega
      · exact z2 hN0
/-- the classes of nk sequences; b tables can still be made -/
def kf_I (C nk b : Nat) (A : Nat → nt_A) (w g : Nat → Nat) (T : wv_T) (N : Nat) (I : Nat → Nat → Int32) (L : Nat → Nat → Int64) (R : Nat → Nat → Option Nat) : Prop := pp_D T R C ∧ C + 100 < 460 ∧ nk ≤ 4 ∧ 535 < N ∧ N + b < 1000000000 ∧ (∀ k, k < nk → kc_D T R (C + 76 + 5 * k) ∧ kc_Q T I L R (C + 76 + 5 * k) (C + 9 + k) (A k) (w k) (g k) ∧ nt_n (A k) ≤ 6 ∧ kc_Sd C k (A k) (g k) T N I R ∧ ∀ B, R (C + 9 + k) 0 = some B → 536 ≤ B) ∧ ∀ k l B, k < nk → l < nk → ¬ k = l → kc_B T R (C + 76 + 5 * k) B → ¬ R (C + 76 + 5 * l) 4 = some B
theorem kf_sd {C k g N : Nat} {A : nt_A} {T : wv_T} {I : Nat → Nat → Int32} {R : Nat → Nat → Option Nat} (h : kc_Sd C k A g T N I R) : ∃ B, R (C + 76 + 5 * k) 4 = some B ∧ ¬ T B = none := by
  obtain ⟨B, h1, _, _, h4⟩ := h
  refine ⟨B, h1, ?_⟩
  rcases h4 with ⟨a1, _⟩ | ⟨_, a1⟩ | ⟨_, a1⟩
  · rw [a1.2.1]
    simp
  · rw [a1.2.1]
    simp
  · rw [a1]
    simp
theorem kf_step {C nk b k : Nat} {A : Nat → nt_A} {w g : Nat → Nat} {T : wv_T} {N : Nat} {I : Nat → Nat → Int32} {L : Nat → Nat → Int64} {R : Nat → Nat → Option Nat} {T1 : wv_T} {N1 : Nat} {I1 : Nat → Nat → Int32} {L1 : Nat → Nat → Int64} {R1 : Nat → Nat → Option Nat} {n1 s1 : Nat} (h : kf_I C nk (b + 1) A w g T N I L R) (hk : k < nk) (hA : kc_A C k (A k) (g k) T N I L R T1 N1 I1 L1 R1 n1 s1) : kf_I C nk b A w g T1 N1 I1 L1 R1 := by
  obtain ⟨hP, hC, hn4, hN, hNb, hS, hd⟩ := h
  obtain ⟨B, b1, b2, fT, fR, fI, fL, eN, en1, es1, hB⟩ := kc_A_g hN hA
  have b3 := b1.2.2.1
  have tm : ∀ y v, T y = some v → T1 y = some v := fun y v e => by rw [fT y (by rw [e]; simp)]; exact e
  have nB : ∀ l, l < nk → ¬ l = k → ¬ R (C + 76 + 5 * l) 4 = some B := fun l hl hlk e => by
    rcases hB with hB | hB
    · exact hd k l B hk hl (fun z => hlk z.symm) hB e
    · obtain ⟨B2, q1, q2⟩ := kf_sd (hS l hl).2.2.2.1
      rw [e] at q1
      cases q1
      exact q2 hB
  refine ⟨?_, hC, hn4, by omega, by omega, fun l hl => ?_, fun k1 l B2 hk1 hl hne e1 e2 => ?_⟩
  · obtain ⟨p1, ⟨p2, p3, p4, p5, p6, p7, p8, p9⟩, ⟨p10, p11, p12, p13, p14, p15⟩, ⟨k1, p16⟩, ⟨k2, p17⟩, p18, p19⟩ := hP
    exact ⟨tm _ _ p1, ⟨(fR _ _ (by omega) (by omega)).trans p2, (fR _ _ (by omega) (by omega)).trans p3, (fR _ _ (by omega) (by omega)).trans p4, (fR _ _ (by omega) (by omega)).trans p5, (fR _ _ (by omega) (by omega)).trans p6, (fR _ _ (by omega) (by omega)).trans p7, (fR _ _ (by omega) (by omega)).trans p8, (fR _ _ (by omega) (by omega)).trans p9⟩, ⟨tm _ _ p10, tm _ _ p11, tm _ _ p12, tm _ _ p13, tm _ _ p14, tm _ _ p15⟩, ⟨k1, tm _ _ p16⟩, ⟨k2, tm _ _ p17⟩, fun a ha => ⟨(fR _ _ (by omega) (by omega)).trans (p18 a ha).1, tm _ _ (p18 a ha).2⟩, fun a ha => ⟨(fR _ _ (by omega) (by omega)).trans (p19 a ha).1, tm _ _ (p19 a ha).2⟩⟩
  · obtain ⟨s1, s2, s3, s4, s5⟩ := hS l hl
    obtain ⟨q0, q1, q2, q3, q4, q5, q6, q7, q8, q9⟩ := s1
    have eQ : R1 (C + 9 + l) 0 = R (C + 9 + l) 0 := fR _ _ (by omega) (by omega)
    refine ⟨⟨tm _ _ q0, (fR _ _ (by omega) (by omega)).trans q1, (fR _ _ (by omega) (by omega)).trans q2, (fR _ _ (by omega) (by omega)).trans q3, (fR _ _ (by omega) (by omega)).trans q4, tm _ _ q5, tm _ _ q6, tm _ _ q7, tm _ _ q8, q9⟩, ⟨sq_D_c s2.1 (fun j => fI _ _ (by omega) (by omega) (by omega) (Or.inl (by omega))) (fun j => fL _ _ (by omega) (Or.inl (by omega))) eQ fT (fun B3 len e3 e4 _ j => ?_), fun B3 e3 => s2.2 B3 (eQ.symm.trans e3)⟩, s3, ?_, fun B3 e3 => s5 B3 (eQ.symm.trans e3)⟩
    · have := s5 B3 e3
      exact fL _ _ (by omega) (Or.inr (by rw [e4]; simp))
    · by_cases e : l = k
      · subst e
        exact ⟨B, b1.1, by omega, by omega, Or.inl ⟨b1, b2⟩⟩
      · obtain ⟨B3, r1, r2, r3, r4⟩ := s4
        have hBB : ¬ B3 = B := fun z => nB l hl e (by rw [r1, z])
        have eR : R1 (C + 76 + 5 * l) 4 = R (C + 76 + 5 * l) 4 := fR _ _ (by omega) (by omega)
        have cB : kc_B T R (C + 76 + 5 * l) B3 → kc_B T1 R1 (C + 76 + 5 * l) B3 := fun z => ⟨eR.trans z.1, tm _ _ z.2.1, z.2.2⟩
        have e8 : ∀ j, I1 (C + 76 + 5 * l) j = I (C + 76 + 5 * l) j := fun j => fI _ _ (by omega) (by omega) (by omega) (Or.inl (by omega))
        refine ⟨B3, eR.trans r1, by omega, by omega, ?_⟩
        rcases r4 with ⟨a1, a2⟩ | ⟨a1, a2⟩ | ⟨a1, a2⟩
        · exact Or.inl ⟨cB a1, kc_res_c a2 e8 (fun j => fI _ _ (by omega) (by omega) (by omega) (Or.inl (by omega))) (fun j => fI _ _ (by have := a1.2.2.1; omega) (by have := a1.2.2.1; omega) hBB (Or.inr (by rw [a1.2.1]; simp)))⟩
        · exact Or.inr (Or.inl ⟨(e8 _).trans a1, cB a2⟩)
        · exact Or.inr (Or.inr ⟨(e8 _).trans a1, tm _ _ a2⟩)
  · by_cases ek : k1 = k
    · subst ek
      have eB : B2 = B := Option.some.inj (e1.1.symm.trans b1.1)
      subst eB
      have eR : R1 (C + 76 + 5 * l) 4 = R (C + 76 + 5 * l) 4 := fR _ _ (by omega) (by omega)
      exact nB l hl (fun z => hne z.symm) (eR.symm.trans e2)
    · have eR : R1 (C + 76 + 5 * k1) 4 = R (C + 76 + 5 * k1) 4 := fR _ _ (by omega) (by omega)
      have hR1 : R (C + 76 + 5 * k1) 4 = some B2 := eR.symm.trans e1.1
      by_cases el : l = k
      · subst el
        have eB : B = B2 := Option.some.inj (b1.1.symm.trans e2)
        subst eB
        exact nB k1 hk1 ek hR1
      · have eR2 : R1 (C + 76 + 5 * l) 4 = R (C + 76 + 5 * l) 4 := fR _ _ (by omega) (by omega)
        obtain ⟨B3, q1, q2⟩ := kf_sd (hS k1 hk1).2.2.2.1
        rw [hR1] at q1
        cases q1
        exact hd k1 l B2 hk1 hl hne ⟨hR1, (fT B2 q2).symm.trans e1.2.1, e1.2.2⟩ (eR2.symm.trans e2)
