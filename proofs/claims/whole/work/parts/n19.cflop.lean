/-! ===== the class: what calls for classes leave alone ===== -/
theorem kf_R_g {C nk : Nat} {A : Nat → nt_A} {g : Nat → Nat} {T : wv_T} {N : Nat} {I : Nat → Nat → Int32} {L : Nat → Nat → Int64} {R : Nat → Nat → Option Nat} (hN : 535 < N) (hn : nk ≤ 4) : ∀ d T1 N1 I1 L1 R1 n1 s1, kf_R C nk A g T N I L R d T1 N1 I1 L1 R1 n1 s1 → 535 < N1 ∧ ∀ c j, c < 460 → (c < C + 76 ∨ C + 96 ≤ c) → I1 c j = I c j ∧ L1 c j = L c j ∧ R1 c j = R c j := by
  intro d
  induction d with
  | zero =>
    rintro T1 N1 I1 L1 R1 n1 s1 ⟨rfl, rfl, rfl, rfl, rfl, rfl, rfl⟩
    exact ⟨hN, fun _ _ _ _ => ⟨rfl, rfl, rfl⟩⟩
  | succ d ih =>
    rintro T1 N1 I1 L1 R1 n1 s1 ⟨T2, N2, I2, L2, R2, n2, s2, k, n3, s3, h1, h2, h3, _, _⟩
    obtain ⟨a1, a2⟩ := ih T2 N2 I2 L2 R2 n2 s2 h1
    obtain ⟨B, b1, b2, fT, fR, fI, fL, eN, _⟩ := kc_A_g a1 h3
    have b3 := b1.2.2.1
    refine ⟨by omega, fun c j hc hx => ?_⟩
    obtain ⟨c1, c2, c3⟩ := a2 c j hc hx
    exact ⟨(fI c j (by omega) (by omega) (by omega) (Or.inl hc)).trans c1, (fL c j (by omega) (Or.inl hc)).trans c2, (fR c j hc (by omega)).trans c3⟩
/-- two rows of calls for classes are one -/
theorem kf_R_a {C nk : Nat} {A : Nat → nt_A} {g : Nat → Nat} {T : wv_T} {N : Nat} {I : Nat → Nat → Int32} {L : Nat → Nat → Int64} {R : Nat → Nat → Option Nat} {T1 : wv_T} {N1 : Nat} {I1 : Nat → Nat → Int32} {L1 : Nat → Nat → Int64} {R1 : Nat → Nat → Option Nat} {n1 s1 e : Nat} (h : kf_R C nk A g T N I L R e T1 N1 I1 L1 R1 n1 s1) : ∀ d T2 N2 I2 L2 R2 n2 s2, kf_R C nk A g T1 N1 I1 L1 R1 d T2 N2 I2 L2 R2 n2 s2 → kf_R C nk A g T N I L R (e + d) T2 N2 I2 L2 R2 (n1 + n2) (s1 + s2) := by
  intro d
  induction d with
  | zero =>
    rintro T2 N2 I2 L2 R2 n2 s2 ⟨rfl, rfl, rfl, rfl, rfl, rfl, rfl⟩
    exact h
  | succ d ih =>
    rintro T2 N2 I2 L2 R2 n2 s2 ⟨T3, N3, I3, L3, R3, n3, s3, k, n4, s4, h1, h2, h3, e1, e2⟩
    exact ⟨T3, N3, I3, L3, R3, n1 + n3, s1 + s3, k, n4, s4, ih T3 N3 I3 L3 R3 n3 s3 h1, h2, h3, by omega, by omega⟩
