/-! ===== a sequence made ===== -/
/-- the world behind a sequence's row of steps -/
theorem cg_T_s {C c N0 N N1 nc ns nc2 ns2 : Nat} {T0 T T1 : wv_T} {R0 R R1 : Nat → Nat → Option Nat} (hC : C = 28 ∨ C = 124 ∨ C = 220 ∨ C = 346) (hc : c < 67) (hN : 536 ≤ N ∧ N < 1000000000) (h : cg_T C T0 N0 R0 T N R nc ns) (hs : sq_T (C + 9 + c) T N R T1 N1 R1 nc2 ns2) : cg_T C T0 N0 R0 T1 N1 R1 (nc + nc2) (ns + ns2) := by
  obtain ⟨G1, G2, G3, G4, G5, G6, G7, G8, G9⟩ := h
  have hQ : T (C + 9 + c) = some (.inl 8) := (G3.2.2.2.2.2.1 c hc).2
  have hqq : pq_q (C + 9 + c) := ⟨C, c, hC, hc, rfl⟩
  have tt : ∀ a, ¬ T a = none → T1 a = T a := fun a ha => sq_T_ty hs ha
  refine ⟨sq_T_m hs G1, sq_T_A hs G2, sq_T_D hs G2 (by omega) G3 hQ, fun Q hq => ?_, ?_, ?_, fun a ha => by rw [tt a (by rw [G7 a ha]; exact ha)]; exact G7 a ha, fun a j ha hj => ?_, fun k hk B hB => ?_⟩
  · obtain ⟨B, len, ⟨o1, o2, o3, o4, o5, o6⟩, oN, oD⟩ := G4 Q hq
    have hQn : ¬ T Q = none := by rw [o1]; simp
    have hBn : ¬ T B = none := by rw [o3]; simp
    rcases hs with ⟨rfl, rfl, rfl, rfl, rfl⟩ | ⟨l2, n1, n2, n3, n4, n5, n6, n7⟩
    · exact ⟨B, len, ⟨o1, o2, o3, o4, o5, o6⟩, oN, oD⟩
    · have hs : sq_T (C + 9 + c) T N R T1 N1 R1 nc2 ns2 := Or.inr ⟨l2, n1, n2, n3, n4, n5, n6, n7⟩
      by_cases e : Q = C + 9 + c
      · subst e
        refine ⟨N, l2, ⟨by rw [tt _ hQn]; exact o1, by rw [n5]; exact wv_u_at _ _ _ _, by rw [n3]; exact if_pos rfl, n2, fun _ => by omega, fun _ => by omega⟩, fun _ => by omega, fun Q2 hq2 hne _ hR => ?_⟩
        obtain ⟨B2, len2, ⟨p1, p2, p3, _⟩, _⟩ := G4 Q2 hq2
        rw [sq_T_R hs (by rw [p1]; simp) (fun w => hne w.1), p2] at hR
        cases hR
        rw [n1] at p3
        cases p3
      · refine ⟨B, len, ⟨by rw [tt _ hQn]; exact o1, by rw [sq_T_R hs hQn (fun w => e w.1)]; exact o2, by rw [tt _ hBn]; exact o3, o4, o5, o6⟩, fun w => by have := oN w; omega, fun Q2 hq2 hne hl hR => ?_⟩
        by_cases e2 : Q2 = C + 9 + c
        · subst e2
          rw [n5, wv_u_at] at hR
          cases hR
          exact hBn n1
        · obtain ⟨B2, len2, ⟨p1, p2, p3, _⟩, _⟩ := G4 Q2 hq2
          rw [sq_T_R hs (by rw [p1]; simp) (fun w => e2 w.1)] at hR
          exact oD Q2 hq2 hne hl hR
  · rcases hs with ⟨_, rfl, _, rfl, _⟩ | ⟨l2, n1, n2, n3, n4, n5, n6, n7⟩ <;> omega
  · rcases hs with ⟨_, rfl, _, rfl, rfl⟩ | ⟨l2, n1, n2, n3, n4, n5, n6, n7⟩ <;> omega
  · rw [sq_T_R hs (by rw [G7 a ha]; exact ha) (by omega)]
    exact G8 a j ha hj
  · rcases hs with ⟨_, _, rfl, _, _⟩ | ⟨l2, n1, n2, n3, n4, n5, n6, n7⟩
    · exact G9 k hk B hB
    · have hs : sq_T (C + 9 + c) T N R T1 N1 R1 nc2 ns2 := Or.inr ⟨l2, n1, n2, n3, n4, n5, n6, n7⟩
      by_cases e : k = c
      · subst e
        rw [n5, wv_u_at] at hB
        cases hB
        right
        by_cases w : T0 N = none
        · exact w
        · have := G7 N w
          rw [n1] at this
          exact this.symm
      · rw [sq_T_R hs (by rw [(G3.2.2.2.2.2.1 k hk).2]; simp) (by omega)] at hB
        exact G9 k hk B hB
theorem cg_I_s {C c m B len N0 N N1 nc ns nc2 ns2 : Nat} {T0 T T1 : wv_T} {I0 I I1 : Nat → Nat → Int32} {L0 L L1 : Nat → Nat → Int64} {R0 R R1 : Nat → Nat → Option Nat} (hC : C = 28 ∨ C = 124 ∨ C = 220 ∨ C = 346) (hc : c < 67) (hG : cg_T C T0 N0 R0 T N R nc ns) (h : cg_I C T0 I0 L0 R0 T I L) (hs : sq_T (C + 9 + c) T N R T1 N1 R1 nc2 ns2) (hO : sq_O T R (C + 9 + c) B len) (hF : cb_F C m (C + 9 + c) B T I L I1 L1) (hg : ∃ g, I1 9 11 = Int32.ofNat g ∧ g < 64) : cg_I C T0 I0 L0 R0 T1 I1 L1 := by
  obtain ⟨G1, G2, G3, G4, G5, G6, G7, G8, G9⟩ := hG
  obtain ⟨h1, h2, h3, h4, h5⟩ := h
  obtain ⟨o1, o2, o3, o4, o5, o6⟩ := hO
  obtain ⟨f1, f2⟩ := hF
  refine ⟨fun a j a1 a2 a3 a4 => ?_, fun a j a1 a2 a3 a4 => ?_, ⟨?_, fun v hv u hu => ?_⟩, hg, fun i hi => ?_⟩
  · rw [f1 a j (by rw [G7 a a1]; exact a1) a2 (by omega) (by omega) (by omega) (by omega) (by omega) (by omega)]
    exact h1 a j a1 a2 a3 a4
  · rw [f2 a j (by rw [G7 a a1]; exact a1) (by omega) (by omega) (fun w => ?_)]
    · exact h2 a j a1 a2 a3 a4
    · subst w
      rcases G9 c hc a o2 with w | w
      · exact a4 c hc w
      · exact a1 w
  · rw [sq_T_ty hs (by rw [h3.1]; simp)]
    exact h3.1
  · rw [f2 _ _ (by rw [h3.1]; simp) (by omega) (by omega) (fun w => ?_)]
    · exact h3.2 v hv u hu
    · by_cases z : len = 0
      · exact (o6 z).1 w.symm
      · have := (o5 (by omega)).1
        omega
  · rw [f1 _ _ (G2 _ (by omega)) (by omega) (by omega) (by omega) (by omega) (by omega) (by omega) (by omega)]
    exact h5 i hi
/-- a sequence more -/
theorem pq_S_s {C c m B len N N1 nc2 ns2 kk t g y : Nat} {T T1 : wv_T} {I I1 : Nat → Nat → Int32} {L L1 : Nat → Nat → Int64} {R R1 : Nat → Nat → Option Nat} {P : pd_P} {S S2 : rn_N} {sq : List Nat} {cc dd : Nat → Bool} (hC : C = 28 ∨ C = 124 ∨ C = 220 ∨ C = 346) (hc : c < 67) (hcl : c = sq.length) (hA : wm_A T) (hO : pq_O T N R) (h : pq_S T I L R C S sq P) (hS : rn_E S S2) (hs : sq_T (C + 9 + c) T N R T1 N1 R1 nc2 ns2) (hOc : sq_O T R (C + 9 + c) B len) (hF : cb_F C m (C + 9 + c) B T I L I1 L1) (hD : sq_D T1 I1 L1 R1 (C + 9 + c) (rn_t S2 y) (rn_w S2 y) g) (hy : y < rn_n S2) (hni : ni_A g (rn_t S2 y)) (h9 : I1 C 9 = Int32.ofNat (c + 1)) : pq_S T1 I1 L1 R1 C S2 (sq ++ [y]) (pd_up P (pd_m P + 1) (pd_m P) kk cc dd t c (rn_t S2 y)) := by
  obtain ⟨h1, h2, h3⟩ := h
  obtain ⟨o1, o2, o3, o4, o5, o6⟩ := hOc
  obtain ⟨f1, f2⟩ := hF
  have hB0 : ¬ B < 536 := by
    by_cases z : len = 0
    · exact (o6 z).2
    · have := (o5 (by omega)).2
      omega
  have hnew : (sq ++ [y])[sq.length]? = some y := by simp
  refine ⟨by rw [h9, hcl, List.length_append]; rfl, fun q z hq => ?_, fun i hi hki => ?_⟩
  · by_cases e : q < sq.length
    · rw [List.getElem?_append_left e] at hq
      obtain ⟨b1, g2, b2, b3⟩ := h2 q z hq
      obtain ⟨_, k2, k3, _⟩ := rn_E_k hS b1
      refine ⟨Nat.lt_of_lt_of_le b1 hS.1, g2, ?_, by rw [k3]; exact b3⟩
      rw [k2, k3]
      have hQn : ¬ T (C + 9 + q) = none := hA _ (by omega)
      refine sq_D_c b2 (fun j => f1 _ _ hQn (by omega) (by omega) (by omega) (by omega) (by omega) (by omega) (by omega)) (fun j => f2 _ _ hQn (by omega) (by omega) (by omega)) (sq_T_R hs hQn (by omega)) (fun a ha => sq_T_ty hs ha) (fun B2 len2 hB1 hB2 hB3 j => ?_)
      obtain ⟨d1, d2⟩ := pq_O_B (e := C + 9 + q) hO hC (by omega) (by omega) hB1 hB2 hB3
      refine f2 _ _ (by rw [hB2]; simp) (by omega) (by omega) (fun w => ?_)
      subst w
      obtain ⟨B3, len3, ⟨p1, p2, p3, _⟩, _, pD⟩ := hO (C + 9 + q) ⟨C, q, hC, by omega, rfl⟩
      rw [hB1] at p2
      cases p2
      rw [hB2] at p3
      cases p3
      exact pD (C + 9 + c) ⟨C, c, hC, hc, rfl⟩ (by omega) hB3 o2
    · have e2 : q = sq.length := by
        have := (List.getElem?_eq_some_iff.mp hq).1
        simp only [List.length_append, List.length_cons, List.length_nil] at this
        omega
      subst e2
      rw [hnew] at hq
      cases hq
      refine ⟨hy, g, ?_, hni⟩
      rw [← hcl]
      exact hD
  · have hi : i < pd_m P + 1 := hi
    by_cases e : i = pd_m P
    · subst e
      refine ⟨y, ?_, pd_up_at.2.2.2.2.2.1⟩
      rw [pd_up_at.2.2.2.2.1, hcl]
      exact hnew
    · obtain ⟨e1, _, _, _, e5, e6⟩ := pd_up_no (P := P) (m := pd_m P + 1) (i := pd_m P) (k := kk) (c := cc) (d := dd) (t := t) (l := c) (a := rn_t S2 y) e
      rw [e1] at hki
      obtain ⟨z, z1, z2⟩ := h3 i (by omega) hki
      have hz := (h2 _ z z1).1
      have hzl : pd_l P i < sq.length := (List.getElem?_eq_some_iff.mp z1).1
      exact ⟨z, by rw [e5, List.getElem?_append_left hzl]; exact z1, by rw [e6, (rn_E_k hS hz).2.2.1]; exact z2⟩
