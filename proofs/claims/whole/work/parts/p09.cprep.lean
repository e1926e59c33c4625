/-! ===== the class: a hunt is prepared ===== -/
theorem hu_fill {r : Nat} {v : Int32} {I : Nat → Nat → Int32} : ∀ n c j, wg_f r v I n c j = if c = r ∧ j < n then v else I c j
  | 0, c, j => (if_neg (by omega)).symm
  | n + 1, c, j => by
    show wv_u (wg_f r v I n) r n v c j = _
    by_cases e : c = r ∧ j = n
    · obtain ⟨rfl, rfl⟩ := e
      rw [wv_u_at, if_pos ⟨rfl, by omega⟩]
    · rw [wv_u_no _ _ e, hu_fill n c j]
      by_cases e2 : c = r ∧ j < n
      · rw [if_pos e2, if_pos ⟨e2.1, by omega⟩]
      · rw [if_neg e2, if_neg (by omega)]
/-- a property's rows in another array, with more cells about -/
theorem hu_E_n {T T1 : wv_T} {I I1 : Nat → Nat → Int32} {L L1 : Nat → Nat → Int64} {R R1 : Nat → Nat → Option Nat} {C : Nat} {P : pd_P} {S : rn_N} {sq : List Nat} {B b len B2 len2 : Nat} (h : sc_E T I L R C P S sq B b len) (hT : ∀ c, ¬ T c = none → T1 c = T c) (hI : ∀ c j, C ≤ c → c ≤ C + 75 → I1 c j = I c j) (hL : ∀ c j, ¬ T c = none → L1 c j = L c j) (hR : ∀ c j, C ≤ c → c ≤ C + 75 → R1 c j = R c j) (hTB : T1 B2 = some (.inr (1, len2))) (hl : hu_e C P I ≤ len2) (hl2 : len2 < 100000) (hB2 : B2 < 1099511627776) (hh : sc_h R1 C B2) : sc_E T1 I1 L1 R1 C P S sq B2 0 len2 := by
  have hs : ∀ {c v}, T c = some v → T1 c = some v := fun {c v} e => by
    rw [hT c (by rw [e]; simp)]
    exact e
  have hn : ∀ {c v}, T c = some v → ¬ T c = none := fun e => by
    rw [e]
    simp
  have h := sc_E_I h hI
  have hl : hu_e C P I1 ≤ len2 := by
    rw [hu_e_c (fun j => hI _ _ (by omega) (by omega))]
    exact hl
  obtain ⟨⟨h1, h1b⟩, h2, ⟨⟨a1, a2, a3⟩, h3⟩, h4, _, h6, _⟩ := h
  obtain ⟨d1, ⟨r0, r1, r2, r3, r4, r5, r6, r7⟩, ⟨t1, t2, t3, t4, t5, t6⟩, ⟨k7, t7⟩, ⟨k8, t8⟩, u1, u2⟩ := h1
  refine ⟨⟨⟨hs d1, ⟨?_, ?_, ?_, ?_, ?_, ?_, ?_, ?_⟩, ⟨hs t1, hs t2, hs t3, hs t4, hs t5, hs t6⟩, ⟨k7, hs t7⟩, ⟨k8, hs t8⟩, fun k hk => ⟨?_, hs (u1 k hk).2⟩, fun k hk => ⟨?_, hs (u2 k hk).2⟩⟩, h1b⟩, pq_M_c h2 (fun _ _ _ => rfl) (fun c j hc => ?_), ⟨⟨a1, fun k y hk => ?_, a3⟩, h3⟩, h4, ⟨hTB, by unfold hu_e at hl; omega, hl2, hB2⟩, h6, hh⟩
  all_goals first
    | (rw [hR _ _ (by omega) (by omega)]; assumption)
    | skip
  · rw [hR _ _ (by omega) (by omega)]
    exact (u1 k hk).1
  · rw [hR _ _ (by omega) (by omega)]
    exact (u2 k hk).1
  · rcases hc with rfl | rfl
    · exact hL _ _ (hn t2)
    · exact hL _ _ (hn t3)
  · obtain ⟨y1, g0, d, n⟩ := a2 k y hk
    have hk67 : k < 67 := by
      have := (List.getElem?_eq_some_iff.mp hk).1
      omega
    exact ⟨y1, g0, sq_D_c d (fun _ => rfl) (fun j => hL _ _ (hn d.1)) (hR _ _ (by omega) (by omega)) hT (fun B3 l3 x1 x2 _ j => hL _ _ (hn x2)), n⟩
