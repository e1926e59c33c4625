/-! ===== the class: properties wanted and ended ===== -/
theorem wt_LW_L {T : wv_T} {L L1 : Nat → Nat → Int64} (h : wt_LW T L) (hL : ∀ j, L1 1099511627780 j = L 1099511627780 j) : wt_LW T L1 := ⟨h.1, fun v hv u hu => by rw [hL]; exact h.2 v hv u hu⟩
/-- a condition is laid down -/
def pp_cl (L : Nat → Nat → Int64) (C m : Nat) (y : Int64) : Nat → Nat → Int64 := wv_u (wv_u L (C + 2) m y) (C + 3) m (Int64.ofNat 0)
theorem pp_cl_no {L : Nat → Nat → Int64} {C m c j : Nat} {y : Int64} (h : ¬ ((c = C + 2 ∨ c = C + 3) ∧ j = m)) : pp_cl L C m y c j = L c j := by
  unfold pp_cl
  rw [wv_u_no _ _ (by omega), wv_u_no _ _ (by omega)]
theorem pp_ad_J {I J : Nat → Nat → Int32} {C m c j : Nat} {k : Int32} (h : ∀ c j, ¬ (c = 1 ∧ (j = 8 ∨ j = 9)) → ¬ (c = 9 ∧ j = 11) → J c j = I c j) (hC : 27 < C) (h1 : ¬ (c = 1 ∧ (j = 8 ∨ j = 9))) (h2 : ¬ (c = 9 ∧ j = 11)) : pp_ad J C m k c j = pp_ad I C m k c j := by
  unfold pp_ad
  by_cases e1 : c = C ∧ j = 8
  · rw [e1.1, e1.2, wv_u_at, wv_u_at]
  rw [wv_u_no _ _ e1, wv_u_no _ _ e1]
  by_cases e2 : c = C + 5 ∧ j = m
  · rw [e2.1, e2.2, wv_u_at, wv_u_at]
  rw [wv_u_no _ _ e2, wv_u_no _ _ e2]
  by_cases e3 : c = C + 4 ∧ j = m
  · rw [e3.1, e3.2, wv_u_at, wv_u_at]
  rw [wv_u_no _ _ e3, wv_u_no _ _ e3]
  by_cases e4 : c = C + 1 ∧ j = m
  · rw [e4.1, e4.2, wv_u_at, wv_u_at]
  rw [wv_u_no _ _ e4, wv_u_no _ _ e4]
  exact h c j h1 h2
def pj_c123 : wv_c1 := fun as T N I L R q => ∃ (ts : List wt_t) (n C m : Nat) (s : wt_q), as = [.ref 9, .ref C] ∧ wm_T T ∧ wt_K I L ts n s.1 s.2 ∧ pp_D T R C ∧ 27 < C ∧ C < 1000000 ∧ I C 8 = Int32.ofNat m ∧ m < 155 ∧ wt_LW T L ∧ (∀ y, y ∈ ts → pr_vt y) ∧ (∃ g, I 9 11 = Int32.ofNat g ∧ g < 64) ∧ (¬ (cd_all ts n s).2.2.2 = none → ∀ g2 I1, wt_K I1 L ts n (cd_all ts n s).2.2.1 (cd_all ts n s).2.2.2 → pc_F I I1 → I1 9 11 = Int32.ofNat g2 → g2 < 64 → q (.inl none) T N I1 L R 0 0) ∧ ((cd_all ts n s).2.2.2 = none → tk_now ts (cd_all ts n s).2.2 = (Int8.ofInt 17).toInt32 → ∀ y g2 I1, (∀ u, u < 64 → nb y u = cd_h (cd_all ts n s) u) → wt_K I1 (pp_cl (pp_al L C m) C m y) ts n (tk_adv ts (cd_all ts n s).2.2).1 (tk_adv ts (cd_all ts n s).2.2).2 → I1 9 11 = Int32.ofNat g2 → g2 < 64 → (∀ c j, ¬ (c = 1 ∧ (j = 8 ∨ j = 9)) → ¬ (c = 9 ∧ j = 11) → I1 c j = pp_ad I C m (Int32.ofInt 4) c j) → q (.inl none) T N I1 (pp_cl (pp_al L C m) C m y) R 0 0) ∧ ((cd_all ts n s).2.2.2 = none → ¬ tk_now ts (cd_all ts n s).2.2 = (Int8.ofInt 17).toInt32 → ∀ y g2 I1, (∀ u, u < 64 → nb y u = cd_h (cd_all ts n s) u) → wt_K I1 (pp_cl (pp_al L C m) C m y) ts n (cd_all ts n s).2.2.1 (cd_all ts n s).2.2.2 → I1 9 11 = Int32.ofNat g2 → g2 < 64 → I1 9 8 = Int32.ofInt 1 → (∀ c j, ¬ (c = 1 ∧ (j = 8 ∨ j = 9)) → ¬ (c = 9 ∧ (j = 8 ∨ j = 11)) → I1 c j = pp_ad I C m (Int32.ofInt 0) c j) → q (.inl none) T N I1 (pp_cl (pp_al L C m) C m y) R 0 0)
set_option maxRecDepth 100000 in
theorem wM_123 : ∃ cb ci np, pt_mt 123 = some (4, cb, 4, false, none, ci, np) := ⟨_, _, _, rfl⟩
set_option maxRecDepth 100000 in
set_option maxHeartbeats 4000000 in
theorem pj_wantCondition {sc : pt_Sc} {d : Nat} : wv_C wm_fx sc (d + 1 + 1 + 1 + 1 + 1) 123 pj_c123 := by
  rintro as T N I L R q ⟨ts, n, C, m0, s, rfl, hT, hK, hD, hC1, hC2, h8, hm0, hLW, hv, ⟨g, hg, hg6⟩, q1, q2, q3⟩ w0 HR
  obtain ⟨cb, ci, np, hm⟩ := wM_123
  have hc124 : wv_C wm_fx sc (d + 1 + 1 + 1 + 1) 124 pc_c124 := wv_C_deep (by omega) (pc_condition (d := d))
  have hc61 : wv_C wm_fx sc (d + 1 + 1 + 1 + 1) 61 wt_c61 := wv_C_deep (by omega) (wt_faulty (d := d))
  have hc50 : wv_C wm_fx sc (d + 1 + 1 + 1 + 1) 50 wt_c50 := wv_C_deep (by omega) (wt_now (d := d))
  have hc51 : wv_C wm_fx sc (d + 1 + 1 + 1 + 1) 51 wt_c51 := wv_C_deep (by omega) (wt_advance (d := d))
  have hc115 : wv_C wm_fx sc (d + 1 + 1 + 1 + 1) 115 pp_c115 := wv_C_deep (by omega) (pp_add (d := d))
  have hc126 : wv_C wm_fx sc (d + 1 + 1 + 1 + 1) 126 pp_c126 := wv_C_deep (by omega) (pp_setConditions (d := d))
  refine wv_meth (hh := none) rfl (sp := wv_sp [(124, pc_c124), (61, wt_c61), (50, wt_c50), (51, wt_c51), (115, pp_c115), (126, pp_c126)]) (hd := fun _ => none) (n := 0) (n1 := 300) hm zc_123 rfl (wv_sp_ok (fun q hq => by
    rcases List.mem_cons.mp hq with h | h
    · rw [h]; exact hc124
    rcases List.mem_cons.mp h with h | h
    · rw [h]; exact hc61
    rcases List.mem_cons.mp h with h | h
    · rw [h]; exact hc50
    rcases List.mem_cons.mp h with h | h
    · rw [h]; exact hc51
    rcases List.mem_cons.mp h with h | h
    · rw [h]; exact hc115
    rw [List.mem_singleton.mp h]; exact hc126)) ?_ (fun pc P h => by cases h) HR
  refine ⟨ts, n, g, s, rfl, hT, hLW, hK, hv, hg, hg6, fun y g2 J a1 a2 a3 a4 a5 a6 a7 => ?_⟩
  refine ⟨ts, n, (cd_all ts n s).2.2, rfl, hT, a2, ?_⟩
  have j8 : J C 8 = Int32.ofNat m0 := by rw [a3 _ _ (by omega) (by omega)]; exact h8
  refine ⟨fun w => ?_, fun w => ?_⟩
  · have w : (cd_all ts n s).2.2.2 = none := by
      cases e : (cd_all ts n s).2.2.2
      · rfl
      · rw [e] at w; exact absurd (show (1 : Int32) = 0 from w) (by decide)
    have a1 := a1 w
    refine ⟨ts, n, (cd_all ts n s).2.2, rfl, hT, a2, ?_⟩
    refine ⟨fun w2 => ?_, fun w2 => ?_⟩
    · refine ⟨hD.1, C, m0, _, rfl, hD, hC2, j8, hm0, ?_⟩
      refine ⟨hD.1, C, m0, _, _, rfl, hD, hC2, hm0, ?_⟩
      have kK : wt_K (pp_ad J C m0 (Int32.ofInt 0)) (pp_cl (pp_al L C m0) C m0 y) ts n (cd_all ts n s).2.2.1 (cd_all ts n s).2.2.2 := wt_K_8 (wt_K_ad (k := Int32.ofInt 0) (m := m0) a2 hC1) (fun c j hc => rfl) (fun j => pp_cl_no (by omega))
      refine q3 w w2 y g2 _ a1 (wt_K_8 kK (fun c j hc => wv_u_no _ _ (by omega)) (fun j => rfl)) ?_ a5 (wv_u_at _ _ _ _) (fun c j b1 b2 => ?_)
      · rw [wv_u_no _ _ (by omega), pp_ad_no (by omega) (by omega)]; exact a4
      · rw [wv_u_no _ _ (by omega)]
        exact pp_ad_J (fun c j b3 b4 => a3 _ _ b3 b4) (by omega) b1 (by omega)
    · refine ⟨hD.1, C, m0, _, rfl, hD, hC2, j8, hm0, ?_⟩
      refine ⟨hD.1, C, m0, _, _, rfl, hD, hC2, hm0, ?_⟩
      have kK : wt_K (pp_ad J C m0 (Int32.ofInt 4)) (pp_cl (pp_al L C m0) C m0 y) ts n (cd_all ts n s).2.2.1 (cd_all ts n s).2.2.2 := wt_K_8 (wt_K_ad (k := Int32.ofInt 4) (m := m0) a2 hC1) (fun c j hc => rfl) (fun j => pp_cl_no (by omega))
      refine ⟨ts, n, (cd_all ts n s).2.2, rfl, hT, kK, fun J2 hQ => ?_⟩
      refine q2 w (Decidable.not_not.mp w2) y g2 J2 a1 hQ.1 ?_ a5 (fun c j b1 b2 => ?_)
      · rw [hQ.2 _ _ (by omega), pp_ad_no (by omega) (by omega)]; exact a4
      · rw [hQ.2 _ _ b1]
        exact pp_ad_J (fun c j b3 b4 => a3 _ _ b3 b4) (by omega) b1 b2
  · have w : ¬ (cd_all ts n s).2.2.2 = none := fun z => w (by rw [z]; rfl)
    exact q1 w g2 J a2 a3 a4 a5
def pj_c116 : wv_c1 := fun as T N I L R q => ∃ (ts : List wt_t) (n C m o : Nat) (s : wt_q) (k : Int32), as = [.ref 9, .ref C, .int k] ∧ wm_T T ∧ wt_K I L ts n s.1 s.2 ∧ pp_D T R C ∧ 27 < C ∧ C < 1000000 ∧ I C 8 = Int32.ofNat m ∧ m < 155 ∧ pj_J I [] ∧ I 9 7 = Int32.ofNat o ∧ o ≤ 20 ∧ (¬ (tk_now ts s = (Int8.ofInt 13).toInt32 ∧ o < 20) → ∀ I1, wt_K I1 (pp_al L C m) ts n (tk_ref ts n s).1 (tk_ref ts n s).2 → I1 9 11 = Int32.ofNat 0 → (∀ c j, ¬ (c = 1 ∧ (j = 8 ∨ j = 9)) → ¬ (c = 9 ∧ 6 ≤ j ∧ j ≤ 11) → ¬ (c = 10 ∧ 8 ≤ j ∧ j ≤ 10) → ¬ (c = 14 ∨ c = 15 ∨ c = 18) → I1 c j = pp_ad I C m k c j) → q (.inl none) T N I1 (pp_al L C m) R 0 0) ∧ (tk_now ts s = (Int8.ofInt 13).toInt32 ∧ o < 20 → ∀ I1, wt_K I1 (pp_al L C m) ts n (tk_adv ts s).1 (tk_adv ts s).2 → pj_J I1 [0] → ww_W false I1 (pp_al L C m) [] → I1 9 7 = Int32.ofNat (o + 1) → I1 9 8 = Int32.ofInt 2 → I1 9 9 = Int32.ofNat (tk_place ts n s.1) → I1 9 10 = Int32.ofNat m → I1 9 11 = Int32.ofNat 0 → (∀ c j, ¬ (c = 1 ∧ (j = 8 ∨ j = 9)) → ¬ (c = 9 ∧ 6 ≤ j ∧ j ≤ 11) → ¬ (c = 10 ∧ 8 ≤ j ∧ j ≤ 10) → ¬ (c = 14 ∨ c = 15 ∨ c = 18) → ¬ c = 21 → I1 c j = pp_ad I C m k c j) → q (.inl none) T N I1 (pp_al L C m) R 0 0)
set_option maxRecDepth 100000 in
theorem wM_116 : ∃ cb ci np, pt_mt 116 = some (4, cb, 3, false, none, ci, np) := ⟨_, _, _, rfl⟩
set_option maxRecDepth 100000 in
set_option maxHeartbeats 4000000 in
theorem pj_openSequence {sc : pt_Sc} {d : Nat} : wv_C wm_fx sc (d + 1 + 1 + 1) 116 pj_c116 := by
  rintro as T N I L R q ⟨ts, n, C, m0, o, s, k, rfl, hT, hK, hD, hC1, hC2, h8, hm0, hJ, h7, ho, hn, hy⟩ w0 HR
  obtain ⟨cb, ci, np, hm⟩ := wM_116
  have hc115 : wv_C wm_fx sc (d + 1 + 1) 115 pp_c115 := wv_C_deep (by omega) (pp_add (d := d))
  have hc67 : wv_C wm_fx sc (d + 1 + 1) 67 wt_c67 := wv_C_deep (by omega) (wt_place (d := d))
  have hc117 : wv_C wm_fx sc (d + 1 + 1) 117 ww_c117 := wv_C_deep (by omega) (ww_restart (d := d))
  have hc118 : wv_C wm_fx sc (d + 1 + 1) 118 pj_c118 := wv_C_deep (by omega) (pj_openBrace (d := d))
  refine wv_meth (hh := none) rfl (sp := wv_sp [(115, pp_c115), (67, wt_c67), (117, ww_c117), (118, pj_c118)]) (hd := fun _ => none) (n := 0) (n1 := 300) hm zc_116 rfl (wv_sp_ok (fun q hq => by
    rcases List.mem_cons.mp hq with h | h
    · rw [h]; exact hc115
    rcases List.mem_cons.mp h with h | h
    · rw [h]; exact hc67
    rcases List.mem_cons.mp h with h | h
    · rw [h]; exact hc117
    rw [List.mem_singleton.mp h]; exact hc118)) ?_ (fun pc P h => by cases h) HR
  refine ⟨hD.1, C, m0, _, rfl, hD, hC2, h8, hm0, ?_⟩
  have kK := wt_K_ad (k := k) (m := m0) hK hC1
  refine ⟨ts, n, s, rfl, hT, wt_K_8 kK (fun c j hc => wv_u_no _ _ (by omega)) (fun j => rfl), ?_⟩
  obtain ⟨K, hKK⟩ : ∃ K, wv_u (wv_u (wv_u (pp_ad I C m0 k) 9 10 (Int32.ofNat m0)) 9 9 (Int32.ofNat (tk_place ts n s.1))) 9 11 (Int32.ofInt 0) = K := ⟨_, rfl⟩
  have kF : ∀ c j, ¬ (c = 9 ∧ 9 ≤ j ∧ j ≤ 11) → K c j = pp_ad I C m0 k c j := fun c j a => by rw [← hKK, wv_u_no _ _ (by omega), wv_u_no _ _ (by omega), wv_u_no _ _ (by omega)]
  have k11 : K 9 11 = Int32.ofNat 0 := by rw [← hKK]; exact wv_u_at _ _ _ _
  have k9 : K 9 9 = Int32.ofNat (tk_place ts n s.1) := by rw [← hKK, wv_u_no _ _ (by omega)]; exact wv_u_at _ _ _ _
  have k10 : K 9 10 = Int32.ofNat m0 := by rw [← hKK, wv_u_no _ _ (by omega), wv_u_no _ _ (by omega)]; exact wv_u_at _ _ _ _
  subst hKK
  refine ⟨rfl, hT, fun J hW hF => ?_⟩
  have jF : ∀ c j, ¬ (c = 9 ∧ 9 ≤ j ∧ j ≤ 11) → ¬ (c = 10 ∧ 8 ≤ j ∧ j ≤ 10) → ¬ (c = 14 ∨ c = 15 ∨ c = 18) → J c j = pp_ad I C m0 k c j := fun c j a1 a2 a3 => by rw [hF.1 _ _ a2 a3, kF _ _ a1]
  have jI : ∀ c j, c < 28 → ¬ (c = 9 ∧ 9 ≤ j ∧ j ≤ 11) → ¬ (c = 10 ∧ 8 ≤ j ∧ j ≤ 10) → ¬ (c = 14 ∨ c = 15 ∨ c = 18) → J c j = I c j := fun c j a0 a1 a2 a3 => by rw [jF _ _ a1 a2 a3, pp_ad_no (by omega) (by omega)]
  have j9 : ∀ j, 9 ≤ j → J 9 j = wv_u (wv_u (wv_u (pp_ad I C m0 k) 9 10 (Int32.ofNat m0)) 9 9 (Int32.ofNat (tk_place ts n s.1))) 9 11 (Int32.ofInt 0) 9 j := fun j hj => hF.1 _ _ (by omega) (by omega)
  refine ⟨ts, n, o, s, [], rfl, hT, wt_K_8 kK (fun c j hc => jF _ _ (by omega) (by omega) (by omega)) (fun j => rfl), ⟨by rw [jI _ _ (by omega) (by omega) (by omega) (by omega)]; exact hJ.1, by decide, trivial⟩, by decide, by rw [jI _ _ (by omega) (by omega) (by omega) (by omega)]; exact h7, ho, fun z J2 hQ => ?_, fun z J2 b1 b2 b3 b4 => ?_⟩
  · refine hn z _ (wt_K_8 hQ.1 (fun c j hc => wv_u_no _ _ (by omega)) (fun j => rfl)) ?_ (fun c j a1 a2 a3 a4 => ?_)
    · rw [wv_u_no _ _ (by omega), hQ.2 _ _ (by omega), j9 _ (by omega)]; exact k11
    · rw [wv_u_no _ _ (by omega), hQ.2 _ _ a1, jF _ _ (by omega) a3 a4]
  · refine hy z _ (wt_K_8 b1 (fun c j hc => wv_u_no _ _ (by omega)) (fun j => rfl)) ⟨?_, b2.2.1, pj_s_c b2.2.2 (fun k hk => wv_u_no _ _ (by omega))⟩ (ww_W_c hW (fun c j hc => ?_)) ?_ (wv_u_at _ _ _ _) ?_ ?_ ?_ (fun c j a1 a2 a3 a4 a5 => ?_)
    · rw [wv_u_no _ _ (by omega)]; exact b2.1
    · rw [wv_u_no _ _ (by omega), b4 _ _ (by omega) (by omega) (by omega)]
    · rw [wv_u_no _ _ (by omega)]; exact b3
    · rw [wv_u_no _ _ (by omega), b4 _ _ (by omega) (by omega) (by omega), j9 _ (by omega)]; exact k9
    · rw [wv_u_no _ _ (by omega), b4 _ _ (by omega) (by omega) (by omega), j9 _ (by omega)]; exact k10
    · rw [wv_u_no _ _ (by omega), b4 _ _ (by omega) (by omega) (by omega), j9 _ (by omega)]; exact k11
    · rw [wv_u_no _ _ (by omega), b4 _ _ (by omega) a5 a1, jF _ _ (by omega) a3 a4]
/-- a paren closed: what the reader holds behind it -/
def jp_F (I I1 : Nat → Nat → Int32) (z o : Nat) : Prop := I1 9 5 = Int32.ofNat z ∧ I1 9 7 = Int32.ofNat o ∧ I1 9 8 = Int32.ofInt 1 ∧ (∃ g, I1 9 11 = Int32.ofNat g ∧ g < 64) ∧ ∀ c j, ¬ (c = 1 ∧ (j = 8 ∨ j = 9)) → ¬ (c = 9 ∧ (j = 5 ∨ j = 7 ∨ j = 8 ∨ j = 11)) → I1 c j = I c j
def pj_c128 : wv_c1 := fun as T N I L R q => ∃ (ts : List wt_t) (n C m o z a : Nat) (s : wt_q), as = [.ref 9, .ref C, .int (Int32.ofNat a)] ∧ wm_T T ∧ wt_K I L ts n s.1 s.2 ∧ pp_D T R C ∧ 27 < C ∧ C < 1000000 ∧ I C 8 = Int32.ofNat m ∧ m ≤ 155 ∧ a + 1 < m ∧ I 9 7 = Int32.ofNat (o + 1) ∧ o ≤ 20 ∧ I 9 5 = Int32.ofNat (z + 1) ∧ z < 20 ∧ wt_LW T L ∧ (∀ y, y ∈ ts → pr_vt y) ∧ (∃ g, I 9 11 = Int32.ofNat g ∧ g < 64) ∧ (tk_now ts s = (Int8.ofInt 31).toInt32 → ∀ I1, wt_K I1 L ts n (tk_adv ts s).1 (tk_adv ts s).2 → I1 (C + 5) a = Int32.ofNat m → I1 20 z = 0 → I1 9 8 = Int32.ofInt 0 → (∀ c j, ¬ (c = 1 ∧ (j = 8 ∨ j = 9)) → ¬ (c = C + 5 ∧ j = a) → ¬ (c = 20 ∧ j = z) → ¬ (c = 9 ∧ j = 8) → I1 c j = I c j) → q (.inl none) T N I1 L R 0 0) ∧ (tk_now ts s = (Int8.ofInt 29).toInt32 → ∀ y I1, ((cd_all ts n (tk_adv ts s)).2.2.2 = none → ∀ u, u < 64 → nb y u = cd_h (cd_all ts n (tk_adv ts s)) u) → wt_K I1 (pp_cl L C a y) ts n (tk_take ts n ((Int8.ofInt 16).toInt32) (cd_all ts n (tk_adv ts s)).2.2).1 (tk_take ts n ((Int8.ofInt 16).toInt32) (cd_all ts n (tk_adv ts s)).2.2).2 → jp_F (wv_u I (C + 1) a ((Int8.ofInt 8).toInt32)) I1 z o → q (.inl none) T N I1 (pp_cl L C a y) R 0 0) ∧ (tk_now ts s = (Int8.ofInt 30).toInt32 → a + 2 = m ∧ I (C + 1) (a + 1) = 0 → ∀ y I1, ((cd_all ts n (tk_adv ts s)).2.2.2 = none → ∀ u, u < 64 → nb y u = cd_h (cd_all ts n (tk_adv ts s)) u) → wt_K I1 (wv_u (wv_u L (C + 2) a (L (C + 2) (a + 1))) (C + 3) a y) ts n (tk_take ts n ((Int8.ofInt 16).toInt32) (cd_all ts n (tk_adv ts s)).2.2).1 (tk_take ts n ((Int8.ofInt 16).toInt32) (cd_all ts n (tk_adv ts s)).2.2).2 → jp_F (wv_u (wv_u I C 8 (Int32.ofNat (a + 1))) (C + 1) a ((Int8.ofInt 9).toInt32)) I1 z o → q (.inl none) T N I1 (wv_u (wv_u L (C + 2) a (L (C + 2) (a + 1))) (C + 3) a y) R 0 0) ∧ (¬ tk_now ts s = (Int8.ofInt 31).toInt32 → ¬ tk_now ts s = (Int8.ofInt 29).toInt32 → ¬ (tk_now ts s = (Int8.ofInt 30).toInt32 ∧ a + 2 = m ∧ I (C + 1) (a + 1) = 0) → ∀ I1, wt_Q I L ts n (tk_ref ts n s) I1 → q (.inl none) T N I1 L R 0 0)
set_option maxRecDepth 100000 in
theorem wM_128 : ∃ cb ci np, pt_mt 128 = some (4, cb, 6, false, none, ci, np) := ⟨_, _, _, rfl⟩
set_option maxRecDepth 100000 in
set_option maxHeartbeats 4000000 in
theorem pj_join {sc : pt_Sc} {d : Nat} : wv_C wm_fx sc (d + 1 + 1 + 1 + 1 + 1) 128 pj_c128 := by
  rintro as T N I L R q ⟨ts, n, C, m0, o, z, a, s, rfl, hT, hK, hD, hC1, hC2, h8, hm0, ha, h7, ho, h5, hz, hLW, hv, ⟨g, hg, hg6⟩, q1, q2, q3, q4⟩ w0 HR
  obtain ⟨cb, ci, np, hm⟩ := wM_128
  have hc50 : wv_C wm_fx sc (d + 1 + 1 + 1 + 1) 50 wt_c50 := wv_C_deep (by omega) (wt_now (d := d))
  have hc51 : wv_C wm_fx sc (d + 1 + 1 + 1 + 1) 51 wt_c51 := wv_C_deep (by omega) (wt_advance (d := d))
  have hc52 : wv_C wm_fx sc (d + 1 + 1 + 1 + 1) 52 wt_c52 := wv_C_deep (by omega) (wt_refuse (d := d))
  have hc129 : wv_C wm_fx sc (d + 1 + 1 + 1 + 1) 129 pp_c129 := wv_C_deep (by omega) (pp_setRight (d := d))
  have hc124 : wv_C wm_fx sc (d + 1 + 1 + 1 + 1) 124 pc_c124 := wv_C_deep (by omega) (pc_condition (d := d))
  have hc126 : wv_C wm_fx sc (d + 1 + 1 + 1 + 1) 126 pp_c126 := wv_C_deep (by omega) (pp_setConditions (d := d))
  have hc130 : wv_C wm_fx sc (d + 1 + 1 + 1 + 1) 130 pp_c130 := wv_C_deep (by omega) (pp_setKind (d := d))
  have hc131 : wv_C wm_fx sc (d + 1 + 1 + 1 + 1) 131 pj_c131 := wv_C_deep (by omega) (pj_closeParen (d := d))
  have hc132 : wv_C wm_fx sc (d + 1 + 1 + 1 + 1) 132 pp_c132 := wv_C_deep (by omega) (pp_endsWith (d := d))
  have hc133 : wv_C wm_fx sc (d + 1 + 1 + 1 + 1) 133 pp_c133 := wv_C_deep (by omega) (pp_dropCondition (d := d))
  refine wv_meth (hh := none) rfl (sp := wv_sp [(50, wt_c50), (51, wt_c51), (52, wt_c52), (129, pp_c129), (124, pc_c124), (126, pp_c126), (130, pp_c130), (131, pj_c131), (132, pp_c132), (133, pp_c133)]) (hd := fun _ => none) (n := 0) (n1 := 300) hm zc_128 rfl (wv_sp_ok (fun q hq => by
    rcases List.mem_cons.mp hq with h | h
    · rw [h]; exact hc50
    rcases List.mem_cons.mp h with h | h
    · rw [h]; exact hc51
    rcases List.mem_cons.mp h with h | h
    · rw [h]; exact hc52
    rcases List.mem_cons.mp h with h | h
    · rw [h]; exact hc129
    rcases List.mem_cons.mp h with h | h
    · rw [h]; exact hc124
    rcases List.mem_cons.mp h with h | h
    · rw [h]; exact hc126
    rcases List.mem_cons.mp h with h | h
    · rw [h]; exact hc130
    rcases List.mem_cons.mp h with h | h
    · rw [h]; exact hc131
    rcases List.mem_cons.mp h with h | h
    · rw [h]; exact hc132
    rw [List.mem_singleton.mp h]; exact hc133)) ?_ (fun pc P h => by cases h) HR
  refine ⟨ts, n, s, rfl, hT, hK, ?_⟩
  have ezn := wi_onn (n := z) (by omega)
  refine ⟨fun w31 => ?_, fun w31 => ?_⟩
  · refine ⟨fun w29 => ?_, fun w29 => ?_⟩
    · have ea1 : Int32.ofNat a + Int32.ofInt 1 = Int32.ofNat (a + 1) := wq_4s a
      refine ⟨fun w30 => ?_, fun w30 => ?_⟩
      · exact ⟨ts, n, s, rfl, hT, hK, fun J hQ => q4 w31 w29 (fun z => w30 z.1) J hQ⟩
      have w30 := Decidable.not_not.mp w30
      refine ⟨hD.1, C, m0, a + 1, by rw [← ea1]; rfl, hD, hC2, h8, by omega, hm0, by omega, fun he => ?_, fun he => ?_⟩
      · refine ⟨fun z => absurd z (by decide), fun _ => ?_⟩
        have em : m0 = a + 2 := by omega
        refine ⟨ts, n, s, rfl, hT, hK, fun J hQ => ?_⟩
        have j8 : J C 8 = Int32.ofNat (a + 1 + 1) := by rw [hQ.2 _ _ (by omega), h8, em]
        refine ⟨hD.1, C, a + 1, rfl, hD, hC2, j8, by omega, ?_⟩
        refine ⟨ts, n, g, tk_adv ts s, rfl, hT, hLW, wt_K_8 hQ.1 (fun c j hc => wv_u_no _ _ (by omega)) (fun j => rfl), hv, by rw [wv_u_no _ _ (by omega), hQ.2 _ _ (by omega)]; exact hg, hg6, fun y g2 J2 a1 a2 a3 a4 a5 a6 a7 => ?_⟩
        refine ⟨hD.1, C, a, _, _, rfl, hD, hC2, by omega, ?_⟩
        refine ⟨hD.1, C, a, _, rfl, hD, hC2, by omega, ?_⟩
        have k2 : wt_K (wv_u J2 (C + 1) a ((Int8.ofInt 9).toInt32)) (wv_u (wv_u L (C + 2) a (L (C + 2) (a + 1))) (C + 3) a y) ts n (cd_all ts n (tk_adv ts s)).2.2.1 (cd_all ts n (tk_adv ts s)).2.2.2 := wt_K_8 a2 (fun c j hc => wv_u_no _ _ (by omega)) (fun j => by rw [wv_u_no _ _ (by omega), wv_u_no _ _ (by omega)])
        refine ⟨ts, n, o, z, (cd_all ts n (tk_adv ts s)).2.2, rfl, hT, k2, ?_, ho, ?_, by omega, fun J3 b1 b2 b3 b4 b5 => ?_⟩
        · rw [wv_u_no _ _ (by omega), a3 _ _ (by omega) (by omega), wv_u_no _ _ (by omega), hQ.2 _ _ (by omega)]; exact h7
        · rw [wv_u_no _ _ (by omega), a3 _ _ (by omega) (by omega), wv_u_no _ _ (by omega), hQ.2 _ _ (by omega)]; exact h5
        refine q3 w30 ⟨by omega, he.2⟩ y J3 a1 b1 ⟨b2, b3, b4, ⟨g2, ?_, a5⟩, fun c j c1 c2 => ?_⟩
        · rw [b5 _ _ (by omega) (by omega), wv_u_no _ _ (by omega)]; exact a4
        · rw [b5 _ _ c1 (by omega)]
          by_cases e1 : c = C + 1 ∧ j = a
          · rw [e1.1, e1.2, wv_u_at, wv_u_at]
          rw [wv_u_no _ _ e1, wv_u_no _ _ e1, a3 _ _ c1 (by omega)]
          by_cases e2 : c = C ∧ j = 8
          · rw [e2.1, e2.2, wv_u_at, wv_u_at]
          rw [wv_u_no _ _ e2, wv_u_no _ _ e2, hQ.2 _ _ c1]
      · refine ⟨fun _ => ?_, fun z => absurd rfl z⟩
        exact ⟨ts, n, s, rfl, hT, hK, fun J hQ => q4 w31 w29 (fun z => he ⟨by omega, z.2.2⟩) J hQ⟩
    · have w29 := Decidable.not_not.mp w29
      refine ⟨ts, n, s, rfl, hT, hK, fun J hQ => ?_⟩
      refine ⟨ts, n, g, tk_adv ts s, rfl, hT, hLW, hQ.1, hv, by rw [hQ.2 _ _ (by omega)]; exact hg, hg6, fun y g2 J2 a1 a2 a3 a4 a5 a6 a7 => ?_⟩
      refine ⟨hD.1, C, a, _, _, rfl, hD, hC2, by omega, ?_⟩
      refine ⟨hD.1, C, a, _, rfl, hD, hC2, by omega, ?_⟩
      have k2 : wt_K (wv_u J2 (C + 1) a ((Int8.ofInt 8).toInt32)) (pp_cl L C a y) ts n (cd_all ts n (tk_adv ts s)).2.2.1 (cd_all ts n (tk_adv ts s)).2.2.2 := wt_K_8 a2 (fun c j hc => wv_u_no _ _ (by omega)) (fun j => pp_cl_no (by omega))
      refine ⟨ts, n, o, z, (cd_all ts n (tk_adv ts s)).2.2, rfl, hT, k2, ?_, ho, ?_, by omega, fun J3 b1 b2 b3 b4 b5 => ?_⟩
      · rw [wv_u_no _ _ (by omega), a3 _ _ (by omega) (by omega), hQ.2 _ _ (by omega)]; exact h7
      · rw [wv_u_no _ _ (by omega), a3 _ _ (by omega) (by omega), hQ.2 _ _ (by omega)]; exact h5
      refine q2 w29 y J3 a1 b1 ⟨b2, b3, b4, ⟨g2, ?_, a5⟩, fun c j c1 c2 => ?_⟩
      · rw [b5 _ _ (by omega) (by omega), wv_u_no _ _ (by omega)]; exact a4
      · rw [b5 _ _ c1 (by omega)]
        by_cases e1 : c = C + 1 ∧ j = a
        · rw [e1.1, e1.2, wv_u_at, wv_u_at]
        rw [wv_u_no _ _ e1, wv_u_no _ _ e1, a3 _ _ c1 (by omega), hQ.2 _ _ c1]
  · have w31 := Decidable.not_not.mp w31
    refine ⟨ts, n, s, rfl, hT, hK, fun J hQ => ?_⟩
    refine ⟨hD.1, C, a, rfl, hD, hC2, by omega, ?_⟩
    have j5 : wv_u J (C + 5) a (J C 8) 9 5 - Int32.ofInt 1 = Int32.ofNat z := by rw [wv_u_no _ _ (by omega), hQ.2 _ _ (by omega), h5]; exact wq_s1 (by omega)
    refine ⟨_, wm_t hT rfl, by rw [j5]; exact pp_b (m := z) (c := 20) (by omega) (by omega), by decide, ?_⟩
    rw [j5, ezn]
    have h2 := q1 w31 (wv_u (wv_u (wv_u J (C + 5) a (J C 8)) 20 z (vp_nar .boolean (Int32.ofInt 0))) 9 8 (Int32.ofInt 0)) (wt_K_8 hQ.1 (fun c j hc => by rw [wv_u_no _ _ (by omega), wv_u_no _ _ (by omega), wv_u_no _ _ (by omega)]) (fun j => rfl)) (by rw [wv_u_no _ _ (by omega), wv_u_no _ _ (by omega), wv_u_at, hQ.2 _ _ (by omega)]; exact h8) (by rw [wv_u_no _ _ (by omega), wv_u_at]; rfl) (wv_u_at _ _ _ _) (fun c j a1 a2 a3 a4 => by rw [wv_u_no _ _ a4, wv_u_no _ _ a3, wv_u_no _ _ a2, hQ.2 _ _ a1])
    exact h2
