/-! ===== the start: the relation holds ===== -/
theorem ce_h_0 (u : Int32) : ce_h 0 u := by
  refine ⟨by decide, ?_, ?_⟩
  · rw [show (0 : Int32) &&& (Int8.ofInt 63).toInt32 = 0 from by decide]
    exact Int32.zero_and
  · rw [show (0 : Int32) >>> ((Int8.ofInt 6).toInt32 &&& 31) = 0 from by decide]
    exact Int32.zero_and
section SZ
variable {p q : Nat → Option pz_C}
theorem sx_k (hp : st_ag p q) (h : st_pM q = true) (x : Nat) (hx : x < 2) : kp_K (sx_I p) x st_S0 1 0 [] ∧ rl_s (sx_I p) (sx_L p) x 0 (fun _ => 0) (if x = 0 then 28 else 124) rl_Pt := by
  unfold st_pM at h
  simp only [Bool.and_eq_true, List.all_cons, List.all_nil] at h
  obtain ⟨⟨⟨⟨⟨⟨z1, z2, z3, z4, z5, z6, z7, z8, z9, z10, z11, z12, z13, z14, z15, z16, z17, z18, z19, z20, z21, z22, z23, _⟩, ⟨a1, a2, a3, a4, a5, a6, a7, _⟩⟩, ⟨b1, b2, _⟩⟩, ⟨c1, c2, _⟩⟩, ⟨d1, d2, _⟩⟩, g⟩ := h
  have fw0 : fw st_S0 = true := by decide
  have hx2 : x = 0 ∨ x = 1 := by omega
  rcases hx2 with rfl | rfl
  · refine ⟨⟨⟨xI hp a4 (by omega), xI hp a6 (by omega), fun y hy => ?_⟩, xI hp z18 (by omega), xI hp d1 (by omega), ?_⟩, rl_s_0 (xI hp z20 (by omega)) (xI hp z22 (by omega))⟩
    · rw [st_S0n hy]
      refine ⟨xI hp b1 (by omega), xI hp z16 (by omega), fun _ => ⟨0, 1, xI hp z12 (by omega), xI hp a2 (by omega), by omega, by omega, fun u hu => ⟨fun _ => ⟨0, by omega, by omega, ?_⟩, fun _ => rfl⟩⟩, fun e => absurd st_S0k e⟩
      have e : kp_V (sx_I p) 0 468 0 = 0 := xI hp z14 (by omega)
      rw [e]
      exact ce_h_0 _
    · rw [fw0, if_pos rfl]
      exact xI hp c1 (by omega)
  · refine ⟨⟨⟨xI hp a5 (by omega), xI hp a7 (by omega), fun y hy => ?_⟩, xI hp z19 (by omega), xI hp d2 (by omega), ?_⟩, rl_s_0 (xI hp z21 (by omega)) (xI hp z23 (by omega))⟩
    · rw [st_S0n hy]
      refine ⟨xI hp b2 (by omega), xI hp z17 (by omega), fun _ => ⟨0, 1, xI hp z13 (by omega), xI hp a3 (by omega), by omega, by omega, fun u hu => ⟨fun _ => ⟨0, by omega, by omega, ?_⟩, fun _ => rfl⟩⟩, fun e => absurd st_S0k e⟩
      have e : kp_V (sx_I p) 1 468 0 = 0 := xI hp z15 (by omega)
      rw [e]
      exact ce_h_0 _
    · rw [fw0, if_pos rfl]
      exact xI hp c2 (by omega)
theorem sx_m (hp : st_ag p q) (h : st_pM q = true) : rl_t 0 (sx_I p) ∧ rl_w 0 (fun _ => 0) (sx_I p) ∧ rl_k 0 (sx_I p) ∧ sx_I p 460 66 = 0 ∧ sx_I p 460 70 = 0 ∧ sx_I p 9 11 = Int32.ofNat 0 ∧ tw_M 1 0 0 (fun _ => 0) (fun _ => false) (fun _ => 2) (fun _ => 0) (fun _ => 0) (sx_I p) := by
  unfold st_pM at h
  simp only [Bool.and_eq_true, List.all_cons, List.all_nil] at h
  obtain ⟨⟨⟨⟨⟨⟨z1, z2, z3, z4, z5, z6, z7, z8, z9, z10, z11, z12, z13, z14, z15, z16, z17, z18, z19, z20, z21, z22, z23, _⟩, ⟨a1, a2, a3, a4, a5, a6, a7, _⟩⟩, ⟨b1, b2, _⟩⟩, ⟨c1, c2, _⟩⟩, ⟨d1, d2, _⟩⟩, g⟩ := h
  exact ⟨rl_t_0 (xI hp z3 (by omega)) (xI hp z5 (by omega)), rl_w_0 (xI hp z1 (by omega)) (xI hp z6 (by omega)), ⟨xI hp z2 (by omega), xI hp z9 (by omega), by omega⟩, xI hp z10 (by omega), xI hp z11 (by omega), xI hp z4 (by omega), xI hp a1 (by omega), xI hp z7 (by omega), xI hp z8 (by omega), fun i hi => absurd hi (Nat.not_lt_zero _), fun i hi => xI hp (st_ff g i hi) (by omega), fun i hi => absurd hi (Nat.not_lt_zero _)⟩
/-- a property of the start, in memory -/
theorem sx_e (hp : st_ag p q) {C : Nat} {S : rn_N} (h : st_pC q C = true) (hC : C + 96 < 460) : rl_e (sx_T p) (sx_I p) (sx_L p) (sx_R p) C rl_Pt S [] := by
  obtain ⟨_, _, _, h1, h2, h3, h4, h5, h6, h7, h8⟩ := sx_C hp h hC
  have p0 : ∀ i, i < pd_m rl_Pt → i = 0 := fun i hi => by
    have : pd_m rl_Pt = 1 := rfl
    omega
  refine ⟨⟨h1, by decide, by decide, fun i hi => ?_⟩, ⟨h2, fun k y hk => by simp at hk, fun i hi hk => ?_⟩, fun i hi hk => ?_, ?_⟩
  · rw [p0 i hi]
    refine ⟨h4, by decide, h5, by decide, h6, by decide, fun u hu => ?_, fun u hu => ?_⟩
    · rw [h7]
      show nb (zk_l 18446744073709551615) u = true
      exact (show ∀ u : Fin 64, nb (zk_l 18446744073709551615) u.1 = true from by decide) ⟨u, hu⟩
    · rw [h8]
      show nb (zk_l 0) u = false
      exact (show ∀ u : Fin 64, nb (zk_l 0) u.1 = false from by decide) ⟨u, hu⟩
  · have : pd_k rl_Pt i = 0 := rfl
    omega
  · have : pd_k rl_Pt i = 0 := rfl
    omega
  · show sx_I p C 10 = Int32.ofNat (2 * 1 + (if sx_I p (C + 1) 0 = Int32.ofInt 1 then 24 else 0))
    rw [h3, h4, if_neg (by decide)]
    rfl
end SZ
set_option maxRecDepth 100000 in
theorem wm_536 : pt_look wm_ty 536 = some (1, 1) := rfl
set_option maxRecDepth 100000 in
theorem wm_tyb : (wm_ty.all fun q => Nat.ble q.1 536) = true := by decide +kernel
set_option maxRecDepth 100000 in
theorem wm_Lb : (wm_L.all fun q => Nat.ble q.2.1 535) = true := by decide +kernel
section SW
variable {p : Nat → Option pz_C} {w : List pz_C} {c s : Nat}
theorem sx_Rl (hw : ∀ r, r < 536 → p r = w[r]?) (h6 : p 536 = some (.inl (1, 1, []))) (ho : st_ao p) (hk : st_ck w c s = true) {nc ns : Nat} (hc : nc ≤ 575) (hs : ns ≤ 430000) : Rl (sx_T p) 537 (sx_I p) (sx_L p) (sx_R p) nc ns 0 := by
  have hp : ∀ r, r < 536 → p r = st_q (st_cs w) r := fun r hr => by rw [st_q_ok hr, hw r hr]
  unfold st_ck at hk
  simp only [Bool.and_eq_true] at hk
  obtain ⟨⟨⟨⟨k1, k2⟩, k3⟩, k4⟩, k5⟩ := hk
  unfold st_cq at k5
  simp only [Bool.and_eq_true, List.all_cons, List.all_nil] at k5
  obtain ⟨⟨⟨⟨⟨⟨pc1, pc2, pc3, pc4, _⟩, ⟨pd1, pd2, pd3, _⟩⟩, ⟨ph1, ph2, _⟩⟩, kM⟩, kR⟩, kX⟩ := k5
  obtain ⟨o1, o2, o3⟩ := sx_0 ho
  have hl : w.length = 536 := Nat.eq_of_beq_eq_true k1
  have C4 : ∀ C, rl_C C → st_pC (st_q (st_cs w)) C = true ∧ C + 96 < 460 := fun C hC => by
    rcases hC with rfl | rfl | rfl | rfl
    · exact ⟨pc1, by omega⟩
    · exact ⟨pc2, by omega⟩
    · exact ⟨pc3, by omega⟩
    · exact ⟨pc4, by omega⟩
  have cc := fun C hC => sx_C hp (C4 C hC).1 (C4 C hC).2
  have d3 := sx_D hp pd1 (by omega)
  have d4 := sx_D hp pd2 (by omega)
  have d5 := sx_D hp pd3 (by omega)
  have e1 := sx_H hp ph1 (by omega)
  have e2 := sx_H hp ph2 (by omega)
  obtain ⟨m1, m2, m3, m4, m5, m6, m7⟩ := sx_m hp kM
  unfold st_pR at kR
  simp only [Bool.and_eq_true, List.all_cons, List.all_nil] at kR
  obtain ⟨⟨⟨⟨⟨r1, r2, r3, r4, r5, r6, r7, r8, r9, _⟩, t1⟩, t2⟩, t3⟩, t4⟩ := kR
  unfold st_pX at kX
  rw [Bool.and_eq_true] at kX
  have T6 : sx_T p 536 = some (.inr (1, 1)) := by
    show cx_T (p 536) = _
    rw [h6]
    rfl
  have hF : rl_F (sx_T p) (sx_R p) := by
    refine ⟨fun a x e => ?_, fun c hc => ?_, T6, xT hp t1 (by omega), xT hp t2 (by omega), xT hp t3 (by omega), xT hp t4 (by omega), fun y hy => ?_, fun C hC => ⟨(cc C hC).1, fun k hk => ((cc C hC).2.2.1 k hk).1⟩, fun C hC => ?_, e1.1, e2.1⟩
    · have z := List.all_eq_true.mp kX.1 _ (pt_look_mem e)
      by_cases h5 : a = 536
      · subst h5
        cases wm_536.symm.trans e
        exact T6
      · have z : (Nat.beq a 536 || st_y (cx_T (st_q (st_cs w) a)) (.inr x)) = true := z
        rw [show Nat.beq a 536 = false from by cases hb : Nat.beq a 536 with | false => rfl | true => exact (h5 (Nat.eq_of_beq_eq_true hb)).elim, Bool.false_or] at z
        have hb : a ≤ 536 := Nat.le_of_ble_eq_true (List.all_eq_true.mp wm_tyb _ (pt_look_mem e))
        exact xT hp z (by omega)
    · show ¬ cx_T (p c) = none
      rw [hw c hc, List.getElem?_eq_getElem (by omega)]
      unfold cx_T
      split <;> simp_all
    · have : y = 0 ∨ y = 1 := by omega
      rcases this with rfl | rfl
      · exact xR hp r6 (by omega)
      · exact xR hp r7 (by omega)
    · rcases hC with rfl | rfl | rfl
      · exact ⟨d3.1, d3.2.1, d3.2.2.1⟩
      · exact ⟨d4.1, d4.2.1, d4.2.2.1⟩
      · exact ⟨d5.1, d5.2.1, d5.2.2.1⟩
  have hO : rl_O (sx_T p) 537 (sx_R p) (fun _ => false) := by
    refine ⟨fun Q hQ => ?_, ⟨_, 0, xR hp r8 (by omega), o3, by omega, fun h => absurd h (by omega)⟩, ⟨_, 0, xR hp r9 (by omega), o3, by omega, fun h => absurd h (by omega)⟩, ⟨fun E hE => ?_, fun E E2 B _ _ _ h => by cases h⟩, by omega⟩
    · obtain ⟨C, k, hC, hk, rfl⟩ := hQ
      exact ⟨1099511627777, 0, ⟨((cc C hC).1.2.2.2.2.2.1 k hk).2, (cc C hC).2.1 k hk, o1, by omega, fun h => absurd h (by omega), fun _ => by omega⟩, fun h => absurd h (by omega), fun _ _ _ h => absurd h (by omega)⟩
    · obtain ⟨C, k, hC, hk, rfl⟩ := hE
      exact ⟨_, ((cc C hC).2.2.1 k hk).2.1, (fun h => by cases h), fun _ => o2⟩
  have hh : rl_h (sx_I p) := by
    refine ⟨⟨by rw [e1.2]; decide, by rw [e1.2, m4], fun t ht => ?_⟩, by rw [e2.2]; decide, by rw [e2.2, m5], fun t ht => ?_⟩
    · rw [m4, wi_0] at ht
      omega
    · rw [m5, wi_0] at ht
      omega
  have pp : ∀ x, x < 2 → rl_p (sx_T p) (sx_I p) (sx_L p) (sx_R p) (fun _ => false) x 0 (fun _ => 0) (if x = 0 then 28 else 124) rl_Pt st_S0 1 0 [] := fun x hx => by
    have hC : rl_C (if x = 0 then 28 else 124) := by
      by_cases h0 : x = 0
      · rw [if_pos h0]; exact Or.inl rfl
      · rw [if_neg h0]; exact Or.inr (Or.inl rfl)
    obtain ⟨s1, s2⟩ := sx_k hp kM x hx
    refine ⟨?_, st_rb, sx_e hp (C4 _ hC).1 (C4 _ hC).2, s1, s2, fun k hk => Or.inl ((cc _ hC).2.2.1 k hk).2.2, fun j y _ hy => by simp at hy⟩
    have : x = 0 ∨ x = 1 := by omega
    rcases this with rfl | rfl
    · exact xR hp r1 (by omega)
    · exact xR hp r2 (by omega)
  refine ⟨0, 0, 0, fun _ => 0, fun _ => false, 346, fun x => if x = 0 then 28 else 124, fun _ => rl_Pt, fun _ => st_S0, fun _ => 1, fun _ => 0, fun _ => [], 442, 451, 1, 0, 0, fun _ => 0, fun _ => false, fun _ => 2, fun _ => 0, fun _ => 0, fun E => E + 8, fun _ => 16, fun _ => [], ⟨hF, sx_X ho, hO, m1, m2, m3, hh, sx_e hp pc3 (by omega), 0, m6, by omega⟩, ⟨⟨Or.inl rfl, Or.inr (Or.inl rfl), Or.inr (Or.inr rfl), by decide, by decide, by decide⟩, xR hp r3 (by omega), pp⟩, ?_, ⟨by omega, ?_, ?_⟩⟩
  · refine ⟨Or.inl ⟨rfl, rfl⟩, ⟨xR hp r4 (by omega), xR hp r5 (by omega)⟩, ⟨by omega, by omega, by omega, by omega, fun i hi => absurd hi (Nat.not_lt_zero _), (fun i hi => by show 2 < 2 * (1 + 1 + 0 + 0); omega), fun i hi => absurd hi (Nat.not_lt_zero _)⟩, ⟨d4.2.2.2.2.1, d4.2.2.2.2.2.1, d4.2.2.2.2.2.2.1, fun i hi => absurd hi (Nat.not_lt_zero _), d4.2.2.2.2.2.2.2.1, fun i hi => absurd hi (Nat.not_lt_zero _)⟩, m7, ⟨d3.2.2.2.2.2.2.2.2.1, d4.2.2.2.2.2.2.2.2.1, d5.2.2.2.2.2.2.2.2.1⟩, fun E hE => ?_, by decide, fun h => absurd d4.2.2.2.1 h⟩
    rcases hE with rfl | rfl
    · exact ⟨d4.2.2.2.2.2.2.2.2.2, Or.inl rfl⟩
    · exact ⟨d5.2.2.2.2.2.2.2.2.2, Or.inl rfl⟩
  · have : rl_tn (fun _ => false) rl_es = 0 := by decide
    rw [this]
    show 3 * nc + 0 ≤ 0 + 3 * 0 + 3 * 0 + 16 + 16 + 1700
    omega
  · have : rl_tn (fun _ => false) rl_es = 0 := by decide
    rw [this]
    show 3 * ns + 2624 * 0 ≤ 2624 * 0 + 12672 * 0 + 149604 * 0 + 6 * (16 + 16) + 1300000
    omega
/-- the world is this picture -/
theorem sx_wX (hw : ∀ r, r < 536 → p r = w[r]?) (hk : st_ck w c s = true) : wv_X wm_fx (sx_T p) (sx_R p) := by
  have hp : ∀ r, r < 536 → p r = st_q (st_cs w) r := fun r hr => by rw [st_q_ok hr, hw r hr]
  unfold st_ck at hk
  simp only [Bool.and_eq_true] at hk
  obtain ⟨⟨⟨⟨k1, k2⟩, k3⟩, k4⟩, k5⟩ := hk
  unfold st_cq at k5
  simp only [Bool.and_eq_true] at k5
  obtain ⟨⟨⟨⟨⟨_, _⟩, _⟩, kM⟩, kR⟩, kX⟩ := k5
  have hl : w.length = 536 := Nat.eq_of_beq_eq_true k1
  unfold st_pX at kX
  rw [Bool.and_eq_true] at kX
  intro c b f e
  unfold wm_fx at e
  cases hq : pt_look wm_L c with
  | none => rw [hq] at e; cases e
  | some x =>
    rw [hq] at e
    cases e
    have z := List.all_eq_true.mp kX.2 _ (pt_look_mem hq)
    rw [Bool.and_eq_true] at z
    have z1 : st_y (cx_T (st_q (st_cs w) x.1)) (.inl c) = true := z.1
    have hb : x.1 ≤ 535 := Nat.le_of_ble_eq_true (List.all_eq_true.mp wm_Lb _ (pt_look_mem hq))
    have hb : x.1 < 536 := by omega
    exact ⟨xT hp z1 hb, fun k a hka => xR hp (List.all_eq_true.mp z.2 _ (pt_look_mem hka)) hb⟩
end SW
