/-! ===== the class: turns of the reader ===== -/
theorem wt_K_8 {I J : Nat → Nat → Int32} {L L1 : Nat → Nat → Int64} {ts : List wt_t} {n a : Nat} {f : Option Nat} (h : wt_K I L ts n a f) (hF : ∀ c j, c < 8 → J c j = I c j) (hL : ∀ j, L1 7 j = L 7 j) : wt_K J L1 ts n a f := by
  obtain ⟨z1, z2, z3, z4, z5, z6, z7, z8, z9⟩ := h
  refine ⟨by rw [hF _ _ (by omega)]; exact z1, z2, by rw [hF _ _ (by omega)]; exact z3, z4, by rw [hF _ _ (by omega)]; exact z5, z6, by rw [hF _ _ (by omega)]; exact z7, z8, fun i t ht => ?_⟩
  rw [hF _ _ (by omega), hF _ _ (by omega), hF _ _ (by omega), hF _ _ (by omega), hL]
  exact z9 i t ht
theorem pp_ad_no {I : Nat → Nat → Int32} {C m c j : Nat} {k : Int32} (h : ¬ (c = C ∧ j = 8)) (h2 : ¬ ((c = C + 1 ∨ c = C + 4 ∨ c = C + 5) ∧ j = m)) : pp_ad I C m k c j = I c j := by
  unfold pp_ad
  rw [wv_u_no _ _ h, wv_u_no _ _ (by omega), wv_u_no _ _ (by omega), wv_u_no _ _ (by omega)]
theorem pp_al_no {L : Nat → Nat → Int64} {C m c j : Nat} (h : ¬ ((c = C + 2 ∨ c = C + 3) ∧ j = m)) : pp_al L C m c j = L c j := by
  unfold pp_al
  rw [wv_u_no _ _ (by omega), wv_u_no _ _ (by omega)]
theorem wt_K_ad {I : Nat → Nat → Int32} {L : Nat → Nat → Int64} {ts : List wt_t} {n a C m : Nat} {f : Option Nat} {k : Int32} (h : wt_K I L ts n a f) (hC : 27 < C) : wt_K (pp_ad I C m k) (pp_al L C m) ts n a f := wt_K_8 h (fun c j hc => pp_ad_no (by omega) (by omega)) (fun j => pp_al_no (by omega))
theorem pp_c159_m {as : List Value} {T : wv_T} {N : Nat} {I : Nat → Nat → Int32} {L : Nat → Nat → Int64} {R : Nat → Nat → Option Nat} {q q2 : wv_Q} (h : pp_c159 as T N I L R q) (hq : ∀ T1 N1 I1 L1 R1 nc ns, q (.inl none) T1 N1 I1 L1 R1 nc ns → q2 (.inl none) T1 N1 I1 L1 R1 nc ns) : pp_c159 as T N I L R q2 := by
  obtain ⟨ts, n, C, m0, b, o, c, g, B, len, s, js, jt, ps, l, x, fl, h1, hT, hA, hK, hv, hD, hC1, hC2, h10, hm0, h99, hb, h7, ho, hc9, hc, hg, hg6, hO, hN1, hN2, hJ, hW, hI, hlen, hjr, hll, q1, q2, q3⟩ := h
  exact ⟨ts, n, C, m0, b, o, c, g, B, len, s, js, jt, ps, l, x, fl, h1, hT, hA, hK, hv, hD, hC1, hC2, h10, hm0, h99, hb, h7, ho, hc9, hc, hg, hg6, hO, hN1, hN2, hJ, hW, hI, hlen, hjr, hll, fun a1 a2 a3 a4 a5 a6 a7 a8 a9 a10 a11 => hq _ _ _ _ _ _ _ (q1 a1 a2 a3 a4 a5 a6 a7 a8 a9 a10 a11), fun a1 a2 a3 a4 a5 a6 a7 => hq _ _ _ _ _ _ _ (q2 a1 a2 a3 a4 a5 a6 a7), fun a1 a2 a3 a4 a5 a6 a7 a8 a9 a10 a11 a12 a13 a14 a15 a16 a17 a18 => hq _ _ _ _ _ _ _ (q3 a1 a2 a3 a4 a5 a6 a7 a8 a9 a10 a11 a12 a13 a14 a15 a16 a17 a18)⟩
/-- what a turn behind an item leaves alone -/
def ie_F (I : Nat → Nat → Int32) (L : Nat → Nat → Int64) (I1 : Nat → Nat → Int32) (L1 : Nat → Nat → Int64) : Prop := (∀ c j, ¬ (c = 1 ∧ (j = 8 ∨ j = 9)) → ¬ (c = 9 ∧ (j = 6 ∨ j = 8)) → ¬ c = 21 → ¬ (c = 10 ∧ 8 ≤ j ∧ j ≤ 10) → ¬ (c = 14 ∨ c = 15 ∨ c = 18) → I1 c j = I c j) ∧ ∀ c j, ¬ (c = 11 ∨ c = 12 ∨ c = 13 ∨ c = 16 ∨ c = 17) → L1 c j = L c j
def pj_c146 : wv_c1 := fun as T N I L R q => ∃ (ts : List wt_t) (n C : Nat) (s : wt_q) (js : List Nat) (ps : ww_s) (fl : Bool), as = [.ref 9, .ref C] ∧ wm_T T ∧ wt_K I L ts n s.1 s.2 ∧ pj_J I js ∧ ww_W fl I L ps ∧ ww_I fl ps ∧ ps.length = pj_n js + 1 ∧ (0 < rk_of (tk_now ts s) → (jr (rk_of (tk_now ts s)) js ps).1.length < 400 ∧ ∀ fl1 I1 L1, pj_J I1 (rk_of (tk_now ts s) :: (jr (rk_of (tk_now ts s)) js ps).1) → ww_W fl1 I1 L1 (jr (rk_of (tk_now ts s)) js ps).2 → ww_I fl1 (jr (rk_of (tk_now ts s)) js ps).2 → wt_K I1 L1 ts n (tk_adv ts s).1 (tk_adv ts s).2 → I1 9 8 = Int32.ofInt 2 → ie_F I L I1 L1 → q (.inl none) T N I1 L1 R 0 0) ∧ (rk_of (tk_now ts s) = 0 → tk_now ts s = (Int8.ofInt 14).toInt32 → pp_c159 [.ref 9, .ref C] T N I L R q) ∧ (rk_of (tk_now ts s) = 0 → ¬ tk_now ts s = (Int8.ofInt 14).toInt32 → ∀ I1, wt_Q I L ts n (tk_ref ts n s) I1 → q (.inl none) T N I1 L R 0 0)
set_option maxRecDepth 100000 in
theorem wM_146 : ∃ cb ci np, pt_mt 146 = some (4, cb, 3, false, none, ci, np) := ⟨_, _, _, rfl⟩
set_option maxRecDepth 100000 in
set_option maxHeartbeats 4000000 in
theorem pj_itemEnded {sc : pt_Sc} {d : Nat} : wv_C wm_fx sc (d + 1 + 1 + 1 + 1 + 1 + 1) 146 pj_c146 := by
  rintro as T N I L R q ⟨ts, n, C, s, js, ps, fl, rfl, hT, hK, hJ, hW, hI, hlen, q1, q2, q3⟩ w0 HR
  obtain ⟨cb, ci, np, hm⟩ := wM_146
  have hc50 : wv_C wm_fx sc (d + 1 + 1 + 1 + 1 + 1) 50 wt_c50 := wv_C_deep (by omega) (wt_now (d := d))
  have hc51 : wv_C wm_fx sc (d + 1 + 1 + 1 + 1 + 1) 51 wt_c51 := wv_C_deep (by omega) (wt_advance (d := d))
  have hc52 : wv_C wm_fx sc (d + 1 + 1 + 1 + 1 + 1) 52 wt_c52 := wv_C_deep (by omega) (wt_refuse (d := d))
  have hc147 : wv_C wm_fx sc (d + 1 + 1 + 1 + 1 + 1) 147 pj_c147 := wv_C_deep (by omega) (pj_rankOf (d := d))
  have hc148 : wv_C wm_fx sc (d + 1 + 1 + 1 + 1 + 1) 148 pj_c148 := wv_C_deep (by omega) (pj_joinItems (d := d))
  have hc119 : wv_C wm_fx sc (d + 1 + 1 + 1 + 1 + 1) 119 pj_c119 := wv_C_deep (by omega) (pj_pushJoint (d := d))
  have hc159 : wv_C wm_fx sc (d + 1 + 1 + 1 + 1 + 1) 159 pp_c159 := wv_C_deep (by omega) (pp_closeBrace (d := d))
  refine wv_meth (hh := none) rfl (sp := wv_sp [(50, wt_c50), (51, wt_c51), (52, wt_c52), (147, pj_c147), (148, pj_c148), (119, pj_c119), (159, pp_c159)]) (hd := fun _ => none) (n := 0) (n1 := 300) hm zc_146 rfl (wv_sp_ok (fun q hq => by
    rcases List.mem_cons.mp hq with h | h
    · rw [h]; exact hc50
    rcases List.mem_cons.mp h with h | h
    · rw [h]; exact hc51
    rcases List.mem_cons.mp h with h | h
    · rw [h]; exact hc52
    rcases List.mem_cons.mp h with h | h
    · rw [h]; exact hc147
    rcases List.mem_cons.mp h with h | h
    · rw [h]; exact hc148
    rcases List.mem_cons.mp h with h | h
    · rw [h]; exact hc119
    rw [List.mem_singleton.mp h]; exact hc159)) ?_ (fun pc P h => by cases h) HR
  have hr4 : rk_of (tk_now ts s) ≤ 4 := by
    unfold rk_of
    repeat' split
    all_goals omega
  have er := wi_on (n := rk_of (tk_now ts s)) (by omega)
  refine ⟨ts, n, s, rfl, hT, hK, ?_⟩
  refine ⟨_, rfl, ?_⟩
  refine ⟨fun w => ?_, fun w => ?_⟩
  · rw [wi_le, er, wi_0] at w
    have w : rk_of (tk_now ts s) = 0 := by omega
    refine ⟨ts, n, s, rfl, hT, hK, ?_⟩
    refine ⟨fun w2 => ?_, fun w2 => ?_⟩
    · refine ⟨ts, n, s, rfl, hT, hK, fun J hQ => ?_⟩
      exact q3 w w2 J hQ
    · refine pp_c159_m (q2 w (Decidable.not_not.mp w2)) (fun T1 N1 I1 L1 R1 nc ns h => ?_)
      rw [← Nat.zero_add nc, ← Nat.zero_add ns] at h
      exact h
  · rw [wi_le, er, wi_0] at w
    obtain ⟨ql, q1⟩ := q1 (by omega)
    refine ⟨rk_of (tk_now ts s), js, ps, fl, rfl, by omega, hr4, hT, hJ, hW, hI, hlen, fun fl1 I1 L1 b1 b2 b3 b4 b5 => ?_⟩
    refine ⟨_, rk_of (tk_now ts s), rfl, hr4, hT, b1, ql, fun J hJ2 hF2 => ?_⟩
    have jK : wt_K J L1 ts n s.1 s.2 := wt_K_8 hK (fun c j hc => by rw [hF2 _ _ (by omega) (by omega), b5.1 _ _ (by omega) (by omega) (by omega)]) (fun j => b5.2 _ _ (by omega))
    refine ⟨ts, n, s, rfl, hT, jK, fun J2 hQ => ?_⟩
    refine q1 fl1 _ L1 ⟨?_, hJ2.2.1, pj_s_c hJ2.2.2 (fun k hk => ?_)⟩ (ww_W_c b2 (fun c j hc => ?_)) b3 (wt_K_8 hQ.1 (fun c j hc => wv_u_no _ _ (by omega)) (fun j => rfl)) (wv_u_at _ _ _ _) ⟨fun c j a1 a2 a3 a4 a5 => ?_, fun c j a => b5.2 _ _ a⟩
    · rw [wv_u_no _ _ (by omega), hQ.2 _ _ (by omega)]; exact hJ2.1
    · rw [wv_u_no _ _ (by omega), hQ.2 _ _ (by omega)]
    · rw [wv_u_no _ _ (by omega), hQ.2 _ _ (by omega), hF2 _ _ (by omega) (by omega)]
    · rw [wv_u_no _ _ (by omega), hQ.2 _ _ a1, hF2 _ _ (by omega) a3, b5.1 _ _ (by omega) a4 a5]
def pj_c120 : wv_c1 := fun as T N I L R q => ∃ (ts : List wt_t) (n C m : Nat) (s : wt_q), as = [.ref 9, .ref C] ∧ wm_T T ∧ wt_K I L ts n s.1 s.2 ∧ pp_D T R C ∧ 27 < C ∧ C < 1000000 ∧ I C 8 = Int32.ofNat m ∧ m < 155 ∧ (¬ tk_now ts (tk_adv ts s) = (Int8.ofInt 25).toInt32 → ∀ I1, wt_K I1 (pp_al L C m) ts n (tk_adv ts s).1 (tk_adv ts s).2 → (∀ c j, ¬ (c = 1 ∧ (j = 8 ∨ j = 9)) → I1 c j = pp_ad I C m ((Int8.ofInt 7).toInt32) c j) → q (.inl none) T N I1 (pp_al L C m) R 0 0) ∧ (tk_now ts (tk_adv ts s) = (Int8.ofInt 25).toInt32 → ∀ I1, wt_K I1 (pp_al L C m) ts n (tk_adv ts (tk_adv ts s)).1 (tk_adv ts (tk_adv ts s)).2 → (∀ c j, ¬ (c = 1 ∧ (j = 8 ∨ j = 9)) → I1 c j = wv_u (pp_ad I C m ((Int8.ofInt 7).toInt32)) (C + 4) m (tk_low ts (tk_adv ts s).1) c j) → q (.inl none) T N I1 (pp_al L C m) R 0 0)
set_option maxRecDepth 100000 in
theorem wM_120 : ∃ cb ci np, pt_mt 120 = some (4, cb, 3, false, none, ci, np) := ⟨_, _, _, rfl⟩
set_option maxRecDepth 100000 in
set_option maxHeartbeats 4000000 in
theorem pj_wantNext {sc : pt_Sc} {d : Nat} : wv_C wm_fx sc (d + 1 + 1) 120 pj_c120 := by
  rintro as T N I L R q ⟨ts, n, C, m0, s, rfl, hT, hK, hD, hC1, hC2, h8, hm0, hn, hy⟩ w0 HR
  obtain ⟨cb, ci, np, hm⟩ := wM_120
  have hc115 : wv_C wm_fx sc (d + 1) 115 pp_c115 := wv_C_deep (by omega) (pp_add (d := d))
  have hc51 : wv_C wm_fx sc (d + 1) 51 wt_c51 := wv_C_deep (by omega) (wt_advance (d := d))
  have hc50 : wv_C wm_fx sc (d + 1) 50 wt_c50 := wv_C_deep (by omega) (wt_now (d := d))
  have hc87 : wv_C wm_fx sc (d + 1) 87 wt_c87 := wv_C_deep (by omega) (wt_low (d := d))
  have hc121 : wv_C wm_fx sc (d + 1) 121 pp_c121 := wv_C_deep (by omega) (pp_setCount (d := d))
  refine wv_meth (hh := none) rfl (sp := wv_sp [(115, pp_c115), (51, wt_c51), (50, wt_c50), (87, wt_c87), (121, pp_c121)]) (hd := fun _ => none) (n := 0) (n1 := 300) hm zc_120 rfl (wv_sp_ok (fun q hq => by
    rcases List.mem_cons.mp hq with h | h
    · rw [h]; exact hc115
    rcases List.mem_cons.mp h with h | h
    · rw [h]; exact hc51
    rcases List.mem_cons.mp h with h | h
    · rw [h]; exact hc50
    rcases List.mem_cons.mp h with h | h
    · rw [h]; exact hc87
    rw [List.mem_singleton.mp h]; exact hc121)) ?_ (fun pc P h => by cases h) HR
  refine ⟨hD.1, C, m0, _, rfl, hD, hC2, h8, hm0, ?_⟩
  refine ⟨ts, n, s, rfl, hT, wt_K_ad hK hC1, fun J hQ => ?_⟩
  refine ⟨ts, n, tk_adv ts s, rfl, hT, hQ.1, ?_⟩
  refine ⟨fun w => hn w J hQ.1 hQ.2, fun w => ?_⟩
  have w := Decidable.not_not.mp w
  refine ⟨ts, n, tk_adv ts s, rfl, hT, hQ.1, ?_⟩
  refine ⟨hD.1, C, m0, _, rfl, hD, hC2, hm0, ?_⟩
  refine ⟨ts, n, tk_adv ts s, rfl, hT, wt_K_8 hQ.1 (fun c j hc => wv_u_no _ _ (by omega)) (fun j => rfl), fun J2 hQ2 => ?_⟩
  refine hy w J2 hQ2.1 (fun c j a => ?_)
  rw [hQ2.2 _ _ a]
  by_cases e : c = C + 4 ∧ j = m0
  · rw [e.1, e.2, wv_u_at, wv_u_at]
  · rw [wv_u_no _ _ e, wv_u_no _ _ e, hQ.2 _ _ a]
def pj_c122 : wv_c1 := fun as T N I L R q => ∃ (ts : List wt_t) (n C m : Nat) (s : wt_q), as = [.ref 9, .ref C] ∧ wm_T T ∧ wt_K I L ts n s.1 s.2 ∧ pp_D T R C ∧ 27 < C ∧ C < 1000000 ∧ I C 8 = Int32.ofNat m ∧ m < 155 ∧ ∃ o z : Nat, I 9 7 = Int32.ofNat o ∧ o ≤ 20 ∧ I 9 5 = Int32.ofNat z ∧ z ≤ o ∧ (¬ o < 20 → ∀ I1, wt_Q I L ts n (tk_ref ts n s) I1 → q (.inl none) T N I1 L R 0 0) ∧ (o < 20 → ∀ I1, wt_K I1 (pp_al L C m) ts n (tk_adv ts s).1 (tk_adv ts s).2 → I1 19 z = Int32.ofNat m → I1 20 z = 1 → I1 9 5 = Int32.ofNat (z + 1) → I1 9 7 = Int32.ofNat (o + 1) → (∀ c j, ¬ (c = 1 ∧ (j = 8 ∨ j = 9)) → ¬ (c = 9 ∧ (j = 5 ∨ j = 7)) → ¬ ((c = 19 ∨ c = 20) ∧ j = z) → I1 c j = pp_ad I C m ((Int8.ofInt 10).toInt32) c j) → q (.inl none) T N I1 (pp_al L C m) R 0 0)
set_option maxRecDepth 100000 in
theorem wM_122 : ∃ cb ci np, pt_mt 122 = some (4, cb, 2, false, none, ci, np) := ⟨_, _, _, rfl⟩
set_option maxRecDepth 100000 in
set_option maxHeartbeats 4000000 in
theorem pj_openParen {sc : pt_Sc} {d : Nat} : wv_C wm_fx sc (d + 1 + 1) 122 pj_c122 := by
  rintro as T N I L R q ⟨ts, n, C, m0, s, rfl, hT, hK, hD, hC1, hC2, h8, hm0, o, z, h7, ho, h5, hz, hn, hy⟩ w0 HR
  obtain ⟨cb, ci, np, hm⟩ := wM_122
  have hc115 : wv_C wm_fx sc (d + 1) 115 pp_c115 := wv_C_deep (by omega) (pp_add (d := d))
  have hc51 : wv_C wm_fx sc (d + 1) 51 wt_c51 := wv_C_deep (by omega) (wt_advance (d := d))
  have hc52 : wv_C wm_fx sc (d + 1) 52 wt_c52 := wv_C_deep (by omega) (wt_refuse (d := d))
  refine wv_meth (hh := none) rfl (sp := wv_sp [(115, pp_c115), (51, wt_c51), (52, wt_c52)]) (hd := fun _ => none) (n := 0) (n1 := 300) hm zc_122 rfl (wv_sp_ok (fun q hq => by
    rcases List.mem_cons.mp hq with h | h
    · rw [h]; exact hc115
    rcases List.mem_cons.mp h with h | h
    · rw [h]; exact hc51
    rw [List.mem_singleton.mp h]; exact hc52)) ?_ (fun pc P h => by cases h) HR
  have eo := wi_on (n := o) (by omega)
  have ezn := wi_onn (n := z) (by omega)
  have e20 : ((Int8.ofInt 20).toInt32).toInt = 20 := rfl
  refine ⟨fun w => ?_, fun w => ?_⟩
  · rw [h7, wi_lt, eo, e20] at w
    have w : o < 20 := by omega
    have a5 : ∀ k, pp_ad I C m0 k 9 5 = Int32.ofNat z := fun k => by rw [pp_ad_no (by omega) (by omega)]; exact h5
    have a7 : ∀ k, pp_ad I C m0 k 9 7 = Int32.ofNat o := fun k => by rw [pp_ad_no (by omega) (by omega)]; exact h7
    refine ⟨hD.1, C, m0, _, rfl, hD, hC2, h8, hm0, ?_⟩
    refine ⟨_, wm_t hT rfl, by rw [h5]; exact pp_b (m := z) (c := 20) (by omega) (by omega), by decide, ?_⟩
    rw [h5, ezn]
    have b5 : wv_u (pp_ad I C m0 ((Int8.ofInt 10).toInt32)) 19 z (Int32.ofNat m0) 9 5 = Int32.ofNat z := by rw [wv_u_no _ _ (by omega)]; exact a5 _
    refine ⟨_, wm_t hT rfl, by rw [b5]; exact pp_b (m := z) (c := 20) (by omega) (by omega), by decide, ?_⟩
    rw [b5, ezn]
    obtain ⟨K, hKK⟩ : ∃ K, wv_u (wv_u (pp_ad I C m0 ((Int8.ofInt 10).toInt32)) 19 z (Int32.ofNat m0)) 20 z (vp_nar .boolean (Int32.ofInt 1)) = K := ⟨_, rfl⟩
    rw [hKK]
    have kF : ∀ c j, ¬ ((c = 19 ∨ c = 20) ∧ j = z) → K c j = pp_ad I C m0 ((Int8.ofInt 10).toInt32) c j := fun c j a => by rw [← hKK, wv_u_no _ _ (by omega), wv_u_no _ _ (by omega)]
    have k5 : K 9 5 = Int32.ofNat z := by rw [kF _ _ (by omega)]; exact a5 _
    have e5 : K 9 5 + Int32.ofInt 1 = Int32.ofNat (z + 1) := by rw [k5]; exact wq_4s z
    have e7 : wv_u K 9 5 (K 9 5 + Int32.ofInt 1) 9 7 + Int32.ofInt 1 = Int32.ofNat (o + 1) := by rw [wv_u_no _ _ (by omega), kF _ _ (by omega), a7]; exact wq_4s o
    refine ⟨ts, n, s, rfl, hT, wt_K_8 (wt_K_ad (k := ((Int8.ofInt 10).toInt32)) (m := m0) hK hC1) (fun c j hc => ?_) (fun j => rfl), fun J hQ => ?_⟩
    · rw [wv_u_no _ _ (by omega), wv_u_no _ _ (by omega), kF _ _ (by omega)]
    · refine hy w J hQ.1 ?_ ?_ ?_ ?_ (fun c j a1 a2 a3 => ?_)
      · rw [hQ.2 _ _ (by omega), wv_u_no _ _ (by omega), wv_u_no _ _ (by omega), ← hKK, wv_u_no _ _ (by omega)]
        exact wv_u_at _ _ _ _
      · rw [hQ.2 _ _ (by omega), wv_u_no _ _ (by omega), wv_u_no _ _ (by omega), ← hKK, wv_u_at]
        rfl
      · rw [hQ.2 _ _ (by omega), wv_u_no _ _ (by omega), wv_u_at]
        exact e5
      · rw [hQ.2 _ _ (by omega), wv_u_at]
        exact e7
      · rw [hQ.2 _ _ a1, wv_u_no _ _ (by omega), wv_u_no _ _ (by omega), kF _ _ a3]
  · rw [h7, wi_lt, eo, e20] at w
    refine ⟨ts, n, s, rfl, hT, hK, fun J hQ => hn (by omega) J hQ⟩
def pj_c131 : wv_c1 := fun as T N I L R q => ∃ (ts : List wt_t) (n o z : Nat) (s : wt_q), as = [.ref 9] ∧ wm_T T ∧ wt_K I L ts n s.1 s.2 ∧ I 9 7 = Int32.ofNat (o + 1) ∧ o ≤ 20 ∧ I 9 5 = Int32.ofNat (z + 1) ∧ z ≤ 20 ∧ ∀ I1, wt_K I1 L ts n (tk_take ts n ((Int8.ofInt 16).toInt32) s).1 (tk_take ts n ((Int8.ofInt 16).toInt32) s).2 → I1 9 5 = Int32.ofNat z → I1 9 7 = Int32.ofNat o → I1 9 8 = Int32.ofInt 1 → (∀ c j, ¬ (c = 1 ∧ (j = 8 ∨ j = 9)) → ¬ (c = 9 ∧ (j = 5 ∨ j = 7 ∨ j = 8)) → I1 c j = I c j) → q (.inl none) T N I1 L R 0 0
set_option maxRecDepth 100000 in
theorem wM_131 : ∃ cb ci np, pt_mt 131 = some (4, cb, 1, false, none, ci, np) := ⟨_, _, _, rfl⟩
set_option maxRecDepth 100000 in
set_option maxHeartbeats 4000000 in
theorem pj_closeParen {sc : pt_Sc} {d : Nat} : wv_C wm_fx sc (d + 1 + 1 + 1) 131 pj_c131 := by
  rintro as T N I L R q ⟨ts, n, o, z, s, rfl, hT, hK, h7, ho, h5, hz, h⟩ w0 HR
  obtain ⟨cb, ci, np, hm⟩ := wM_131
  have hc49 : wv_C wm_fx sc (d + 1 + 1) 49 wt_c49 := wv_C_deep (by omega) (wt_take (d := d))
  refine wv_meth (hh := none) rfl (sp := wv_sp [(49, wt_c49)]) (hd := fun _ => none) (n := 0) (n1 := 300) hm zc_131 rfl (wv_sp_ok (fun q hq => by rw [List.mem_singleton.mp hq]; exact hc49)) ?_ (fun pc P h => by cases h) HR
  refine ⟨ts, n, s, _, rfl, hT, hK, fun J hQ => ?_⟩
  have j5 : J 9 5 = Int32.ofNat (z + 1) := by rw [hQ.2 _ _ (by omega)]; exact h5
  have j7 : wv_u J 9 5 (Int32.ofNat z) 9 7 = Int32.ofNat (o + 1) := by rw [wv_u_no _ _ (by omega), hQ.2 _ _ (by omega)]; exact h7
  have e5 : J 9 5 - Int32.ofInt 1 = Int32.ofNat z := by rw [j5]; exact wq_s1 (by omega)
  have e7 : wv_u J 9 5 (Int32.ofNat z) 9 7 - Int32.ofInt 1 = Int32.ofNat o := by rw [j7]; exact wq_s1 (by omega)
  have h2 := h (wv_u (wv_u (wv_u J 9 5 (J 9 5 - Int32.ofInt 1)) 9 7 (wv_u J 9 5 (J 9 5 - Int32.ofInt 1) 9 7 - Int32.ofInt 1)) 9 8 (Int32.ofInt 1)) (wt_K_8 hQ.1 (fun c j hc => by rw [wv_u_no _ _ (by omega), wv_u_no _ _ (by omega), wv_u_no _ _ (by omega)]) (fun j => rfl)) (by rw [wv_u_no _ _ (by omega), wv_u_no _ _ (by omega), wv_u_at, e5]) (by rw [wv_u_no _ _ (by omega), wv_u_at, e5, e7]) (wv_u_at _ _ _ _) (fun c j a1 a2 => by rw [wv_u_no _ _ (by omega), wv_u_no _ _ (by omega), wv_u_no _ _ (by omega), hQ.2 _ _ a1])
  exact h2
