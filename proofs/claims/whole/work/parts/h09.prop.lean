/-! ===== the class: a property read ===== -/
theorem pj_c120_m {as : List Value} {T : wv_T} {N : Nat} {I : Nat → Nat → Int32} {L : Nat → Nat → Int64} {R : Nat → Nat → Option Nat} {q q2 : wv_Q} (h : pj_c120 as T N I L R q) (hq : ∀ T1 N1 I1 L1 R1 nc ns, q (.inl none) T1 N1 I1 L1 R1 nc ns → q2 (.inl none) T1 N1 I1 L1 R1 nc ns) : pj_c120 as T N I L R q2 := by
  obtain ⟨ts, n, C, m, s, h1, h2, h3, h4, h5, h6, h7, h8, x1, x2⟩ := h
  exact ⟨ts, n, C, m, s, h1, h2, h3, h4, h5, h6, h7, h8, fun a0 a1 a2 a3 => hq _ _ _ _ _ _ _ (x1 a0 a1 a2 a3), fun a0 a1 a2 a3 => hq _ _ _ _ _ _ _ (x2 a0 a1 a2 a3)⟩
theorem pj_c122_m {as : List Value} {T : wv_T} {N : Nat} {I : Nat → Nat → Int32} {L : Nat → Nat → Int64} {R : Nat → Nat → Option Nat} {q q2 : wv_Q} (h : pj_c122 as T N I L R q) (hq : ∀ T1 N1 I1 L1 R1 nc ns, q (.inl none) T1 N1 I1 L1 R1 nc ns → q2 (.inl none) T1 N1 I1 L1 R1 nc ns) : pj_c122 as T N I L R q2 := by
  obtain ⟨ts, n, C, m, s, h1, h2, h3, h4, h5, h6, h7, h8, o, z, k1, k2, k3, k4, x1, x2⟩ := h
  exact ⟨ts, n, C, m, s, h1, h2, h3, h4, h5, h6, h7, h8, o, z, k1, k2, k3, k4, fun a0 a1 a2 => hq _ _ _ _ _ _ _ (x1 a0 a1 a2), fun a0 a1 a2 a3 a4 a5 a6 a7 => hq _ _ _ _ _ _ _ (x2 a0 a1 a2 a3 a4 a5 a6 a7)⟩
theorem pj_c123_m {as : List Value} {T : wv_T} {N : Nat} {I : Nat → Nat → Int32} {L : Nat → Nat → Int64} {R : Nat → Nat → Option Nat} {q q2 : wv_Q} (h : pj_c123 as T N I L R q) (hq : ∀ T1 N1 I1 L1 R1 nc ns, q (.inl none) T1 N1 I1 L1 R1 nc ns → q2 (.inl none) T1 N1 I1 L1 R1 nc ns) : pj_c123 as T N I L R q2 := by
  obtain ⟨ts, n, C, m, s, h1, h2, h3, h4, h5, h6, h7, h8, k1, k2, k3, x1, x2, x3⟩ := h
  exact ⟨ts, n, C, m, s, h1, h2, h3, h4, h5, h6, h7, h8, k1, k2, k3, fun a0 a1 a2 a3 a4 a5 a6 => hq _ _ _ _ _ _ _ (x1 a0 a1 a2 a3 a4 a5 a6), fun a0 a1 a2 a3 a4 a5 a6 a7 a8 a9 => hq _ _ _ _ _ _ _ (x2 a0 a1 a2 a3 a4 a5 a6 a7 a8 a9), fun a0 a1 a2 a3 a4 a5 a6 a7 a8 a9 a10 => hq _ _ _ _ _ _ _ (x3 a0 a1 a2 a3 a4 a5 a6 a7 a8 a9 a10)⟩
theorem pj_c116_m {as : List Value} {T : wv_T} {N : Nat} {I : Nat → Nat → Int32} {L : Nat → Nat → Int64} {R : Nat → Nat → Option Nat} {q q2 : wv_Q} (h : pj_c116 as T N I L R q) (hq : ∀ T1 N1 I1 L1 R1 nc ns, q (.inl none) T1 N1 I1 L1 R1 nc ns → q2 (.inl none) T1 N1 I1 L1 R1 nc ns) : pj_c116 as T N I L R q2 := by
  obtain ⟨ts, n, C, m, o, s, k, h1, h2, h3, h4, h5, h6, h7, h8, k1, k2, k3, x1, x2⟩ := h
  exact ⟨ts, n, C, m, o, s, k, h1, h2, h3, h4, h5, h6, h7, h8, k1, k2, k3, fun a0 a1 a2 a3 a4 => hq _ _ _ _ _ _ _ (x1 a0 a1 a2 a3 a4), fun a0 a1 a2 a3 a4 a5 a6 a7 a8 a9 a10 => hq _ _ _ _ _ _ _ (x2 a0 a1 a2 a3 a4 a5 a6 a7 a8 a9 a10)⟩
theorem pj_c131_m {as : List Value} {T : wv_T} {N : Nat} {I : Nat → Nat → Int32} {L : Nat → Nat → Int64} {R : Nat → Nat → Option Nat} {q q2 : wv_Q} (h : pj_c131 as T N I L R q) (hq : ∀ T1 N1 I1 L1 R1 nc ns, q (.inl none) T1 N1 I1 L1 R1 nc ns → q2 (.inl none) T1 N1 I1 L1 R1 nc ns) : pj_c131 as T N I L R q2 := by
  obtain ⟨ts, n, o, z, s, h1, h2, h3, h4, h5, h6, h7, x1⟩ := h
  exact ⟨ts, n, o, z, s, h1, h2, h3, h4, h5, h6, h7, fun a0 a1 a2 a3 a4 a5 => hq _ _ _ _ _ _ _ (x1 a0 a1 a2 a3 a4 a5)⟩
theorem pj_c128_m {as : List Value} {T : wv_T} {N : Nat} {I : Nat → Nat → Int32} {L : Nat → Nat → Int64} {R : Nat → Nat → Option Nat} {q q2 : wv_Q} (h : pj_c128 as T N I L R q) (hq : ∀ T1 N1 I1 L1 R1 nc ns, q (.inl none) T1 N1 I1 L1 R1 nc ns → q2 (.inl none) T1 N1 I1 L1 R1 nc ns) : pj_c128 as T N I L R q2 := by
  obtain ⟨ts, n, C, m, o, z, a, s, h1, h2, h3, h4, h5, h6, h7, h8, h9, k1, k2, k3, k4, k5, k6, k7, x1, x2, x3, x4⟩ := h
  exact ⟨ts, n, C, m, o, z, a, s, h1, h2, h3, h4, h5, h6, h7, h8, h9, k1, k2, k3, k4, k5, k6, k7, fun a0 a1 a2 a3 a4 a5 a6 => hq _ _ _ _ _ _ _ (x1 a0 a1 a2 a3 a4 a5 a6), fun a0 a1 a2 a3 a4 a5 => hq _ _ _ _ _ _ _ (x2 a0 a1 a2 a3 a4 a5), fun a0 a1 a2 a3 a4 a5 a6 => hq _ _ _ _ _ _ _ (x3 a0 a1 a2 a3 a4 a5 a6), fun a0 a1 a2 a3 a4 => hq _ _ _ _ _ _ _ (x4 a0 a1 a2 a3 a4)⟩
def pj_c127 : wv_c1 := fun as T N I L R q => ∃ (C z : Nat), as = [.ref 9, .ref C] ∧ wm_T T ∧ I 9 5 = Int32.ofNat z ∧ z ≤ 20 ∧ (z = 0 → ∃ (ts : List wt_t) (n : Nat) (s : wt_q), wt_K I L ts n s.1 s.2 ∧ ∀ I1, wt_K I1 L ts n (tk_take ts n (Int32.ofInt 0) s).1 (tk_take ts n (Int32.ofInt 0) s).2 → I1 9 8 = Int32.ofInt 4 → (∀ c j, ¬ (c = 1 ∧ (j = 8 ∨ j = 9)) → ¬ (c = 9 ∧ j = 8) → I1 c j = I c j) → q (.inl none) T N I1 L R 0 0) ∧ (∀ z2, z = z2 + 1 → ¬ I 20 z2 = 0 → pj_c128 [.ref 9, .ref C, .int (I 19 z2)] T N I L R q) ∧ (∀ z2, z = z2 + 1 → I 20 z2 = 0 → pj_c131 [.ref 9] T N I L R q)
set_option maxRecDepth 100000 in
theorem wM_127 : ∃ cb ci np, pt_mt 127 = some (4, cb, 2, false, none, ci, np) := ⟨_, _, _, rfl⟩
set_option maxRecDepth 100000 in
set_option maxHeartbeats 4000000 in
theorem pj_ended {sc : pt_Sc} {d : Nat} : wv_C wm_fx sc (d + 1 + 1 + 1 + 1 + 1 + 1) 127 pj_c127 := by
  rintro as T N I L R q ⟨C, z, rfl, hT, h5, hz, q1, q2, q3⟩ w0 HR
  obtain ⟨cb, ci, np, hm⟩ := wM_127
  have hc49 : wv_C wm_fx sc (d + 1 + 1 + 1 + 1 + 1) 49 wt_c49 := wv_C_deep (by omega) (wt_take (d := d))
  have hc128 : wv_C wm_fx sc (d + 1 + 1 + 1 + 1 + 1) 128 pj_c128 := wv_C_deep (by omega) (pj_join (d := d))
  have hc131 : wv_C wm_fx sc (d + 1 + 1 + 1 + 1 + 1) 131 pj_c131 := wv_C_deep (by omega) (pj_closeParen (d := d))
  refine wv_meth (hh := none) rfl (sp := wv_sp [(49, wt_c49), (128, pj_c128), (131, pj_c131)]) (hd := fun _ => none) (n := 0) (n1 := 300) hm zc_127 rfl (wv_sp_ok (fun q hq => by
    rcases List.mem_cons.mp hq with h | h
    · rw [h]; exact hc49
    rcases List.mem_cons.mp h with h | h
    · rw [h]; exact hc128
    rw [List.mem_singleton.mp h]; exact hc131)) ?_ (fun pc P h => by cases h) HR
  have ez := wi_on (n := z) (by omega)
  refine ⟨fun w => ?_, fun w => ?_⟩
  · obtain ⟨z2, rfl⟩ : ∃ z2, z = z2 + 1 := ⟨z - 1, by
      have : ¬ z = 0 := fun e => w (by rw [h5, e]; rfl)
      omega⟩
    have e1 : I 9 5 - Int32.ofInt 1 = Int32.ofNat z2 := by rw [h5]; exact wq_s1 (by omega)
    have e2 := wi_onn (n := z2) (by omega)
    refine ⟨_, _, Or.inl rfl, wm_t hT rfl, by rw [e1]; exact pp_b (m := z2) (c := 20) (by omega) (by omega), ?_⟩
    rw [e1, e2]
    refine ⟨fun w2 => ?_, fun w2 => ?_⟩
    · exact pj_c131_m (q3 z2 rfl w2) (fun T1 N1 I1 L1 R1 nc ns h => by rw [← Nat.zero_add nc, ← Nat.zero_add ns] at h; exact h)
    · refine ⟨_, wm_t hT rfl, by rw [e1]; exact pp_b (m := z2) (c := 20) (by omega) (by omega), ?_⟩
      rw [e1, e2]
      exact pj_c128_m (q2 z2 rfl w2) (fun T1 N1 I1 L1 R1 nc ns h => by rw [← Nat.zero_add nc, ← Nat.zero_add ns] at h; exact h)
  · have w := Decidable.not_not.mp w
    have z0 : z = 0 := by
      have := wi_eq.mp w
      rw [h5, ez, wi_0] at this
      omega
    obtain ⟨ts, n, s, hK, q1⟩ := q1 z0
    refine ⟨ts, n, s, _, rfl, hT, hK, fun J hQ => ?_⟩
    exact q1 _ (wt_K_8 hQ.1 (fun c j hc => wv_u_no _ _ (by omega)) (fun j => rfl)) (wv_u_at _ _ _ _) (fun c j a1 a2 => by rw [wv_u_no _ _ a2, hQ.2 _ _ a1])
def pj_c114 : wv_c1 := fun as T N I L R q => ∃ (ts : List wt_t) (n C m : Nat) (s : wt_q), as = [.ref 9, .ref C] ∧ wm_T T ∧ wt_K I L ts n s.1 s.2 ∧ pp_D T R C ∧ 27 < C ∧ C < 1000000 ∧ I C 8 = Int32.ofNat m ∧ m < 155 ∧ ((tk_now ts s).toInt = 26 → ∀ I1, wt_K I1 (pp_al L C m) ts n (tk_adv ts s).1 (tk_adv ts s).2 → (∀ c j, ¬ (c = 1 ∧ (j = 8 ∨ j = 9)) → I1 c j = pp_ad I C m (Int32.ofInt 5) c j) → q (.inl none) T N I1 (pp_al L C m) R 0 0) ∧ ((tk_now ts s).toInt = 27 → ∀ I1, wt_Q I L ts n (tk_adv ts s) I1 → pj_c116 [.ref 9, .ref C, .int ((Int8.ofInt 6).toInt32)] T N I1 L R q) ∧ ((tk_now ts s).toInt = 28 → pj_c120 [.ref 9, .ref C] T N I L R q) ∧ ((tk_now ts s).toInt = 15 → pj_c122 [.ref 9, .ref C] T N I L R q) ∧ ((tk_now ts s).toInt = 13 → pj_c116 [.ref 9, .ref C, .int (Int32.ofInt 1)] T N I L R q) ∧ (¬ ((tk_now ts s).toInt = 13 ∨ (tk_now ts s).toInt = 15 ∨ (26 ≤ (tk_now ts s).toInt ∧ (tk_now ts s).toInt ≤ 28)) → pj_c123 [.ref 9, .ref C] T N I L R q)
set_option maxRecDepth 100000 in
theorem wM_114 : ∃ cb ci np, pt_mt 114 = some (4, cb, 2, false, none, ci, np) := ⟨_, _, _, rfl⟩
set_option maxRecDepth 100000 in
set_option maxHeartbeats 4000000 in
theorem pj_want {sc : pt_Sc} {d : Nat} : wv_C wm_fx sc (d + 1 + 1 + 1 + 1 + 1 + 1) 114 pj_c114 := by
  rintro as T N I L R q ⟨ts, n, C, m0, s, rfl, hT, hK, hD, hC1, hC2, h8, hm0, q1, q2, q3, q4, q5, q6⟩ w0 HR
  obtain ⟨cb, ci, np, hm⟩ := wM_114
  have hc50 : wv_C wm_fx sc (d + 1 + 1 + 1 + 1 + 1) 50 wt_c50 := wv_C_deep (by omega) (wt_now (d := d))
  have hc51 : wv_C wm_fx sc (d + 1 + 1 + 1 + 1 + 1) 51 wt_c51 := wv_C_deep (by omega) (wt_advance (d := d))
  have hc115 : wv_C wm_fx sc (d + 1 + 1 + 1 + 1 + 1) 115 pp_c115 := wv_C_deep (by omega) (pp_add (d := d))
  have hc116 : wv_C wm_fx sc (d + 1 + 1 + 1 + 1 + 1) 116 pj_c116 := wv_C_deep (by omega) (pj_openSequence (d := d))
  have hc120 : wv_C wm_fx sc (d + 1 + 1 + 1 + 1 + 1) 120 pj_c120 := wv_C_deep (by omega) (pj_wantNext (d := d))
  have hc122 : wv_C wm_fx sc (d + 1 + 1 + 1 + 1 + 1) 122 pj_c122 := wv_C_deep (by omega) (pj_openParen (d := d))
  have hc123 : wv_C wm_fx sc (d + 1 + 1 + 1 + 1 + 1) 123 pj_c123 := wv_C_deep (by omega) (pj_wantCondition (d := d))
  refine wv_meth (hh := none) rfl (sp := wv_sp [(50, wt_c50), (51, wt_c51), (115, pp_c115), (116, pj_c116), (120, pj_c120), (122, pj_c122), (123, pj_c123)]) (hd := fun _ => none) (n := 0) (n1 := 300) hm zc_114 rfl (wv_sp_ok (fun q hq => by
    rcases List.mem_cons.mp hq with h | h
    · rw [h]; exact hc50
    rcases List.mem_cons.mp h with h | h
    · rw [h]; exact hc51
    rcases List.mem_cons.mp h with h | h
    · rw [h]; exact hc115
    rcases List.mem_cons.mp h with h | h
    · rw [h]; exact hc116
    rcases List.mem_cons.mp h with h | h
    · rw [h]; exact hc120
    rcases List.mem_cons.mp h with h | h
    · rw [h]; exact hc122
    rw [List.mem_singleton.mp h]; exact hc123)) ?_ (fun pc P h => by cases h) HR
  refine ⟨ts, n, s, rfl, hT, hK, ?_⟩
  refine ⟨fun w13 => ?_, fun w13 => ⟨fun w15 => ?_, fun w15 => ⟨fun w26 => ?_, fun w26 => ⟨fun w27 => ?_, fun w27 => ⟨fun w28 => ?_, fun w28 => ?_⟩⟩⟩⟩⟩
  · exact pj_c116_m (q5 (by omega)) (fun T1 N1 I1 L1 R1 nc ns h => by rw [← Nat.zero_add nc, ← Nat.zero_add ns] at h; exact h)
  · exact pj_c122_m (q4 (by omega)) (fun T1 N1 I1 L1 R1 nc ns h => by rw [← Nat.zero_add nc, ← Nat.zero_add ns] at h; exact h)
  · refine ⟨hD.1, C, m0, _, rfl, hD, hC2, h8, hm0, ?_⟩
    refine ⟨ts, n, s, rfl, hT, wt_K_ad hK hC1, fun J hQ => ?_⟩
    exact q1 (by omega) J hQ.1 hQ.2
  · refine ⟨ts, n, s, rfl, hT, hK, fun J hQ => ?_⟩
    exact pj_c116_m (q2 (by omega) J hQ) (fun T1 N1 I1 L1 R1 nc ns h => by rw [← Nat.zero_add nc, ← Nat.zero_add ns] at h; exact h)
  · exact pj_c120_m (q3 (by omega)) (fun T1 N1 I1 L1 R1 nc ns h => by rw [← Nat.zero_add nc, ← Nat.zero_add ns] at h; exact h)
  · exact pj_c123_m (q6 (by omega)) (fun T1 N1 I1 L1 R1 nc ns h => by rw [← Nat.zero_add nc, ← Nat.zero_add ns] at h; exact h)
/-- where the rows of a part begin -/
def pp_sl (k : Nat → Int32) (m : Nat) : Nat → Nat
  | 0 => 2 * m
  | i + 1 => pp_sl k m i + (if k i = Int32.ofInt 1 then 24 else 0)
theorem pp_sl_le (k : Nat → Int32) (m : Nat) : ∀ i, pp_sl k m i ≤ 2 * m + 24 * i
  | 0 => Nat.le_refl _
  | i + 1 => by
    have := pp_sl_le k m i
    show pp_sl k m i + (if k i = Int32.ofInt 1 then 24 else 0) ≤ _
    split <;> omega
def pp_h171 (C m0 : Nat) (T : wv_T) (N : Nat) (I : Nat → Nat → Int32) (L : Nat → Nat → Int64) (R : Nat → Nat → Option Nat) : Nat → Option (Nat → wv_P) := fun pc =>
  if pc = 12 then some (fun mm lv st T1 N1 I1 L1 R1 nc ns => ∃ k : Nat, k ≤ m0 ∧ mm = m0 - k ∧ lv = [some (.ref C), some (.int (Int32.ofNat k)), none] ∧ st = [] ∧ T1 = T ∧ N1 = N ∧ L1 = L ∧ R1 = R ∧ nc = 0 ∧ ns = 0 ∧ (∀ i, i < k → I1 (C + 6) i = Int32.ofNat (pp_sl (I (C + 1)) m0 i)) ∧ I1 C 10 = Int32.ofNat (pp_sl (I (C + 1)) m0 k) ∧ ∀ c j, ¬ c = C + 6 → ¬ (c = C ∧ j = 10) → I1 c j = I c j) else none
def pp_c171 : wv_c1 := fun as T N I L R q => ∃ C m : Nat, as = [.ref C] ∧ pp_D T R C ∧ C < 1000000 ∧ I C 8 = Int32.ofNat m ∧ m ≤ 155 ∧ ∀ I1, (∀ i, i < m → I1 (C + 6) i = Int32.ofNat (pp_sl (I (C + 1)) m i)) → I1 C 10 = Int32.ofNat (pp_sl (I (C + 1)) m m) → (∀ c j, ¬ c = C + 6 → ¬ (c = C ∧ j = 10) → I1 c j = I c j) → q (.inl none) T N I1 L R 0 0
set_option maxRecDepth 100000 in
theorem wM_171 : ∃ cb ci np, pt_mt 171 = some (8, cb, 2, false, none, ci, np) := ⟨_, _, _, rfl⟩
set_option maxRecDepth 100000 in
set_option maxHeartbeats 4000000 in
theorem pp_layOut {sc : pt_Sc} {d : Nat} : wv_C wm_fx sc (d + 1) 171 pp_c171 := by
  rintro as T N I L R q ⟨C, m0, rfl, ⟨d0, ⟨r0, r1, r2, r3, r4, r5, r6, r7⟩, ⟨t1, t2, t3, t4, t5, t6⟩, ⟨k7, t7⟩, ⟨k8, t8⟩, ds, dc⟩, hC, h8, hm0, h⟩ w0 HR
  obtain ⟨cb, ci, np, hm⟩ := wM_171
  refine wv_meth (hh := none) rfl (sp := fun _ _ _ _ _ _ _ _ => False) (hd := pp_h171 C m0 T N I L R) (n := 300) (n1 := 300) hm zc_171 rfl (fun k as T N I L R q h => by cases h) ?_ ?_ HR
  · have k0 : C < 1099511627776 := by omega
    have e2 : Int32.ofInt 2 * Int32.ofNat m0 = Int32.ofNat (2 * m0) := by
      apply wi_eq.mpr
      rw [wi_mul, wi_on (by omega), wi_of, wi_on (by omega), wr_id (x := 2) (by omega) (by omega), wr_id (by omega) (by omega)]
      omega
    refine ⟨d0, ⟨d0, k0⟩, ?_⟩
    rw [h8, e2]
    refine ⟨m0, 0, by omega, rfl, rfl, rfl, rfl, rfl, rfl, rfl, rfl, rfl, fun i hi => absurd hi (by omega), wv_u_at _ _ _ _, fun c j a1 a2 => wv_u_no _ _ a2⟩
  · intro pc P hP m lv st T1 N1 I1 L1 R1 nc ns hh
    unfold pp_h171 at hP
    split at hP
    · cases hP
      rename_i hpc
      subst hpc
      obtain ⟨k, hk, rfl, rfl, rfl, rfl, rfl, rfl, rfl, rfl, rfl, b1, b2, b3⟩ := hh
      have k0 : C < 1099511627776 := by omega
      have k6 : C + 6 < 1099511627776 := by omega
      have ek := wi_on (n := k) (by omega)
      have ekn := wi_onn (n := k) (by omega)
      have em := wi_on (n := m0) (by omega)
      have i8 : I1 C 8 = Int32.ofNat m0 := by rw [b3 _ _ (by omega) (by omega)]; exact h8
      have hle := pp_sl_le (I (C + 1)) m0 k
      refine ⟨d0, fun w => ?_, fun w => ?_⟩
      · rw [i8, wi_le, ek, em] at w
        have : k = m0 := by omega
        subst this
        exact h I1 b1 b2 b3
      · rw [i8, wi_le, ek, em] at w
        have hkm : k < m0 := by omega
        have bd := pp_b (m := k) (c := 155) (by omega) (by omega)
        refine ⟨d0, _, r5, d0, _, t6, bd, k6, ?_⟩
        rw [ekn, b2]
        have u10 : wv_u I1 (C + 6) k (Int32.ofNat (pp_sl (I (C + 1)) m0 k)) C 10 = Int32.ofNat (pp_sl (I (C + 1)) m0 k) := by rw [wv_u_no _ _ (by omega)]; exact b2
        have u1 : wv_u I1 (C + 6) k (Int32.ofNat (pp_sl (I (C + 1)) m0 k)) (C + 1) k = I (C + 1) k := by rw [wv_u_no _ _ (by omega)]; exact b3 _ _ (by omega) (by omega)
        refine ⟨d0, d0, _, r0, _, t1, bd, ?_⟩
        rw [ekn, u1, u10]
        have nxt : ∀ v, v = Int32.ofNat (pp_sl (I (C + 1)) m0 (k + 1)) → ∃ m, m < m0 - k ∧ ∃ k1 : Nat, k1 ≤ m0 ∧ m = m0 - k1 ∧ [some (Value.ref C), some (Value.int (Int32.ofNat k + Int32.ofInt 1)), none] = [some (Value.ref C), some (Value.int (Int32.ofNat k1)), none] ∧ (∀ i, i < k1 → wv_u (wv_u I1 (C + 6) k (Int32.ofNat (pp_sl (I (C + 1)) m0 k))) C 10 v (C + 6) i = Int32.ofNat (pp_sl (I (C + 1)) m0 i)) ∧ wv_u (wv_u I1 (C + 6) k (Int32.ofNat (pp_sl (I (C + 1)) m0 k))) C 10 v C 10 = Int32.ofNat (pp_sl (I (C + 1)) m0 k1) ∧ ∀ c j, ¬ c = C + 6 → ¬ (c = C ∧ j = 10) → wv_u (wv_u I1 (C + 6) k (Int32.ofNat (pp_sl (I (C + 1)) m0 k))) C 10 v c j = I c j := by
          intro v hvv
          refine ⟨m0 - (k + 1), by omega, k + 1, by omega, rfl, by rw [wq_4s], fun i hi => ?_, by rw [wv_u_at]; exact hvv, fun c j a1 a2 => by rw [wv_u_no _ _ a2, wv_u_no _ _ (by omega)]; exact b3 c j a1 a2⟩
          rw [wv_u_no _ _ (by omega)]
          by_cases e : i = k
          · rw [e, wv_u_at]
          · rw [wv_u_no _ _ (by omega)]; exact b1 i (by omega)
        have es : pp_sl (I (C + 1)) m0 (k + 1) = pp_sl (I (C + 1)) m0 k + (if I (C + 1) k = Int32.ofInt 1 then 24 else 0) := rfl
        refine ⟨fun w2 => ?_, fun w2 => ?_⟩
        · refine ⟨⟨d0, k0⟩, ?_⟩
          obtain ⟨m1, c1, k1, c2, c3, c4, c5, c6, c7⟩ := nxt (Int32.ofNat (pp_sl (I (C + 1)) m0 k) + Int32.ofInt 0) (by
            rw [es, if_neg w2]
            apply wi_eq.mpr
            rw [wi_add, wi_on (by omega), wi_of, wi_on (by omega), wr_id (x := 0) (by omega) (by omega), wr_id (by omega) (by omega)]
            omega)
          exact ⟨m1, c1, k1, c2, c3, c4, rfl, rfl, rfl, rfl, rfl, rfl, rfl, c5, c6, c7⟩
        · refine ⟨⟨d0, k0⟩, ?_⟩
          obtain ⟨m1, c1, k1, c2, c3, c4, c5, c6, c7⟩ := nxt (Int32.ofNat (pp_sl (I (C + 1)) m0 k) + (Int8.ofInt 24).toInt32) (by
            rw [es, if_pos (Decidable.not_not.mp w2)]
            apply wi_eq.mpr
            have e24 : ((Int8.ofInt 24).toInt32).toInt = 24 := rfl
            rw [wi_add, wi_on (by omega), e24, wi_on (by omega), wr_id (by omega) (by omega)]
            omega)
          exact ⟨m1, c1, k1, c2, c3, c4, rfl, rfl, rfl, rfl, rfl, rfl, rfl, c5, c6, c7⟩
    · cases hP
