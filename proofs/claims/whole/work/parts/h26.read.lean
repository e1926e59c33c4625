/-! ===== the class: a property read into its parts ===== -/
/-- what the class holds of a property that has been read -/
def rp_D (ts : List wt_t) (n C : Nat) (T : wv_T) (I : Nat → Nat → Int32) (L : Nat → Nat → Int64) (R : Nat → Nat → Option Nat) (S : rn_N) (x : Nat) (sq : List Nat) : Prop := ∃ P : pd_P, cR P [] S [] (some x) ∧ pq_M I L C P (pd_m P) ∧ pq_S T I L R C S sq P ∧ sq.length ≤ 67 ∧ (∀ i, i < pd_m P → I (C + 6) i = Int32.ofNat (pp_sl (I (C + 1)) (pd_m P) i)) ∧ I C 10 = Int32.ofNat (pp_sl (I (C + 1)) (pd_m P) (pd_m P))
def pj_h111 (ts : List wt_t) (n C : Nat) (T : wv_T) (N : Nat) (I : Nat → Nat → Int32) (L : Nat → Nat → Int64) (R : Nat → Nat → Option Nat) : Nat → Option (Nat → wv_P) := fun pc =>
  if pc = 26 then some (fun mm lv st T1 N1 I1 L1 R1 nc ns => ∃ k : Nat, k ≤ 402 ∧ mm = 2000 - k ∧ lv = [some (.ref 9), some (.ref C), some (.int (Int32.ofNat k)), none, none] ∧ st = [] ∧ CR ts n C (ap_fin ts n) T N I L R k T1 N1 I1 L1 R1 nc ns)
  else if pc = 108 then some (fun mm lv st T1 N1 I1 L1 R1 nc ns => ∃ k : Nat, mm = 0 ∧ lv = [some (.ref 9), some (.ref C), some (.int (Int32.ofNat k)), none, none] ∧ st = [] ∧ cg_T C T N R T1 N1 R1 nc ns ∧ cg_I C T I L R T1 I1 L1 ∧ (cr_F ts n C (ap_fin ts n) I1 L1 k nc ∨ cr_D ts n C (ap_fin ts n) T1 I1 L1 R1 k nc))
  else none
theorem CR_k {ts : List wt_t} {n C : Nat} {fin : ap_S} {T0 : wv_T} {N0 : Nat} {I0 : Nat → Nat → Int32} {L0 : Nat → Nat → Int64} {R0 : Nat → Nat → Option Nat} {k : Nat} {T : wv_T} {N : Nat} {I : Nat → Nat → Int32} {L : Nat → Nat → Int64} {R : Nat → Nat → Option Nat} {nc ns : Nat} (hl : ts.length ≤ 401) (h : CR ts n C fin T0 N0 I0 L0 R0 k T N I L R nc ns) : k ≤ 402 := by
  obtain ⟨_, _, h | h | h | h⟩ := h
  · obtain ⟨S, fr, p, o, s, sq, P, ps, f, A1, A2, A3, A4, A5, A6, A7, A8, A9, A10, A11, A12, A13, A14, A15, A16⟩ := h
    have := A4.2.2.2.2.2.2.2.1
    omega
  · obtain ⟨s, m, _, _, _, _, _, hk, _⟩ := h
    exact hk
  · obtain ⟨S, x, o, s, sq, P, _, _, _, _, _, _, _, _, hk, _⟩ := h
    exact hk
  · obtain ⟨S0, fr, o0, s00, s0, sq, P, ps, f, k0, S, js, xs, o, s, it, f2, g, fl, _, _, ⟨_, _, _, P4, _⟩, _, ⟨_, _, _, _, B5, _⟩, _⟩ := h
    have := B5.2.2.2.2.2.2.2.2.2
    omega
theorem CR_nc {ts : List wt_t} {n C : Nat} {fin : ap_S} {T0 : wv_T} {N0 : Nat} {I0 : Nat → Nat → Int32} {L0 : Nat → Nat → Int64} {R0 : Nat → Nat → Option Nat} {k : Nat} {T : wv_T} {N : Nat} {I : Nat → Nat → Int32} {L : Nat → Nat → Int64} {R : Nat → Nat → Option Nat} {nc ns : Nat} (hn4 : n ≤ 400) (hw : ∀ i, i ≤ ts.length → wl ts i ≤ n + 1) (h : CR ts n C fin T0 N0 I0 L0 R0 k T N I L R nc ns) : nc ≤ 200 ∧ N = N0 + nc := by
  obtain ⟨hG, _, h⟩ := h
  refine ⟨?_, hG.2.2.2.2.1⟩
  rcases h with h | h | h | h
  · obtain ⟨S, fr, p, o, s, sq, P, ps, f, A1, A2, A3, A4, A5, A6, A7, A8, A9, A10, A11, A12, A13, A14, A15, A16⟩ := h
    have e1 := hw s.1 A4.2.2.2.2.2.2.2.1
    have e2 : 6 * sq.length ≤ wl ts s.1 + 3 := by
      refine Nat.le_trans A14 ?_
      split <;> omega
    omega
  · obtain ⟨s, m, _, _, _, _, _, _, hk⟩ := h
    omega
  · obtain ⟨S, x, o, s, sq, P, _, _, _, _, _, _, _, _, _, hk, _⟩ := h
    omega
  · obtain ⟨S0, fr, o0, s00, s0, sq, P, ps, f, k0, S, js, xs, o, s, it, f2, g, fl, ⟨_, _, _, A4, _⟩, _, ⟨_, P2, P3, _, _⟩, _⟩ := h
    have e1 := hw s00.1 A4.2.2.2.2.2.2.2.1
    omega
theorem pj_c114_m {as : List Value} {T : wv_T} {N : Nat} {I : Nat → Nat → Int32} {L : Nat → Nat → Int64} {R : Nat → Nat → Option Nat} {q q2 : wv_Q} (h : pj_c114 as T N I L R q) (hq : ∀ T1 N1 I1 L1 R1 nc ns, q (.inl none) T1 N1 I1 L1 R1 nc ns → q2 (.inl none) T1 N1 I1 L1 R1 nc ns) : pj_c114 as T N I L R q2 := by
  obtain ⟨ts, n, C, m, s, h1, h2, h3, h4, h5, h6, h7, h8, x1, x2, x3, x4, x5, x6⟩ := h
  exact ⟨ts, n, C, m, s, h1, h2, h3, h4, h5, h6, h7, h8, fun a0 a1 a2 a3 => hq _ _ _ _ _ _ _ (x1 a0 a1 a2 a3), fun a0 a1 a2 => pj_c116_m (x2 a0 a1 a2) hq, fun a0 => pj_c120_m (x3 a0) hq, fun a0 => pj_c122_m (x4 a0) hq, fun a0 => pj_c116_m (x5 a0) hq, fun a0 => pj_c123_m (x6 a0) hq⟩
theorem pj_c127_m {as : List Value} {T : wv_T} {N : Nat} {I : Nat → Nat → Int32} {L : Nat → Nat → Int64} {R : Nat → Nat → Option Nat} {q q2 : wv_Q} (h : pj_c127 as T N I L R q) (hq : ∀ T1 N1 I1 L1 R1 nc ns, q (.inl none) T1 N1 I1 L1 R1 nc ns → q2 (.inl none) T1 N1 I1 L1 R1 nc ns) : pj_c127 as T N I L R q2 := by
  obtain ⟨C, z, h1, h2, h3, h4, x1, x2, x3⟩ := h
  exact ⟨C, z, h1, h2, h3, h4, fun a0 => (by obtain ⟨ts, n, s, k1, k2⟩ := x1 a0; exact ⟨ts, n, s, k1, fun b0 b1 b2 b3 => hq _ _ _ _ _ _ _ (k2 b0 b1 b2 b3)⟩), fun a0 a1 a2 => pj_c128_m (x2 a0 a1 a2) hq, fun a0 a1 a2 => pj_c131_m (x3 a0 a1 a2) hq⟩
theorem pj_c134_m {as : List Value} {T : wv_T} {N : Nat} {I : Nat → Nat → Int32} {L : Nat → Nat → Int64} {R : Nat → Nat → Option Nat} {q q2 : wv_Q} (h : pj_c134 as T N I L R q) (hq : ∀ T1 N1 I1 L1 R1 nc ns, q (.inl none) T1 N1 I1 L1 R1 nc ns → q2 (.inl none) T1 N1 I1 L1 R1 nc ns) : pj_c134 as T N I L R q2 := by
  obtain ⟨ts, n, o, g, s, js, fl, ps, h1, h2, h3, h4, h5, h6, h7, h8, h9, k1, k2, k3, k4, k5, x1, x2, x3⟩ := h
  exact ⟨ts, n, o, g, s, js, fl, ps, h1, h2, h3, h4, h5, h6, h7, h8, h9, k1, k2, k3, k4, k5, fun a0 a1 a2 a3 => hq _ _ _ _ _ _ _ (x1 a0 a1 a2 a3), fun a0 a1 a2 a3 a4 a5 a6 => hq _ _ _ _ _ _ _ (x2 a0 a1 a2 a3 a4 a5 a6), fun a0 a1 a2 a3 a4 a5 a6 a7 a8 a9 a10 a11 a12 a13 a14 a15 => hq _ _ _ _ _ _ _ (x3 a0 a1 a2 a3 a4 a5 a6 a7 a8 a9 a10 a11 a12 a13 a14 a15)⟩
theorem pj_c146_m {as : List Value} {T : wv_T} {N : Nat} {I : Nat → Nat → Int32} {L : Nat → Nat → Int64} {R : Nat → Nat → Option Nat} {q q2 : wv_Q} (h : pj_c146 as T N I L R q) (hq : ∀ T1 N1 I1 L1 R1 nc ns, q (.inl none) T1 N1 I1 L1 R1 nc ns → q2 (.inl none) T1 N1 I1 L1 R1 nc ns) : pj_c146 as T N I L R q2 := by
  obtain ⟨ts, n, C, s, js, ps, fl, h1, h2, h3, h4, h5, h6, h7, x1, x2, x3⟩ := h
  exact ⟨ts, n, C, s, js, ps, fl, h1, h2, h3, h4, h5, h6, h7, fun a0 => ⟨(x1 a0).1, fun b0 b1 b2 b3 b4 b5 b6 b7 b8 => hq _ _ _ _ _ _ _ ((x1 a0).2 b0 b1 b2 b3 b4 b5 b6 b7 b8)⟩, fun a0 a1 => pp_c159_m (x2 a0 a1) hq, fun a0 a1 a2 a3 => hq _ _ _ _ _ _ _ (x3 a0 a1 a2 a3)⟩
def pj_c111 : wv_c1 := fun as T N I L R q => ∃ (ts : List wt_t) (n C : Nat), as = [.ref 9, .ref C] ∧ (C = 28 ∨ C = 124 ∨ C = 220 ∨ C = 346) ∧ wm_T T ∧ wm_A T ∧ pp_D T R C ∧ pq_O T N R ∧ wt_LW T L ∧ wt_K I L ts n 0 none ∧ (∀ y, y ∈ ts → pr_vt y) ∧ ts.length ≤ 401 ∧ (∀ i, i ≤ ts.length → wl ts i ≤ n + 1) ∧ n ≤ 400 ∧ 536 ≤ N ∧ N < 900000000 ∧ (∃ g, I 9 11 = Int32.ofNat g ∧ g < 64) ∧ ∀ T1 N1 I1 L1 R1 nc ns, cg_T C T N R T1 N1 R1 nc ns → cg_I C T I L R T1 I1 L1 → 3 * nc ≤ n + 1 → (∃ (s : wt_q), (ap_t (ap_fin ts n)).2 = s.2 ∧ wt_K I1 L1 ts n s.1 s.2) → ((ap_t (ap_fin ts n)).2 = none → ∃ (S : rn_N) (x o : Nat) (s : wt_q) (sq : List Nat), ap_fin ts n = (S, [], some x, o, s, sq, true) ∧ ap_I ts S [] (some x) o s sq ∧ rp_D ts n C T1 I1 L1 R1 S x sq) → q (.inl (some (.int (wt_f (ap_t (ap_fin ts n)).2)))) T1 N1 I1 L1 R1 nc ns
set_option maxRecDepth 100000 in
theorem wM_111 : ∃ cb ci np, pt_mt 111 = some (4, cb, 3, false, some .int, ci, np) := ⟨_, _, _, rfl⟩
set_option maxRecDepth 100000 in
set_option maxHeartbeats 8000000 in
theorem pj_readInto {sc : pt_Sc} {d : Nat} : wv_C wm_fx sc (d + 1 + 1 + 1 + 1 + 1 + 1 + 1) 111 pj_c111 := by
  rintro as T N I L R q ⟨ts, n, C, rfl, hC, hT, hAl, hD, hO, hLW, hK, hv, hl, hw, hn4, hN1, hN2, ⟨g, hg, hg6⟩, h⟩ w0 HR
  obtain ⟨cb, ci, np, hm⟩ := wM_111
  have hc112 : wv_C wm_fx sc (d + 1 + 1 + 1 + 1 + 1 + 1) 112 pp_c112 := wv_C_deep (by omega) (pp_reset (d := d))
  have hc61 : wv_C wm_fx sc (d + 1 + 1 + 1 + 1 + 1 + 1) 61 wt_c61 := wv_C_deep (by omega) (wt_faulty (d := d))
  have hc114 : wv_C wm_fx sc (d + 1 + 1 + 1 + 1 + 1 + 1) 114 pj_c114 := wv_C_deep (by omega) (pj_want (d := d))
  have hc127 : wv_C wm_fx sc (d + 1 + 1 + 1 + 1 + 1 + 1) 127 pj_c127 := wv_C_deep (by omega) (pj_ended (d := d))
  have hc134 : wv_C wm_fx sc (d + 1 + 1 + 1 + 1 + 1 + 1) 134 pj_c134 := wv_C_deep (by omega) (pj_wantItem (d := d))
  have hc146 : wv_C wm_fx sc (d + 1 + 1 + 1 + 1 + 1 + 1) 146 pj_c146 := wv_C_deep (by omega) (pj_itemEnded (d := d))
  have hc171 : wv_C wm_fx sc (d + 1 + 1 + 1 + 1 + 1 + 1) 171 pp_c171 := wv_C_deep (by omega) (pp_layOut (d := d))
  have hc77 : wv_C wm_fx sc (d + 1 + 1 + 1 + 1 + 1 + 1) 77 wt_c77 := wv_C_deep (by omega) (wt_fault (d := d))
  refine wv_meth (hh := none) rfl (sp := wv_sp [(112, pp_c112), (61, wt_c61), (114, pj_c114), (127, pj_c127), (134, pj_c134), (146, pj_c146), (171, pp_c171), (77, wt_c77)]) (hd := pj_h111 ts n C T N I L R) (n := 300) (n1 := 300) hm zc_111 rfl (wv_sp_ok (fun q hq => by
    rcases List.mem_cons.mp hq with h | h
    · rw [h]; exact hc112
    rcases List.mem_cons.mp h with h | h
    · rw [h]; exact hc61
    rcases List.mem_cons.mp h with h | h
    · rw [h]; exact hc114
    rcases List.mem_cons.mp h with h | h
    · rw [h]; exact hc127
    rcases List.mem_cons.mp h with h | h
    · rw [h]; exact hc134
    rcases List.mem_cons.mp h with h | h
    · rw [h]; exact hc146
    rcases List.mem_cons.mp h with h | h
    · rw [h]; exact hc171
    rw [List.mem_singleton.mp h]; exact hc77)) ?_ ?_ HR
  · refine ⟨hD.1, C, rfl, hD, by omega, fun J h8 h9 hc hF => ?_⟩
    have jF : ∀ c j, ¬ (C ≤ c ∧ c < C + 96) → J c j = I c j := fun c j a => hF c j (by omega) (fun w => by obtain ⟨_, i, hi, e⟩ := w; omega)
    obtain ⟨K, hKK⟩ : ∃ K, wv_u (wv_u (wv_u (wv_u J 9 5 (Int32.ofInt 0)) 9 6 (Int32.ofInt 0)) 9 7 (Int32.ofInt 0)) 9 8 (Int32.ofInt 0) = K := ⟨_, rfl⟩
    have kF : ∀ c j, ¬ (c = 9 ∧ 5 ≤ j ∧ j ≤ 8) → K c j = J c j := fun c j a => by rw [← hKK, wv_u_no _ _ (by omega), wv_u_no _ _ (by omega), wv_u_no _ _ (by omega), wv_u_no _ _ (by omega)]
    have k5 : K 9 5 = Int32.ofNat 0 := by rw [← hKK, wv_u_no _ _ (by omega), wv_u_no _ _ (by omega), wv_u_no _ _ (by omega), wv_u_at]; rfl
    have k6 : K 9 6 = Int32.ofNat 0 := by rw [← hKK, wv_u_no _ _ (by omega), wv_u_no _ _ (by omega), wv_u_at]; rfl
    have k7 : K 9 7 = Int32.ofNat 0 := by rw [← hKK, wv_u_no _ _ (by omega), wv_u_at]; rfl
    have k8 : K 9 8 = Int32.ofInt 0 := by rw [← hKK, wv_u_at]
    have kI : ∀ c j, ¬ (c = 9 ∧ 5 ≤ j ∧ j ≤ 8) → ¬ (C ≤ c ∧ c < C + 96) → K c j = I c j := fun c j a b => by rw [kF _ _ a]; exact jF _ _ b
    have kK : wt_K K L ts n 0 none := wt_K_8 hK (fun c j hc => kI _ _ (by omega) (by omega)) (fun j => rfl)
    have c8 : K C 8 = Int32.ofNat 0 := by rw [kF _ _ (by omega)]; exact h8
    have c9 : K C 9 = Int32.ofNat 0 := by rw [kF _ _ (by omega)]; exact h9
    subst hKK
    refine ⟨2000, 0, by omega, rfl, rfl, rfl, ⟨hT, hAl, hD, hO, rfl, by omega, fun c hc => rfl, fun c j hc hj => rfl, fun k hk B hB => Or.inl hB⟩, ⟨fun c j a1 a2 a3 a4 => kI _ _ (by omega) a4, fun c j a1 a2 a3 a4 => rfl, hLW, ⟨g, by rw [kI _ _ (by omega) (by omega)]; exact hg, hg6⟩, fun i hi => by rw [kF _ _ (by omega)]; exact hc i hi⟩, Or.inl ⟨rn_0, [], none, 0, (0, none), [], (0, fun _ => 0, fun _ _ => false, fun _ _ => false, fun _ => 0, fun _ => 0, fun _ => nt_cond (fun _ => false)), [], 3000, rfl, rfl, by decide, ap_I_0, cR_0 rfl, ⟨c8, show (0 : Nat) ≤ 155 by decide, Nat.le_refl _, fun i hi => absurd hi (Nat.not_lt_zero _)⟩, ⟨k5, trivial⟩, ⟨c9, fun k y hy => (by cases hy), fun i hi => absurd hi (Nat.not_lt_zero _)⟩, kK, ⟨k6, by decide, trivial⟩, k7, k8, Nat.zero_le _, Nat.zero_le _, Nat.le_refl _, Nat.le_refl _⟩⟩
  · intro pc P hP m lv st T1 N1 I1 L1 R1 nc ns hh
    unfold pj_h111 at hP
    split at hP
    · cases hP
      rename_i hpc
      subst hpc
      obtain ⟨k, hk, rfl, rfl, rfl, hCR⟩ := hh
      have ek := wi_on (n := k) (by omega)
      have e16 : ((Int16.ofInt 1600).toInt32).toInt = 1600 := rfl
      have hCR0 := hCR
      have hnc := CR_nc hn4 hw hCR
      obtain ⟨hG, hI, hCR⟩ := hCR
      have nxt : ∀ T2 N2 I2 L2 R2 nc2 ns2, CR ts n C (ap_fin ts n) T N I L R (k + 1) T2 N2 I2 L2 R2 nc2 ns2 → ∃ mm, mm < 2000 - k ∧ ∃ k1 : Nat, k1 ≤ 402 ∧ mm = 2000 - k1 ∧ [some (Value.ref 9), some (Value.ref C), some (Value.int (Int32.ofNat k + Int32.ofInt 1)), none, none] = [some (Value.ref 9), some (Value.ref C), some (Value.int (Int32.ofNat k1)), none, none] ∧ CR ts n C (ap_fin ts n) T N I L R k1 T2 N2 I2 L2 R2 nc2 ns2 := fun T2 N2 I2 L2 R2 nc2 ns2 hc2 => ⟨2000 - (k + 1), by omega, k + 1, CR_k hl hc2, rfl, by rw [wq_4s], hc2⟩
      refine ⟨fun w => ?_, fun _ => ?_⟩
      · rw [wi_le, ek, e16] at w
        omega
      rcases hCR with hA | hF | hDn | hIt
      · obtain ⟨S, fr, p, o, s, sq, P, ps, f, hA⟩ := hA
        have A1 := hA.1
        have A9 := hA.2.2.2.2.2.2.2.2.1
        have A12 := hA.2.2.2.2.2.2.2.2.2.2.2.1
        cases p with
        | none =>
          have A12 : I1 9 8 = Int32.ofInt 0 := A12
          refine ⟨fun w => absurd (A12.symm.trans w) (by decide), fun _ => ?_⟩
          refine ⟨ts, n, s, rfl, hG.1, A9, ?_⟩
          refine ⟨fun w => absurd (by rw [A1]; rfl) w, fun _ => ?_⟩
          refine ⟨fun w => absurd A12 w, fun _ => ?_⟩
          refine pj_c114_m (turn_want (q := fun r T2 N2 I2 L2 R2 nc2 ns2 => nc2 = 0 ∧ ns2 = 0 ∧ CR ts n C (ap_fin ts n) T N I L R (k + 1) T2 N2 I2 L2 R2 nc ns) hv hl hw hn4 hC hG hI hA (fun I2 L2 hc2 => ⟨rfl, rfl, hc2⟩)) (fun T2 N2 I2 L2 R2 nc2 ns2 hc2 => ?_)
          obtain ⟨rfl, rfl, hc2⟩ := hc2
          obtain ⟨mm, c1, k1, c2, c3, c4, c5⟩ := nxt _ _ _ _ _ _ _ hc2
          exact ⟨mm, c1, k1, c2, c3, c4, rfl, c5⟩
        | some x =>
          have A12 : I1 9 8 = Int32.ofInt 1 := A12
          refine ⟨fun w => absurd (A12.symm.trans w) (by decide), fun _ => ?_⟩
          refine ⟨ts, n, s, rfl, hG.1, A9, ?_⟩
          refine ⟨fun w => absurd (by rw [A1]; rfl) w, fun _ => ?_⟩
          refine ⟨fun _ => ?_, fun w => absurd (by rw [A12]; decide) w⟩
          refine ⟨fun w => absurd A12 w, fun _ => ?_⟩
          refine pj_c127_m (turn_ended (q := fun r T2 N2 I2 L2 R2 nc2 ns2 => nc2 = 0 ∧ ns2 = 0 ∧ CR ts n C (ap_fin ts n) T N I L R (k + 1) T2 N2 I2 L2 R2 nc ns) hv hl hw hn4 hC hG hI hA (fun I2 L2 hc2 => ⟨rfl, rfl, hc2⟩)) (fun T2 N2 I2 L2 R2 nc2 ns2 hc2 => ?_)
          obtain ⟨rfl, rfl, hc2⟩ := hc2
          obtain ⟨mm, c1, k1, c2, c3, c4, c5⟩ := nxt _ _ _ _ _ _ _ hc2
          exact ⟨mm, c1, k1, c2, c3, c4, rfl, c5⟩
      · have hF0 := hF
        obtain ⟨s, m2, f1, f2, f3, f4, f5, f6, f7⟩ := hF
        refine ⟨fun w => ⟨0, by omega, k, rfl, rfl, rfl, hG, hI, Or.inl hF0⟩, fun _ => ?_⟩
        refine ⟨ts, n, s, rfl, hG.1, f2, ?_⟩
        refine ⟨fun w => ⟨0, by omega, k, rfl, rfl, rfl, hG, hI, Or.inl hF0⟩, fun w => absurd (Decidable.not_not.mp w) ?_⟩
        intro z
        cases e : s.2 with
        | none => exact f1 e
        | some v =>
          rw [e] at z
          exact absurd (show (1 : Int32) = 0 from z) (by decide)
      · have hD0 := hDn
        obtain ⟨S, x, o, s, sq, P, d1, d2, d3, d4, d5⟩ := hDn
        refine ⟨fun w => ⟨0, by omega, k, rfl, rfl, rfl, hG, hI, Or.inr hD0⟩, fun w => absurd d4 w⟩
      · obtain ⟨S0, fr, o0, s00, s0, sq, P, ps, f, k0, S, js, xs, o, s, it, f2, g2, fl, hIt⟩ := hIt
        have B1 := hIt.2.2.2.2.1.1
        have E1 := hIt.2.2.2.2.2.1
        have E6 := hIt.2.2.2.2.2.2.2.2.2.2.1
        cases it with
        | true =>
          have E6 : I1 9 8 = Int32.ofInt 2 := E6
          refine ⟨fun w => absurd (E6.symm.trans w) (by decide), fun _ => ?_⟩
          refine ⟨ts, n, s, rfl, hG.1, E1, ?_⟩
          refine ⟨fun w => absurd (by rw [B1]; rfl) w, fun _ => ?_⟩
          refine ⟨fun _ => ?_, fun w => absurd (by rw [E6]; decide) w⟩
          refine ⟨fun _ => ?_, fun w => absurd (by rw [E6]; decide) w⟩
          refine ⟨fun w => absurd E6 w, fun _ => ?_⟩
          refine pj_c134_m (turn_item (q := fun r T2 N2 I2 L2 R2 nc2 ns2 => nc2 = 0 ∧ ns2 = 0 ∧ CR ts n C (ap_fin ts n) T N I L R (k + 1) T2 N2 I2 L2 R2 nc ns) hv hl hw hn4 hC hG hI hIt (fun I2 L2 hc2 => ⟨rfl, rfl, hc2⟩)) (fun T2 N2 I2 L2 R2 nc2 ns2 hc2 => ?_)
          obtain ⟨rfl, rfl, hc2⟩ := hc2
          obtain ⟨mm, c1, k1, c2, c3, c4, c5⟩ := nxt _ _ _ _ _ _ _ hc2
          exact ⟨mm, c1, k1, c2, c3, c4, rfl, c5⟩
        | false =>
          have E6 : I1 9 8 = Int32.ofInt 3 := E6
          refine ⟨fun w => absurd (E6.symm.trans w) (by decide), fun _ => ?_⟩
          refine ⟨ts, n, s, rfl, hG.1, E1, ?_⟩
          refine ⟨fun w => absurd (by rw [B1]; rfl) w, fun _ => ?_⟩
          refine ⟨fun _ => ?_, fun w => absurd (by rw [E6]; decide) w⟩
          refine ⟨fun _ => ?_, fun w => absurd (by rw [E6]; decide) w⟩
          refine ⟨fun _ => ?_, fun w => absurd (by rw [E6]; decide) w⟩
          refine pj_c146_m (turn_iend (q := fun r T2 N2 I2 L2 R2 nc2 ns2 => CR ts n C (ap_fin ts n) T N I L R (k + 1) T2 N2 I2 L2 R2 (nc + nc2) (ns + ns2)) hv hl hw hn4 hC (by omega) hG hI hIt (fun T2 N2 I2 L2 R2 nc2 ns2 hc2 => hc2)) (fun T2 N2 I2 L2 R2 nc2 ns2 hc2 => ?_)
          obtain ⟨mm, c1, k1, c2, c3, c4, c5⟩ := nxt _ _ _ _ _ _ _ hc2
          exact ⟨mm, c1, k1, c2, c3, c4, rfl, c5⟩
    · split at hP
      · cases hP
        rename_i hpc
        subst hpc
        obtain ⟨k, rfl, rfl, rfl, hG, hI, hFD⟩ := hh
        have hD1 := hG.2.2.1
        rcases hFD with ⟨s, m2, f1, f2, f3, f4, f5, f6, f7⟩ | ⟨S, x, o, s, sq, P, d1, d2, d3, d4, d5, d6, d7, d8, d9, d10, hsq⟩
        · refine ⟨hD1.1, C, m2, rfl, hD1, by omega, f4, f5, fun J j1 j2 jF => ?_⟩
          have jK : wt_K J L1 ts n s.1 s.2 := wt_K_8 f2 (fun c j hc => jF _ _ (by omega) (by omega)) (fun j => rfl)
          refine ⟨ts, n, s, rfl, hG.1, jK, ?_⟩
          have h3 := h T1 N1 J L1 R1 nc ns hG (cg_I_c hC hG hI (fun c j a1 a2 a3 => jF _ _ (by omega) (by omega)) (fun _ _ _ _ => rfl) (by obtain ⟨g2, e1, e2⟩ := hI.2.2.2.1; exact ⟨g2, by rw [jF _ _ (by omega) (by omega)]; exact e1, e2⟩)) f7 ⟨s, f3, jK⟩ (fun z => absurd (f3.symm.trans z) f1)
          rw [f3] at h3
          exact h3
        · refine ⟨hD1.1, C, pd_m P, rfl, hD1, by omega, d7.1, d7.2.1, fun J j1 j2 jF => ?_⟩
          have jK : wt_K J L1 ts n s.1 s.2 := wt_K_8 d3 (fun c j hc => jF _ _ (by omega) (by omega)) (fun j => rfl)
          refine ⟨ts, n, s, rfl, hG.1, jK, ?_⟩
          have ef : (ap_t (ap_fin ts n)).2 = s.2 := by rw [d1]; rfl
          have hO1 := hG.2.2.2.1
          have j1e : J (C + 1) = I1 (C + 1) := funext (fun j => jF _ _ (by omega) (by omega))
          have h3 := h T1 N1 J L1 R1 nc ns hG (cg_I_c hC hG hI (fun c j a1 a2 a3 => jF _ _ (by omega) (by omega)) (fun _ _ _ _ => rfl) (by obtain ⟨g2, e1, e2⟩ := hI.2.2.2.1; exact ⟨g2, by rw [jF _ _ (by omega) (by omega)]; exact e1, e2⟩)) d10 ⟨s, ef, jK⟩ (fun _ => ⟨S, x, o, s, sq, d1, d6, P, d5, ⟨by rw [jF _ _ (by omega) (by omega)]; exact d7.1, d7.2.1, d7.2.2.1, fun i hi => pq_1_c (d7.2.2.2 i hi) (fun c hc => jF _ _ (by omega) (by omega)) (fun _ _ => rfl) pd_E_id⟩, pq_S_c hC hO1 d8 (rn_E_id _) hsq (jF _ _ (by omega) (by omega)) (fun e j a1 a2 => jF _ _ (by omega) (by omega)) (fun _ _ _ => rfl), hsq, by rw [j1e]; exact j1, by rw [j1e]; exact j2⟩)
          rw [ef] at h3
          exact h3
      · cases hP
