/-! ===== a turn of propertyEnded ===== -/
theorem pq_upd {I I1 : Nat → Nat → Int32} {L L1 : Nat → Nat → Int64} {C a m2 kk t l : Nat} {c d : Nat → Bool} {aa : nt_A} {P : pd_P} (h : pq_M I L C P (pd_m P)) (hm : m2 ≤ pd_m P) (hI : ∀ e j, e = C + 1 ∨ e = C + 4 ∨ e = C + 5 → ¬ j = a → I1 e j = I e j) (hL : ∀ e j, e = C + 2 ∨ e = C + 3 → ¬ j = a → L1 e j = L e j) (h8 : I1 C 8 = Int32.ofNat m2) (hn : I1 (C + 1) a = Int32.ofNat kk ∧ kk ≤ 10 ∧ I1 (C + 4) a = Int32.ofNat t ∧ t ≤ 9 ∧ I1 (C + 5) a = Int32.ofNat l ∧ l ≤ 155 ∧ (∀ u, u < 64 → nb (L1 (C + 2) a) u = c u) ∧ ∀ u, u < 64 → nb (L1 (C + 3) a) u = d u) : pq_M I1 L1 C (pd_up P m2 a kk c d t l aa) m2 := by
  have := h.2.1
  refine ⟨h8, by omega, Nat.le_refl _, fun i hi => ?_⟩
  have hi : i < m2 := hi
  by_cases e : i = a
  · subst e
    obtain ⟨e1, e2, e3, e4, e5, e6, _⟩ := pd_up_at (P := P) (m := m2) (i := i) (k := kk) (c := c) (d := d) (t := t) (l := l) (a := aa)
    unfold pq_1
    rw [e1, e2, e3, e4, e5]
    exact hn
  · exact pq_1_c (h.2.2.2 i (by omega)) (fun c hc => hI c i hc e) (fun c hc => hL c i hc e) (pd_up_no e)
theorem pq_S_upd {T : wv_T} {I I1 : Nat → Nat → Int32} {L L1 : Nat → Nat → Int64} {R : Nat → Nat → Option Nat} {N C a m2 kk t l : Nat} {c d : Nat → Bool} {aa : nt_A} {P : pd_P} {S S2 : rn_N} {sq : List Nat} (hC : C = 28 ∨ C = 124 ∨ C = 220 ∨ C = 346) (hO : pq_O T N R) (h : pq_S T I L R C S sq P) (hS : rn_E S S2) (hm : m2 ≤ pd_m P) (hk : ¬ ((1 ≤ kk ∧ kk ≤ 3) ∨ kk = 6)) (hsq : sq.length ≤ 67) (h9 : I1 C 9 = I C 9) (hI : ∀ e j, C + 9 ≤ e → e < C + 76 → I1 e j = I e j) (hL : ∀ e j, (C + 9 ≤ e ∧ e < C + 76) ∨ (536 ≤ e ∧ e < 1099511627776) → L1 e j = L e j) : pq_S T I1 L1 R C S2 sq (pd_up P m2 a kk c d t l aa) := by
  obtain ⟨h1, h2, h3⟩ := pq_S_c hC hO h hS hsq h9 hI hL
  refine ⟨h1, h2, fun i hi hki => ?_⟩
  have hi : i < m2 := hi
  by_cases e : i = a
  · subst e
    rw [pd_up_at.1] at hki
    exact absurd hki hk
  · obtain ⟨e1, _, _, _, e5, e6⟩ := pd_up_no (P := P) (m := m2) (i := a) (k := kk) (c := c) (d := d) (t := t) (l := l) (a := aa) e
    rw [e1] at hki
    obtain ⟨y, y1, y2⟩ := h3 i (by omega) hki
    exact ⟨y, by rw [e5]; exact y1, by rw [e6]; exact y2⟩
/-- frames that are no parens are taken off, and the class sees nothing of it -/
theorem ce_pop {ts : List wt_t} {n C : Nat} {fin : ap_S} {T : wv_T} {N nc k : Nat} {I : Nat → Nat → Int32} {L : Nat → Nat → Int64} {R : Nat → Nat → Option Nat} {o : Nat} {s : wt_q} {sq : List Nat} {P : pd_P} {ps : List (Nat × Bool)} (hv : ∀ y, y ∈ ts → pr_vt y) (hl : ts.length ≤ 401) (hC : C = 28 ∨ C = 124 ∨ C = 220 ∨ C = 346) (hO : pq_O T N R) (hsq : sq.length ≤ 67) : ∀ {fr : List ap_F} {S : rn_N} {x f : Nat}, cr_A ts n C fin T I L R k nc S fr (some x) o s sq P ps f → ∃ (S2 : rn_N) (fr2 : List ap_F) (x2 f2 : Nat), cr_A ts n C fin T I L R k nc S2 fr2 (some x2) o s sq P ps f2 ∧ ∀ g l, fr2 = g :: l → g.1 = 15 ∨ g.1 = 29
  | [], S, x, f, h => ⟨S, [], x, f, h, fun g l e => by cases e⟩
  | g :: fr, S, x, f, h => by
    by_cases c : g.1 = 15 ∨ g.1 = 29
    · exact ⟨S, g :: fr, x, f, h, fun g2 l e => by cases e; exact c⟩
    · have h15 : ¬ g.1 = 15 := fun z => c (Or.inl z)
      have h29 : ¬ g.1 = 29 := fun z => c (Or.inr z)
      obtain ⟨A1, A2, A3, A4, A5, A6, A7, A8, A9, A10, A11, A12, A13, A14, A15, A16⟩ := h
      have he : ap_1 ts n (S, g :: fr, some x, o, s, sq, false) = (rn_m S (g.1, (if g.1 = 10 ∨ g.1 = 12 then x else g.2.1), x, g.2.2, 0), fr, some (rn_n S), o, s, sq, false) := by
        show ap_e1 ts n S x o s sq g fr = _
        unfold ap_e1
        rw [if_neg h15, if_pos h29]
      obtain ⟨f2, g1, g2, g3, g4, g5, g6⟩ := (ap_step hv hl A4 A1 A2 A3 he).2 A1
      exact ce_pop hv hl hC hO hsq (fr := fr) ⟨A1, g1, g2 rfl, g3, cR_pop A5 h15 h29 rfl, A6, A7, pq_S_c hC hO A8 g4 hsq rfl (fun _ _ _ _ => rfl) (fun _ _ _ => rfl), A9, A10, A11, A12, A13, A14, A15, A16⟩
/-- a paren closed behind 'until' or 'before' -/
theorem cw_close {ts : List wt_t} {n C : Nat} {fin : ap_S} {T0 : wv_T} {N0 N nc ns k : Nat} {I0 I I1 : Nat → Nat → Int32} {L0 L L1 : Nat → Nat → Int64} {R0 R : Nat → Nat → Option Nat} {T : wv_T} {S S2 : rn_N} {g : ap_F} {fr : List ap_F} {x z o : Nat} {s s2 : wt_q} {sq : List Nat} {P : pd_P} {a m2 kk t l : Nat} {c d : Nat → Bool} {aa : nt_A} {ps2 : List (Nat × Bool)} {f : Nat} (hv : ∀ y, y ∈ ts → pr_vt y) (hl : ts.length ≤ 401) (hC : C = 28 ∨ C = 124 ∨ C = 220 ∨ C = 346) (hsq : sq.length ≤ 67) (hG : cg_T C T0 N0 R0 T N R nc ns) (h : cg_I C T0 I0 L0 R0 T I L) (hA : cr_A ts n C fin T I L R k nc S (g :: fr) (some x) o s sq P ((a, true) :: ps2) f) (he : ap_1 ts n (S, g :: fr, some x, o, s, sq, false) = (S2, fr, some z, o - 1, s2, sq, false)) (hs2 : s2.2 = none) (hcR : cR (pd_up P m2 a kk c d t l aa) ps2 S2 fr (some z)) (hkk : ¬ ((1 ≤ kk ∧ kk ≤ 3) ∨ kk = 6)) (hm2 : m2 ≤ pd_m P) (hI : ∀ e j, ¬ (e = 1 ∧ (j = 8 ∨ j = 9)) → ¬ (e = 9 ∧ (j = 5 ∨ j = 7 ∨ j = 8 ∨ j = 11)) → ¬ (e = C + 1 ∧ j = a) → ¬ (e = C ∧ j = 8) → I1 e j = I e j) (hL : ∀ e j, ¬ ((e = C + 2 ∨ e = C + 3) ∧ j = a) → L1 e j = L e j) (h8 : I1 C 8 = Int32.ofNat m2) (hn : I1 (C + 1) a = Int32.ofNat kk ∧ kk ≤ 10 ∧ I1 (C + 4) a = Int32.ofNat t ∧ t ≤ 9 ∧ I1 (C + 5) a = Int32.ofNat l ∧ l ≤ 155 ∧ (∀ u, u < 64 → nb (L1 (C + 2) a) u = c u) ∧ ∀ u, u < 64 → nb (L1 (C + 3) a) u = d u) (j5 : I1 9 5 = Int32.ofNat ps2.length) (j7 : I1 9 7 = Int32.ofNat (o - 1)) (j98 : I1 9 8 = Int32.ofInt 1) (j11 : ∃ g, I1 9 11 = Int32.ofNat g ∧ g < 64) (hK : wt_K I1 L1 ts n s2.1 s2.2) (num1 : wl ts s.1 + 2 ≤ wl ts s2.1) (num2 : s.1 + 1 ≤ s2.1) : CR ts n C fin T0 N0 I0 L0 R0 (k + 1) T N I1 L1 R nc ns := by
  obtain ⟨A1, A2, A3, A4, A5, A6, A7, A8, A9, A10, A11, A12, A13, A14, A15, A16⟩ := hA
  have A13 : 3 * pd_m P ≤ wl ts s.1 + (2 + pq_w ps2) + 2 := A13
  have A14 : 6 * sq.length ≤ wl ts s.1 + 3 := A14
  obtain ⟨f2, g1, g2, g3, g4, g5, g6⟩ := (ap_step hv hl A4 A1 A2 A3 he).2 hs2
  have hO := hG.2.2.2.1
  obtain ⟨a5, a19, a20, as⟩ := A7
  refine ⟨hG, cg_I_c hC hG h (fun c j a1 a2 a3 => hI _ _ a1 (by omega) (by omega) (by omega)) (fun c j a1 a2 => hL _ _ (by omega)) j11, Or.inl ⟨S2, fr, some z, o - 1, s2, sq, pd_up P m2 a kk c d t l aa, ps2, f2, hs2, g1, g2 rfl, g3, hcR, pq_upd A6 hm2 (fun e j he hj => hI _ _ (by omega) (by omega) (by omega) (by omega)) (fun e j he hj => hL _ _ (by omega)) h8 hn, ⟨j5, pq_s_c as (fun c k hc hk => hI _ _ (by omega) (by omega) (by omega) (by omega))⟩, pq_S_upd hC hO A8 g4 hm2 hkk hsq (hI _ _ (by omega) (by omega) (by omega) (by omega)) (fun e j a1 a2 => hI _ _ (by omega) (by omega) (by omega) (by omega)) (fun e j a => hL _ _ (by omega)), hK, ⟨by rw [hI _ _ (by omega) (by omega) (by omega) (by omega)]; exact A10.1, by decide, trivial⟩, j7, j98, ?_, ?_, by omega, A16⟩⟩
  · show 3 * m2 ≤ wl ts s2.1 + pq_w ps2 + 2
    omega
  · show 6 * sq.length ≤ wl ts s2.1 + 3
    omega
set_option maxHeartbeats 1000000 in
/-- a turn of propertyEnded -/
theorem turn_ended {ts : List wt_t} {n C : Nat} {fin : ap_S} {T0 : wv_T} {N0 N nc ns k : Nat} {I0 I : Nat → Nat → Int32} {L0 L : Nat → Nat → Int64} {R0 R : Nat → Nat → Option Nat} {T : wv_T} {S : rn_N} {fr : List ap_F} {x o : Nat} {s : wt_q} {sq : List Nat} {P : pd_P} {ps : List (Nat × Bool)} {f : Nat} {q : wv_Q} (hv : ∀ y, y ∈ ts → pr_vt y) (hl : ts.length ≤ 401) (hw : ∀ i, i ≤ ts.length → wl ts i ≤ n + 1) (hn4 : n ≤ 400) (hC : C = 28 ∨ C = 124 ∨ C = 220 ∨ C = 346) (hG : cg_T C T0 N0 R0 T N R nc ns) (h : cg_I C T0 I0 L0 R0 T I L) (hA : cr_A ts n C fin T I L R k nc S fr (some x) o s sq P ps f) (hq : ∀ I1 L1, CR ts n C fin T0 N0 I0 L0 R0 (k + 1) T N I1 L1 R nc ns → q (.inl none) T N I1 L1 R 0 0) : pj_c127 [.ref 9, .ref C] T N I L R q := by
  have hG0 := hG
  obtain ⟨G1, G2, G3, G4, G5, G6, G7, G8, G9⟩ := hG
  have hsq : sq.length ≤ 67 := by
    have e1 := hw s.1 hA.2.2.2.1.2.2.2.2.2.2.2.1
    have e2 : 6 * sq.length ≤ wl ts s.1 + 3 := hA.2.2.2.2.2.2.2.2.2.2.2.2.2.1
    omega
  obtain ⟨S, fr, x, f, hA, hfr⟩ := ce_pop hv hl hC G4 hsq hA
  obtain ⟨A1, A2, A3, A4, A5, A6, A7, A8, A9, A10, A11, A12, A13, A14, A15, A16⟩ := hA
  obtain ⟨gg, hgg, hgg6⟩ := h.2.2.2.1
  have hLW := h.2.2.1
  have hsl := A4.2.2.2.2.2.2.2.1
  have hws := hw s.1 hsl
  have A13 : 3 * pd_m P ≤ wl ts s.1 + pq_w ps + 2 := A13
  have A14 : 6 * sq.length ≤ wl ts s.1 + 3 := A14
  have hpl := cR_len A5
  have hoo := A4.2.2.2.2.1
  have ho20 := A4.2.2.2.2.2.1
  have h8 := A6.1
  have hm := A6.2.1
  have h3n : 3 * nc ≤ n + 1 := by omega
  have hk402 : k + 1 ≤ 402 := by omega
  have flt : ∀ {s2 : wt_q} {I1 : Nat → Nat → Int32} {L1 : Nat → Nat → Int64} {m2 : Nat}, (∀ c j, ¬ (c = 1 ∧ (j = 8 ∨ j = 9)) → ¬ (9 ≤ c ∧ c ≤ 21) → ¬ (C ≤ c ∧ c < C + 76) → I1 c j = I c j) → (∀ c j, ¬ (9 ≤ c ∧ c ≤ 21) → ¬ (C ≤ c ∧ c < C + 76) → L1 c j = L c j) → (∃ g, I1 9 11 = Int32.ofNat g ∧ g < 64) → ¬ s2.2 = none → wt_K I1 L1 ts n s2.1 s2.2 → (ap_t fin).2 = s2.2 → I1 C 8 = Int32.ofNat m2 → m2 ≤ 155 → q (.inl none) T N I1 L1 R 0 0 := fun a1 a2 a3 a4 a5 a6 a7 a8 => hq _ _ (cw_fault hC hG0 h a1 a2 a3 a4 a5 a6 a7 a8 hk402 h3n)
  cases fr with
  | nil =>
    have hp0 : ps = [] := List.length_eq_zero_iff.mp hpl
    subst hp0
    refine ⟨C, 0, rfl, G1, A7.1, by omega, fun _ => ⟨ts, n, s, A9, fun I1 hK1 h98 hF => ?_⟩, fun z2 e => absurd e (by omega), fun z2 e => absurd e (by omega)⟩
    have he : ap_1 ts n (S, [], some x, o, s, sq, false) = (S, [], some x, o, tk_take ts n (Int32.ofInt 0) s, sq, true) := rfl
    have hst := ap_step hv hl A4 A1 A2 A3 he
    by_cases ht : (tk_take ts n (Int32.ofInt 0) s).2 = none
    · obtain ⟨f2, g1, g2, g3, g4, g5, g6⟩ := hst.2 ht
      rw [ap_run_no (fun w => by cases (ap_go_iff.mp w).1)] at g1
      exact hq I1 L ⟨hG0, cg_I_c hC hG0 h (fun c j a1 a2 a3 => hF _ _ a1 (by omega)) (fun _ _ _ _ => rfl) ⟨gg, by rw [hF _ _ (by omega) (by omega)]; exact hgg, hgg6⟩, Or.inr (Or.inr (Or.inl ⟨S, x, o, tk_take ts n (Int32.ofInt 0) s, sq, P, g1.symm, ht, hK1, h98, A5, g3, pq_M_c A6 (fun c j hc => hF _ _ (by omega) (by omega)) (fun _ _ _ => rfl), pq_S_c hC G4 A8 (rn_E_id _) hsq (hF _ _ (by omega) (by omega)) (fun e j a1 a2 => hF _ _ (by omega) (by omega)) (fun _ _ _ => rfl), hk402, h3n, hsq⟩))⟩
    · exact flt (fun c j a1 a2 a3 => hF _ _ a1 (by omega)) (fun _ _ _ _ => rfl) ⟨gg, by rw [hF _ _ (by omega) (by omega)]; exact hgg, hgg6⟩ ht hK1 (hst.1 ht) (by rw [hF _ _ (by omega) (by omega)]; exact h8) hm
  | cons g fr =>
    have eo : ap_o (g :: fr) = (if g.1 = 29 ∨ g.1 = 15 then 1 else 0) + ap_o fr := rfl
    rcases hfr g fr rfl with g15 | g29
    · obtain ⟨a, ps2, rfl, hcR⟩ := cR_close A5 g15
      rw [if_pos (Or.inr g15)] at eo
      obtain ⟨a5, a19, a20, as⟩ := A7
      have hpw : pq_w ((a, false) :: ps2) = 1 + pq_w ps2 := rfl
      simp only [List.length_cons] at hpl
      refine ⟨C, ps2.length + 1, rfl, G1, a5, by omega, fun e => absurd e (by omega), fun z2 e ne => ?_, fun z2 e ze => ?_⟩
      · have : z2 = ps2.length := by omega
        subst this
        exact absurd a20 (by intro z; exact ne z)
      · have : z2 = ps2.length := by omega
        subst this
        refine ⟨ts, n, o - 1, ps2.length, s, rfl, G1, A9, by rw [show o - 1 + 1 = o by omega]; exact A11, by omega, a5, by omega, fun I1 hK1 h5 h7 h98 hF => ?_⟩
        have he : ap_1 ts n (S, g :: fr, some x, o, s, sq, false) = (rn_m S (15, g.2.1, x, 0, 0), fr, some (rn_n S), o - 1, tk_take ts n ((Int8.ofInt 16).toInt32) s, sq, false) := by
          show ap_e1 ts n S x o s sq g fr = _
          unfold ap_e1
          rw [if_pos g15]
        have hst := ap_step hv hl A4 A1 A2 A3 he
        by_cases ht : (tk_take ts n ((Int8.ofInt 16).toInt32) s).2 = none
        · obtain ⟨f2, g1, g2, g3, g4, g5, g6⟩ := hst.2 ht
          obtain ⟨_, t2, t3, t4⟩ := tk_take_ok ht (by decide)
          have hwl := wl_adv t2 (by decide)
          have e1 : tl ((Int8.ofInt 16).toInt32) = 1 := rfl
          have t31 : (tk_take ts n ((Int8.ofInt 16).toInt32) s).1 = s.1 + 1 := by rw [t3]
          have hwl2 : wl ts (tk_take ts n ((Int8.ofInt 16).toInt32) s).1 = wl ts s.1 + 1 := by rw [t31, hwl, e1]
          refine hq I1 L ⟨hG0, cg_I_c hC hG0 h (fun c j a1 a2 a3 => hF _ _ a1 (by omega)) (fun _ _ _ _ => rfl) ⟨gg, by rw [hF _ _ (by omega) (by omega)]; exact hgg, hgg6⟩, Or.inl ⟨_, fr, some (rn_n S), o - 1, _, sq, P, ps2, f2, ht, g1, g2 rfl, g3, hcR, pq_M_c A6 (fun c j hc => hF _ _ (by omega) (by omega)) (fun _ _ _ => rfl), ⟨h5, pq_s_c as (fun c k hc _ => hF _ _ (by omega) (by omega))⟩, pq_S_c hC G4 A8 g4 hsq (hF _ _ (by omega) (by omega)) (fun e j a1 a2 => hF _ _ (by omega) (by omega)) (fun _ _ _ => rfl), hK1, ⟨by rw [hF _ _ (by omega) (by omega)]; exact A10.1, by decide, trivial⟩, h7, h98, ?_, ?_, by omega, A16⟩⟩
          · show 3 * pd_m P ≤ wl ts (tk_take ts n ((Int8.ofInt 16).toInt32) s).1 + pq_w ps2 + 2
            omega
          · show 6 * sq.length ≤ wl ts (tk_take ts n ((Int8.ofInt 16).toInt32) s).1 + 3
            omega
        · exact flt (fun c j a1 a2 a3 => hF _ _ a1 (by omega)) (fun _ _ _ _ => rfl) ⟨gg, by rw [hF _ _ (by omega) (by omega)]; exact hgg, hgg6⟩ ht hK1 (hst.1 ht) (by rw [hF _ _ (by omega) (by omega)]; exact h8) hm
    · have g15 : ¬ g.1 = 15 := by omega
      rw [if_pos (Or.inl g29)] at eo
      obtain ⟨a, ps2, hpe, ham, hka, _⟩ := cR_and (P2 := P) A5 g29
      subst hpe
      have hAA : cr_A ts n C fin T I L R k nc S (g :: fr) (some x) o s sq P ((a, true) :: ps2) f := ⟨A1, A2, A3, A4, A5, A6, A7, A8, A9, A10, A11, A12, A13, A14, A15, A16⟩
      obtain ⟨a5, a19, a20, as⟩ := A7
      have hpw : pq_w ((a, true) :: ps2) = 2 + pq_w ps2 := rfl
      simp only [List.length_cons] at hpl
      have he1 : ap_1 ts n (S, g :: fr, some x, o, s, sq, false) = (if tk_now ts s = (Int8.ofInt 31).toInt32 then (S, (15, x, 0) :: fr, none, o, tk_adv ts s, sq, false) else if tk_now ts s = (Int8.ofInt 29).toInt32 then ap_u ts n 13 S fr x o s sq else if tk_now ts s = (Int8.ofInt 30).toInt32 ∧ rn_k S x = 60 then ap_u ts n 14 S fr x o s sq else (S, fr, some x, o, tk_ref ts n s, sq, false)) := by
        show ap_e1 ts n S x o s sq g fr = _
        unfold ap_e1
        rw [if_neg g15, if_neg (fun z => z g29)]
      obtain ⟨u1, u2, u3, u4, u5, u6, u7, u8⟩ := A6.2.2.2 a (by omega)
      have uk := A6.2.2.2 (a + 1) ham
      refine ⟨C, ps2.length + 1, rfl, G1, a5, by omega, fun e => absurd e (by omega), fun z2 e ne => ?_, fun z2 e ze => ?_⟩
      · have : z2 = ps2.length := by omega
        subst this
        have kE : rn_E S (sm_c ts n S (tk_adv ts s)) := rn_E_mk
        have kn : rn_n (sm_c ts n S (tk_adv ts s)) = rn_n S + 1 := rfl
        have cond60 : (a + 2 = pd_m P ∧ I (C + 1) (a + 1) = 0) ↔ rn_k S x = 60 := by
          obtain ⟨a', ps3, e1, e2, e3, _⟩ := cR_until (P2 := P) (c := rn_n S) A5 g29 kE ⟨Nat.le_refl _, by omega⟩
          cases e1
          rw [e3, uk.1]
          have e4 := uk.2.1
          have e5 : (Int32.ofNat (pd_k P (a + 1)) = 0) ↔ pd_k P (a + 1) = 0 := by
            rw [wi_eq, wi_on (by omega), wi_0]
            omega
          rw [e5]
        refine ⟨ts, n, C, pd_m P, o - 1, ps2.length, a, s, by rw [a19], G1, A9, G3, by omega, by omega, h8, hm, ham, by rw [show o - 1 + 1 = o by omega]; exact A11, by omega, a5, by omega, hLW, hv, ⟨gg, hgg, hgg6⟩, fun w31 I1 hK1 h51 h201 h98 hF => ?_, fun w29 y I1 hy hK1 hF => ?_, fun w30 hcd y I1 hy hK1 hF => ?_, fun n31 n29 n30 I1 hQ => ?_⟩
        · rw [if_pos w31] at he1
          obtain ⟨b1, b2, b3⟩ := tk_ad1 (s := s) (ts := ts) (by rw [w31]; decide)
          have b21 : (tk_adv ts s).1 = s.1 + 1 := by rw [b2]
          have hwl := wl_adv w31 (by decide)
          have e1 : tl ((Int8.ofInt 31).toInt32) = 3 := rfl
          have hwl2 : wl ts (tk_adv ts s).1 = wl ts s.1 + 3 := by rw [b21, hwl, e1]
          obtain ⟨f2, g1, g2, g3, g4, g5, g6⟩ := (ap_step hv hl A4 A1 A2 A3 he1).2 (by rw [b2])
          obtain ⟨a', ps3, e1', e2', e3', hcR⟩ := cR_and (P2 := pd_up P (pd_m P) a 10 (pd_c P a) (pd_d P a) (pd_t P a) (pd_m P) (pd_a P a)) A5 g29
          cases e1'
          have hcR := hcR rfl (fun i hi => pd_up_no hi) pd_up_at.1 pd_up_at.2.2.2.2.1
          refine hq I1 L ⟨hG0, cg_I_c hC hG0 h (fun c j a1 a2 a3 => hF _ _ a1 (by omega) (by omega) (by omega)) (fun _ _ _ _ => rfl) ⟨gg, by rw [hF _ _ (by omega) (by omega) (by omega) (by omega)]; exact hgg, hgg6⟩, Or.inl ⟨S, (15, x, 0) :: fr, none, o, tk_adv ts s, sq, _, (a, false) :: ps2, f2, by rw [b2], g1, g2 rfl, g3, hcR, pq_upd A6 (Nat.le_refl _) (fun e j he hj => hF _ _ (by omega) (by omega) (by omega) (by omega)) (fun _ _ _ _ => rfl) (by rw [hF _ _ (by omega) (by omega) (by omega) (by omega)]; exact h8) ⟨by rw [hF _ _ (by omega) (by omega) (by omega) (by omega), u1, hka], by omega, by rw [hF _ _ (by omega) (by omega) (by omega) (by omega)]; exact u3, u4, h51, hm, u7, u8⟩, ⟨by rw [hF _ _ (by omega) (by omega) (by omega) (by omega)]; exact a5, by rw [hF _ _ (by omega) (by omega) (by omega) (by omega)]; exact a19, h201, pq_s_c as (fun c k hc hk => hF _ _ (by omega) (by omega) (by omega) (by omega))⟩, pq_S_upd hC G4 A8 (rn_E_id _) (Nat.le_refl _) (by omega) hsq (hF _ _ (by omega) (by omega) (by omega) (by omega)) (fun e j a1 a2 => hF _ _ (by omega) (by omega) (by omega) (by omega)) (fun _ _ _ => rfl), hK1, ⟨by rw [hF _ _ (by omega) (by omega) (by omega) (by omega)]; exact A10.1, by decide, trivial⟩, by rw [hF _ _ (by omega) (by omega) (by omega) (by omega)]; exact A11, h98, ?_, ?_, by omega, A16⟩⟩
          · show 3 * pd_m P ≤ wl ts (tk_adv ts s).1 + (1 + pq_w ps2) + 0
            omega
          · show 6 * sq.length ≤ wl ts (tk_adv ts s).1 + 0
            omega
        · clear cond60
          rw [if_neg (by rw [w29]; decide), if_pos w29] at he1
          unfold ap_u at he1
          have htk := fun hh => tk_take_ok (ts := ts) (n := n) (k := (Int8.ofInt 16).toInt32) (s := (cd_all ts n (tk_adv ts s)).2.2) hh (by decide)
          generalize htk0 : tk_take ts n ((Int8.ofInt 16).toInt32) (cd_all ts n (tk_adv ts s)).2.2 = s2 at he1 hK1 htk
          have hst := ap_step hv hl A4 A1 A2 A3 he1
          obtain ⟨j5, j7, j98, j11, jF⟩ := hF
          have iF : ∀ e j, ¬ (e = 1 ∧ (j = 8 ∨ j = 9)) → ¬ (e = 9 ∧ (j = 5 ∨ j = 7 ∨ j = 8 ∨ j = 11)) → ¬ (e = C + 1 ∧ j = a) → I1 e j = I e j := fun e j a1 a2 a3 => by rw [jF e j a1 a2]; exact wv_u_no _ _ a3
          by_cases ht : s2.2 = none
          · obtain ⟨f2, g1, g2, g3, g4, g5, g6⟩ := hst.2 ht
            have num : wl ts s.1 + 7 ≤ wl ts s2.1 ∧ s.1 + 1 ≤ s2.1 := by
              obtain ⟨t1, t2, t3, t4⟩ := htk ht
              obtain ⟨b1, b2, b3⟩ := tk_ad1 (s := s) (ts := ts) (by rw [w29]; decide)
              have b21 : (tk_adv ts s).1 = s.1 + 1 := by rw [b2]
              obtain ⟨c1, c2, c3⟩ := cd_all_b (n := n) (s := tk_adv ts s) hl (by rw [b21]; exact b3)
              have c3 := c3 t1
              have hwl := wl_adv w29 (by decide)
              rw [show tl ((Int8.ofInt 29).toInt32) = 5 from rfl] at hwl
              have t31 : s2.1 = (cd_all ts n (tk_adv ts s)).2.2.1 + 1 := by rw [t3]
              rw [b21] at c2 c3
              clear t2 t3 t1 hst htk he1 hK1
              generalize (cd_all ts n (tk_adv ts s)).2.2.1 = ci at c1 c2 c3 t31 t4
              have hwm := wl_mono (ts := ts) (i := s.1 + 1) (j := ci + 1) (by omega) t4
              rw [t31]
              omega
            obtain ⟨num1, num2⟩ := num
            have hy := hy (htk ht).1
            obtain ⟨a', ps3, e1', e2', _, e4', hcR, _⟩ := cR_until (P2 := pd_up P (pd_m P) a 8 (cd_h (cd_all ts n (tk_adv ts s))) (fun _ => false) (pd_t P a) (pd_l P a) (pd_a P a)) (c := rn_n S) A5 g29 kE ⟨Nat.le_refl _, by omega⟩
            cases e1'
            clear e4'
            have hcR := hcR rfl (fun i hi => pd_up_no hi) pd_up_at.1 (fun v _ => by rw [pd_up_at.2.1]; exact (congrFun sm_c_p.2 v).symm)
            exact hq I1 _ (cw_close hv hl hC hsq hG0 h hAA he1 ht hcR (by omega) (Nat.le_refl _) (fun e j a1 a2 a3 a4 => iF e j a1 a2 a3) (fun e j a1 => pp_cl_no a1) (by rw [iF _ _ (by omega) (by omega) (by omega)]; exact h8) ⟨by rw [jF _ _ (by omega) (by omega), wv_u_at]; rfl, by omega, by rw [iF _ _ (by omega) (by omega) (by omega)]; exact u3, u4, by rw [iF _ _ (by omega) (by omega) (by omega)]; exact u5, u6, fun u hu => by rw [pp_cl_at.1]; exact hy u hu, fun u hu => by rw [pp_cl_at.2]; exact nb_zu hu⟩ j5 j7 j98 j11 hK1 (by omega) num2)
          · exact flt (fun c j a1 a2 a3 => iF _ _ a1 (by omega) (by omega)) (fun c j a1 a2 => pp_cl_no (by omega)) j11 ht hK1 (hst.1 ht) (by rw [iF _ _ (by omega) (by omega) (by omega)]; exact h8) hm
        · have h60 := cond60.mp hcd
          clear cond60
          rw [if_neg (by rw [w30]; decide), if_neg (by rw [w30]; decide), if_pos ⟨w30, h60⟩] at he1
          unfold ap_u at he1
          have htk := fun hh => tk_take_ok (ts := ts) (n := n) (k := (Int8.ofInt 16).toInt32) (s := (cd_all ts n (tk_adv ts s)).2.2) hh (by decide)
          generalize htk0 : tk_take ts n ((Int8.ofInt 16).toInt32) (cd_all ts n (tk_adv ts s)).2.2 = s2 at he1 hK1 htk
          have hst := ap_step hv hl A4 A1 A2 A3 he1
          obtain ⟨j5, j7, j98, j11, jF⟩ := hF
          have iF : ∀ e j, ¬ (e = 1 ∧ (j = 8 ∨ j = 9)) → ¬ (e = 9 ∧ (j = 5 ∨ j = 7 ∨ j = 8 ∨ j = 11)) → ¬ (e = C + 1 ∧ j = a) → ¬ (e = C ∧ j = 8) → I1 e j = I e j := fun e j a1 a2 a3 a4 => by rw [jF e j a1 a2, wv_u_no _ _ a3]; exact wv_u_no _ _ a4
          have lF : ∀ e j, ¬ ((e = C + 2 ∨ e = C + 3) ∧ j = a) → wv_u (wv_u L (C + 2) a (L (C + 2) (a + 1))) (C + 3) a y e j = L e j := fun e j a1 => by rw [wv_u_no _ _ (by omega), wv_u_no _ _ (by omega)]
          have j8 : I1 C 8 = Int32.ofNat (a + 1) := by rw [jF _ _ (by omega) (by omega), wv_u_no _ _ (by omega)]; exact wv_u_at _ _ _ _
          by_cases ht : s2.2 = none
          · obtain ⟨f2, g1, g2, g3, g4, g5, g6⟩ := hst.2 ht
            have num : wl ts s.1 + 8 ≤ wl ts s2.1 ∧ s.1 + 1 ≤ s2.1 := by
              obtain ⟨t1, t2, t3, t4⟩ := htk ht
              obtain ⟨b1, b2, b3⟩ := tk_ad1 (s := s) (ts := ts) (by rw [w30]; decide)
              have b21 : (tk_adv ts s).1 = s.1 + 1 := by rw [b2]
              obtain ⟨c1, c2, c3⟩ := cd_all_b (n := n) (s := tk_adv ts s) hl (by rw [b21]; exact b3)
              have c3 := c3 t1
              have hwl := wl_adv w30 (by decide)
              rw [show tl ((Int8.ofInt 30).toInt32) = 6 from rfl] at hwl
              have t31 : s2.1 = (cd_all ts n (tk_adv ts s)).2.2.1 + 1 := by rw [t3]
              rw [b21] at c2 c3
              clear t2 t3 t1 hst htk he1 hK1
              generalize (cd_all ts n (tk_adv ts s)).2.2.1 = ci at c1 c2 c3 t31 t4
              have hwm := wl_mono (ts := ts) (i := s.1 + 1) (j := ci + 1) (by omega) t4
              rw [t31]
              omega
            obtain ⟨num1, num2⟩ := num
            have hy := hy (htk ht).1
            obtain ⟨a', ps3, e1', e2', _, e4', _, hcR⟩ := cR_until (P2 := pd_up P (a + 1) a 9 (pd_c P (a + 1)) (cd_h (cd_all ts n (tk_adv ts s))) (pd_t P a) (pd_l P a) (pd_a P a)) (c := rn_n S) A5 g29 kE ⟨Nat.le_refl _, by omega⟩
            cases e1'
            have hcR := hcR rfl h60 (fun i hi => pd_up_no hi) pd_up_at.1 (fun v hv2 => by rw [pd_up_at.2.1]; exact e4' h60 v hv2) (fun v _ => by rw [pd_up_at.2.2.1]; exact (congrFun sm_c_p.2 v).symm)
            exact hq I1 _ (cw_close hv hl hC hsq hG0 h hAA he1 ht hcR (by omega) (by omega) iF lF j8 ⟨by rw [jF _ _ (by omega) (by omega), wv_u_at]; rfl, by omega, by rw [iF _ _ (by omega) (by omega) (by omega) (by omega)]; exact u3, u4, by rw [iF _ _ (by omega) (by omega) (by omega) (by omega)]; exact u5, u6, fun u hu => by rw [wv_u_no _ _ (by omega), wv_u_at]; exact uk.2.2.2.2.2.2.1 u hu, fun u hu => by rw [wv_u_at]; exact hy u hu⟩ j5 j7 j98 j11 hK1 (by omega) num2)
          · exact flt (fun c j a1 a2 a3 => iF _ _ a1 (by omega) (by omega) (by omega)) (fun c j a1 a2 => lF _ _ (by omega)) j11 ht hK1 (hst.1 ht) j8 (by omega)
        · rw [if_neg n31, if_neg n29, if_neg (fun z => n30 ⟨z.1, cond60.mpr z.2⟩)] at he1
          have ht : ¬ (tk_ref ts n s).2 = none := by rw [tk_rf1 A1]; exact fun w => by cases w
          exact flt (fun c j a1 a2 a3 => hQ.2 _ _ a1) (fun _ _ _ _ => rfl) ⟨gg, by rw [hQ.2 _ _ (by omega)]; exact hgg, hgg6⟩ ht hQ.1 ((ap_step hv hl A4 A1 A2 A3 he1).1 ht) (by rw [hQ.2 _ _ (by omega)]; exact h8) hm
      · have : z2 = ps2.length := by omega
        subst this
        rw [a20] at ze
        exact absurd (show (1 : Int32) = 0 from ze) (by decide)
