/-! ===== a turn of wantItem ===== -/
/-- a fault in a sequence is the property's -/
theorem ci_fault {ts : List wt_t} {n : Nat} {fin : ap_S} {S0 : rn_N} {fr : List ap_F} {o0 : Nat} {s00 s0 : wt_q} {sq : List Nat} {f k0 : Nat} {z : Option Nat} (hv : ∀ y, y ∈ ts → pr_vt y) (hl : ts.length ≤ 401) (h1 : s00.2 = none) (h2 : ap_run ts n f (S0, fr, none, o0, s00, sq, false) = fin) (h3 : 3 * (402 - s00.1) + fr.length < f) (h4 : ap_I ts S0 fr none o0 s00 sq) (hk : (k0 = 1 ∧ s0 = s00 ∧ tk_now ts s00 = (Int8.ofInt 13).toInt32) ∨ (k0 = 6 ∧ s0 = tk_adv ts s00 ∧ tk_now ts s00 = (Int8.ofInt 27).toInt32 ∧ tk_now ts s0 = (Int8.ofInt 13).toInt32)) (hz : (sq_fin ts n o0 S0 s0).2.2.2.2.1.2 = z) (hn : ¬ z = none) : (ap_t fin).2 = z := by
  have ht : ¬ (sq_fin ts n o0 S0 s0).2.2.2.2.1.2 = none := by rw [hz]; exact hn
  rcases hk with ⟨_, rfl, w⟩ | ⟨_, rfl, w, w2⟩
  · have he : ap_1 ts n (S0, fr, none, o0, s0, sq, false) = (rn_m (sq_fin ts n o0 S0 s0).1 (61, (sq_fin ts n o0 S0 s0).2.2.1.headD 0, 0, 0, 0), fr, some (rn_n (sq_fin ts n o0 S0 s0).1), (sq_fin ts n o0 S0 s0).2.2.2.1, (sq_fin ts n o0 S0 s0).2.2.2.2.1, sq ++ [(sq_fin ts n o0 S0 s0).2.2.1.headD 0], false) := by
      show ap_b ts n S0 fr o0 s0 sq = _
      unfold ap_b
      rw [if_neg (by rw [w]; decide), if_neg (by rw [w]; decide), if_neg (by rw [w]; decide), if_pos w]
      unfold ap_sq
      rw [tk_now_f ht, if_neg (by decide), if_neg (by decide)]
    rw [← hz]
    exact (ap_step hv hl h4 h1 h2 h3 he).1 ht
  · have he : ap_1 ts n (S0, fr, none, o0, s00, sq, false) = (rn_m (sq_fin ts n o0 S0 (tk_adv ts s00)).1 (11, (sq_fin ts n o0 S0 (tk_adv ts s00)).2.2.1.headD 0, 0, 0, 0), fr, some (rn_n (sq_fin ts n o0 S0 (tk_adv ts s00)).1), (sq_fin ts n o0 S0 (tk_adv ts s00)).2.2.2.1, (sq_fin ts n o0 S0 (tk_adv ts s00)).2.2.2.2.1, sq ++ [(sq_fin ts n o0 S0 (tk_adv ts s00)).2.2.1.headD 0], false) := by
      show ap_b ts n S0 fr o0 s00 sq = _
      unfold ap_b
      rw [if_neg (by rw [w]; decide), if_neg (by rw [w]; decide), if_pos w]
      unfold ap_nv
      rw [if_pos w2]
    rw [← hz]
    exact (ap_step hv hl h4 h1 h2 h3 he).1 ht
theorem sm_I_b {ts : List wt_t} {z e : Nat} {S : rn_N} {js xs : List Nat} {o : Nat} {s : wt_q} {it : Bool} (hl : ts.length ≤ 401) (h : sm_I ts z e S js xs o s it) (hj : ¬ js = []) : js.length < 400 ∧ xs.length ≤ 201 ∧ (it = true → xs.length ≤ 200) := by
  obtain ⟨i1, i2, i3, i4, i5, i6, i7, i8, i9, i10⟩ := h
  have hz := pj_b_z i4 hj
  have hnz := pj_nz js
  have h5 : xs.length ≤ pj_n js + 1 ∧ (it = true → xs.length = pj_n js) ∧ pj_n js ≤ xs.length := by
    cases it with
    | true =>
      have i5 : xs.length = pj_n js + 0 := i5
      omega
    | false =>
      have i5 : xs.length = pj_n js + 1 := i5
      refine ⟨by omega, (fun w => by cases w), by omega⟩
  obtain ⟨h5, h6, h7⟩ := h5
  refine ⟨by omega, by omega, fun w => ?_⟩
  have := h6 w
  omega
theorem rn_map_E {S S2 : rn_N} {xs : List Nat} (hE : rn_E S S2) (hx : rn_x S xs) : xs.map (rn_p S2) = xs.map (rn_p S) := List.map_congr_left (fun y hy => (hE.2 y (hx y hy).1).1)
theorem pq_S_c {T : wv_T} {I I1 : Nat → Nat → Int32} {L L1 : Nat → Nat → Int64} {R : Nat → Nat → Option Nat} {N C : Nat} {P : pd_P} {S S2 : rn_N} {sq : List Nat} (hC : C = 28 ∨ C = 124 ∨ C = 220 ∨ C = 346) (hO : pq_O T N R) (h : pq_S T I L R C S sq P) (hS : rn_E S S2) (hsq : sq.length ≤ 67) (h9 : I1 C 9 = I C 9) (hI : ∀ e j, C + 9 ≤ e → e < C + 76 → I1 e j = I e j) (hL : ∀ e j, (C + 9 ≤ e ∧ e < C + 76) ∨ (536 ≤ e ∧ e < 1099511627776) → L1 e j = L e j) : pq_S T I1 L1 R C S2 sq P := by
  obtain ⟨h1, h2, h3⟩ := h
  refine ⟨by rw [h9]; exact h1, fun q y hq => ?_, fun i hi hki => ?_⟩
  · obtain ⟨b1, g, b2, b3⟩ := h2 q y hq
    have hql : q < sq.length := (List.getElem?_eq_some_iff.mp hq).1
    obtain ⟨_, k2, k3, _⟩ := rn_E_k hS b1
    refine ⟨Nat.lt_of_lt_of_le b1 hS.1, g, ?_, by rw [k3]; exact b3⟩
    rw [k2, k3]
    refine sq_D_c b2 (fun j => hI _ _ (by omega) (by omega)) (fun j => hL _ _ (by omega)) rfl (fun _ _ => rfl) (fun B len hB1 hB2 hB3 j => ?_)
    obtain ⟨c1, c2⟩ := pq_O_B (e := C + 9 + q) hO hC (by omega) (by omega) hB1 hB2 hB3
    exact hL _ _ (by omega)
  · obtain ⟨y, y1, y2⟩ := h3 i hi hki
    have hy := (h2 _ y y1).1
    exact ⟨y, y1, by rw [(rn_E_k hS hy).2.2.1]; exact y2⟩
set_option maxHeartbeats 4000000 in
/-- a turn of wantItem -/
theorem turn_item {ts : List wt_t} {n C : Nat} {fin : ap_S} {T0 : wv_T} {N0 N nc ns k : Nat} {I0 I : Nat → Nat → Int32} {L0 L : Nat → Nat → Int64} {R0 R : Nat → Nat → Option Nat} {T : wv_T} {S0 : rn_N} {fr : List ap_F} {o0 : Nat} {s00 s0 : wt_q} {sq : List Nat} {P : pd_P} {ps : List (Nat × Bool)} {f k0 : Nat} {S : rn_N} {js xs : List Nat} {o : Nat} {s : wt_q} {f2 g : Nat} {fl : Bool} {q : wv_Q} (hv : ∀ y, y ∈ ts → pr_vt y) (hl : ts.length ≤ 401) (hw : ∀ i, i ≤ ts.length → wl ts i ≤ n + 1) (hn4 : n ≤ 400) (hC : C = 28 ∨ C = 124 ∨ C = 220 ∨ C = 346) (hG : cg_T C T0 N0 R0 T N R nc ns) (h : cg_I C T0 I0 L0 R0 T I L) (hA : cr_I ts n C fin T I L R k nc S0 fr o0 s00 s0 sq P ps f k0 S js xs o s true f2 g fl) (hq : ∀ I1 L1, CR ts n C fin T0 N0 I0 L0 R0 (k + 1) T N I1 L1 R nc ns → q (.inl none) T N I1 L1 R 0 0) : pj_c134 [.ref 9] T N I L R q := by
  obtain ⟨⟨A1, A2, A3, A4, A5, A6, A7, A8⟩, Ak, ⟨P1, P2, P3, P4, P5⟩, ⟨M1, M2, M3, M4, M5⟩, ⟨B1, B2, B3, B4, B5, B6, B7⟩, E1, E2, E3, E4, E5, E6, E7, E8, E9, E10⟩ := hA
  have hG0 := hG
  obtain ⟨G1, G2, G3, G4, G5, G6, G7, G8, G9⟩ := hG
  have hLW := h.2.2.1
  obtain ⟨hb1, hb2, hb3⟩ := sm_I_b hl B5 B2
  have hsl := A4.2.2.2.2.2.2.2.1
  have hws := hw s00.1 hsl
  have h3n : 3 * nc ≤ n + 1 := by omega
  have hsq : sq.length ≤ 67 := by omega
  have hB5 := B5
  obtain ⟨i1, i2, i3, i4, i5, i6, i7, i8, i9, i10⟩ := B5
  have P5 : s0.1 + 1 + 0 ≤ s.1 := P5
  have flt : ∀ {s2 : wt_q} {I1 : Nat → Nat → Int32} {L1 : Nat → Nat → Int64}, (∀ c j, ¬ (c = 1 ∧ (j = 8 ∨ j = 9)) → ¬ (9 ≤ c ∧ c ≤ 21) → I1 c j = I c j) → (∀ c j, ¬ (9 ≤ c ∧ c ≤ 21) → L1 c j = L c j) → (∃ g, I1 9 11 = Int32.ofNat g ∧ g < 64) → ¬ s2.2 = none → wt_K I1 L1 ts n s2.1 s2.2 → (sq_fin ts n o0 S0 s0).2.2.2.2.1.2 = s2.2 → q (.inl none) T N I1 L1 R 0 0 := fun a1 a2 a3 a4 a5 a6 => hq _ _ (cw_fault hC hG0 h (fun c j c1 c2 _ => a1 c j c1 c2) (fun c j c1 _ => a2 c j c1) a3 a4 a5 (ci_fault hv hl A1 A2 A3 A4 Ak a6 a4) (by rw [a1 _ _ (by omega) (by omega)]; exact A6.1) A6.2.1 (by omega) h3n)
  refine ⟨ts, n, o, g, s, js, fl, xs.map (rn_p S), rfl, G1, hLW, E1, hv, E2, hb1, E5, i8, E9, E10, E3, E4, by rw [List.length_map]; exact hb3 rfl, fun w wo I1 hQ => ?_, fun w wo I1 hK1 hJ1 h71 hF => ?_, fun w m0 fl1 g2 I1 L1 hm0 hW1 hI1 hK1 h11 hg2 hcg hgm h81 hF => ?_⟩
  · have h2 : sm_1 ts n (tk_place ts n s0.1) (S, js, xs, o, s, true) = (S, js, xs, o, tk_ref ts n s, true) := (if_pos w).trans (if_neg wo)
    have ht : ¬ (tk_ref ts n s).2 = none := by rw [tk_rf1 B1]; exact fun w => by cases w
    exact flt (fun c j a1 a2 => hQ.2 _ _ a1) (fun _ _ _ => rfl) ⟨g, by rw [hQ.2 _ _ (by omega)]; exact E9, E10⟩ ht hQ.1 ((sq_step hv hl hB5 B1 B2 B3 B4 h2).1 ht)
  · have h2 : sm_1 ts n (tk_place ts n s0.1) (S, js, xs, o, s, true) = (S, 0 :: js, xs, o + 1, tk_adv ts s, true) := (if_pos w).trans (if_pos wo)
    obtain ⟨b1, b2, b3⟩ := tk_ad1 (s := s) (ts := ts) (by rw [w]; decide)
    have b21 : (tk_adv ts s).1 = s.1 + 1 := by rw [b2]
    obtain ⟨f3, q1, q2, q3, q4, q5, q6⟩ := (sq_step hv hl hB5 B1 B2 B3 B4 h2).2 (by rw [b2])
    have jF : ∀ c j, ¬ (c = 1 ∧ (j = 8 ∨ j = 9)) → ¬ (c = 9 ∧ (j = 6 ∨ j = 7)) → ¬ c = 21 → I1 c j = I c j := fun c j a1 a2 a3 => hF c j a2 a3 a1
    refine hq I1 L ⟨hG0, cg_I_c hC hG0 h (fun c j a1 a2 a3 => jF c j a1 (by omega) (by omega)) (fun _ _ _ _ => rfl) ⟨g, by rw [jF _ _ (by omega) (by omega) (by omega)]; exact E9, E10⟩, Or.inr (Or.inr (Or.inr ⟨S0, fr, o0, s00, s0, sq, P, ps, f, k0, S, 0 :: js, xs, o + 1, tk_adv ts s, true, f3, g, fl, ⟨A1, A2, A3, A4, A5, pq_M_c A6 (fun c j hc => jF _ _ (by omega) (by omega) (by omega)) (fun _ _ _ => rfl), pq_P_c A7 (jF _ _ (by omega) (by omega) (by omega)) (fun c j hc => jF _ _ (by omega) (by omega) (by omega)), pq_S_c hC G4 A8 (rn_E_id _) hsq (jF _ _ (by omega) (by omega) (by omega)) (fun e j a1 a2 => jF _ _ (by omega) (by omega) (by omega)) (fun _ _ _ => rfl)⟩, Ak, ⟨P1, P2, P3, by omega, ?_⟩, ⟨by rw [jF _ _ (by omega) (by omega) (by omega)]; exact M1, by rw [jF _ _ (by omega) (by omega) (by omega)]; exact M2, by rw [jF _ _ (by omega) (by omega) (by omega)]; exact M3, M4, M5⟩, ⟨by rw [b2], by simp, q1, q2, q3, B6, B7⟩, hK1, hJ1, ww_W_c E3 (fun c j hc => jF _ _ (by omega) (by omega) (by omega)), E4, h71, by rw [jF _ _ (by omega) (by omega) (by omega)]; exact E6, by rw [jF _ _ (by omega) (by omega) (by omega)]; exact E7, by rw [jF _ _ (by omega) (by omega) (by omega)]; exact E8, by rw [jF _ _ (by omega) (by omega) (by omega)]; exact E9, E10⟩))⟩
    show s0.1 + 1 + 0 ≤ (tk_adv ts s).1
    omega
  · have h2 : sm_1 ts n (tk_place ts n s0.1) (S, js, xs, o, s, true) = ((sm_rp ts n true (sm_c ts n S s) (rn_n S) (cd_all ts n s).2.2).1, js, (sm_rp ts n true (sm_c ts n S s) (rn_n S) (cd_all ts n s).2.2).2.1 :: xs, o, (sm_rp ts n true (sm_c ts n S s) (rn_n S) (cd_all ts n s).2.2).2.2, false) := if_neg w
    have hst := sq_step hv hl hB5 B1 B2 B3 B4 h2
    have jF : ∀ c j, ¬ (c = 1 ∧ (j = 8 ∨ j = 9)) → ¬ (c = 9 ∧ (j = 8 ∨ j = 11)) → ¬ (c = 10 ∧ 8 ≤ j ∧ j ≤ 10) → ¬ (c = 14 ∨ c = 15 ∨ c = 18) → I1 c j = I c j := hF.1
    have lF : ∀ c j, ¬ (c = 11 ∨ c = 12 ∨ c = 13 ∨ c = 16 ∨ c = 17) → L1 c j = L c j := hF.2
    by_cases hcf : (cd_all ts n s).2.2.2 = none
    · have em := hm0 hcf
      subst em
      obtain ⟨s1, s2⟩ := sm_c_p (ts := ts) (n := n) (S := S) (s := s)
      have erp := rp_sm (n := n) (x := rn_n S) (S := sm_c ts n S s) (s := (cd_all ts n s).2.2) (mo := some (cd_h (cd_all ts n s))) hv (fun m hm => by cases hm; exact s2) (fun w => by cases w)
      rw [s1] at erp
      have erp : rp ts n (some (cd_h (cd_all ts n s))) (cd_all ts n s).2.2 (1, nt_cond (cd_h (cd_all ts n s))) = (rn_p (sm_rp ts n true (sm_c ts n S s) (rn_n S) (cd_all ts n s).2.2).1 (sm_rp ts n true (sm_c ts n S s) (rn_n S) (cd_all ts n s).2.2).2.1, (sm_rp ts n true (sm_c ts n S s) (rn_n S) (cd_all ts n s).2.2).2.2) := erp
      rw [erp] at hW1 hI1 hK1
      dsimp only at hW1 hI1 hK1
      have hcg2 := sm_c_g (ts := ts) (n := n) (S := S) (s := s) hcg
      have hrg := sm_rp_g (ts := ts) (n := n) (b := true) (s := (cd_all ts n s).2.2) hcg2.1 (fun _ => hcg2.2)
      generalize hr : sm_rp ts n true (sm_c ts n S s) (rn_n S) (cd_all ts n s).2.2 = r at hW1 hI1 hK1 hst hrg
      obtain ⟨S2, x2, s3⟩ := r
      dsimp only at hW1 hI1 hK1 hst hrg
      by_cases hs3 : s3.2 = none
      · obtain ⟨f3, q1, q2, q3, q4, q5, q6⟩ := hst.2 hs3
        have emap : (x2 :: xs).map (rn_p S2) = rn_p S2 x2 :: xs.map (rn_p S) := by
          show rn_p S2 x2 :: xs.map (rn_p S2) = _
          rw [rn_map_E q5 i2]
        refine hq I1 L1 ⟨hG0, cg_I_c hC hG0 h (fun c j a1 a2 a3 => jF c j a1 (by omega) (by omega) (by omega)) (fun c j a1 _ => lF _ _ (by omega)) ⟨g2, h11, hg2⟩, Or.inr (Or.inr (Or.inr ⟨S0, fr, o0, s00, s0, sq, P, ps, f, k0, S2, js, x2 :: xs, o, s3, false, f3, g2, fl1, ⟨A1, A2, A3, A4, A5, pq_M_c A6 (fun c j hc => jF _ _ (by omega) (by omega) (by omega) (by omega)) (fun c j hc => lF _ _ (by omega)), pq_P_c A7 (jF _ _ (by omega) (by omega) (by omega) (by omega)) (fun c j hc => jF _ _ (by omega) (by omega) (by omega) (by omega)), pq_S_c hC G4 A8 (rn_E_id _) hsq (jF _ _ (by omega) (by omega) (by omega) (by omega)) (fun e j a1 a2 => jF _ _ (by omega) (by omega) (by omega) (by omega)) (fun e j a => lF _ _ (by omega))⟩, Ak, ⟨P1, P2, P3, by omega, ?_⟩, ⟨by rw [jF _ _ (by omega) (by omega) (by omega) (by omega)]; exact M1, by rw [jF _ _ (by omega) (by omega) (by omega) (by omega)]; exact M2, by rw [jF _ _ (by omega) (by omega) (by omega) (by omega)]; exact M3, by rw [lF _ _ (by omega)]; exact M4, by rw [lF _ _ (by omega)]; exact M5⟩, ⟨hs3, B2, q1, q2, q3, rn_E_tr B6 q5, fun y hy => ?_⟩, hK1, ⟨by rw [jF _ _ (by omega) (by omega) (by omega) (by omega)]; exact E2.1, E2.2.1, pj_s_c E2.2.2 (fun k hk => jF _ _ (by omega) (by omega) (by omega) (by omega))⟩, by rw [emap]; exact hW1, by rw [emap]; exact hI1, by rw [jF _ _ (by omega) (by omega) (by omega) (by omega)]; exact E5, h81, by rw [jF _ _ (by omega) (by omega) (by omega) (by omega)]; exact E7, by rw [jF _ _ (by omega) (by omega) (by omega) (by omega)]; exact E8, h11, hg2⟩))⟩
        · show s0.1 + 1 + 1 ≤ s3.1
          omega
        · rcases List.mem_cons.mp hy with e | e
          · rw [e]
            exact hrg
          · exact rn_g_E (rn_g_mono B7 hgm) q5 i2 y e
      · exact flt (fun c j a1 a2 => jF _ _ a1 (by omega) (by omega) (by omega)) (fun c j a1 => lF _ _ (by omega)) ⟨g2, h11, hg2⟩ hs3 hK1 (hst.1 hs3)
    · have er : sm_rp ts n true (sm_c ts n S s) (rn_n S) (cd_all ts n s).2.2 = (sm_c ts n S s, rn_n S, (cd_all ts n s).2.2) := sm_rp_1 (fun z => rc_is_2 z (tk_now_f hcf))
      rw [er] at hst
      have erp : (rp ts n (some m0) (cd_all ts n s).2.2 (1, nt_cond m0)).2 = (cd_all ts n s).2.2 := by
        unfold rp
        rw [tk_now_f hcf]
        rfl
      rw [erp] at hK1
      exact flt (fun c j a1 a2 => jF _ _ a1 (by omega) (by omega) (by omega)) (fun c j a1 => lF _ _ (by omega)) ⟨g2, h11, hg2⟩ hcf hK1 (hst.1 hcf)
