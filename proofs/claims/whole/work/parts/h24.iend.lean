/-! ===== a turn of itemEnded ===== -/
set_option maxHeartbeats 4000000 in
/-- a turn of itemEnded -/
theorem turn_iend {ts : List wt_t} {n C : Nat} {fin : ap_S} {T0 : wv_T} {N0 N nc ns k : Nat} {I0 I : Nat → Nat → Int32} {L0 L : Nat → Nat → Int64} {R0 R : Nat → Nat → Option Nat} {T : wv_T} {S0 : rn_N} {fr : List ap_F} {o0 : Nat} {s00 s0 : wt_q} {sq : List Nat} {P : pd_P} {ps : List (Nat × Bool)} {f k0 : Nat} {S : rn_N} {js xs : List Nat} {o : Nat} {s : wt_q} {f2 g : Nat} {fl : Bool} {q : wv_Q} (hv : ∀ y, y ∈ ts → pr_vt y) (hl : ts.length ≤ 401) (hw : ∀ i, i ≤ ts.length → wl ts i ≤ n + 1) (hn4 : n ≤ 400) (hC : C = 28 ∨ C = 124 ∨ C = 220 ∨ C = 346) (hN : 536 ≤ N ∧ N < 1000000000) (hG : cg_T C T0 N0 R0 T N R nc ns) (h : cg_I C T0 I0 L0 R0 T I L) (hA : cr_I ts n C fin T I L R k nc S0 fr o0 s00 s0 sq P ps f k0 S js xs o s false f2 g fl) (hq : ∀ T1 N1 I1 L1 R1 nc2 ns2, CR ts n C fin T0 N0 I0 L0 R0 (k + 1) T1 N1 I1 L1 R1 (nc + nc2) (ns + ns2) → q (.inl none) T1 N1 I1 L1 R1 nc2 ns2) : pj_c146 [.ref 9, .ref C] T N I L R q := by
  obtain ⟨hA0, Ak, ⟨P1, P2, P3, P4, P5⟩, ⟨M1, M2, M3, M4, M5⟩, ⟨B1, B2, B3, B4, B5, B6, B7⟩, E1, E2, E3, E4, E5, E6, E7, E8, E9, E10⟩ := hA
  obtain ⟨A1, A2, A3, A4, A5, A6, A7, A8⟩ := hA0
  have hA0 : s00.2 = none ∧ ap_run ts n f (S0, fr, none, o0, s00, sq, false) = fin ∧ 3 * (402 - s00.1) + fr.length < f ∧ ap_I ts S0 fr none o0 s00 sq ∧ cR P ps S0 fr none ∧ pq_M I L C P (pd_m P + 1) ∧ pq_P I ps ∧ pq_S T I L R C S0 sq P := ⟨A1, A2, A3, A4, A5, A6, A7, A8⟩
  have hG0 := hG
  obtain ⟨G1, G2, G3, G4, G5, G6, G7, G8, G9⟩ := hG
  obtain ⟨hb1, hb2, hb3⟩ := sm_I_b hl B5 B2
  have hsl := A4.2.2.2.2.2.2.2.1
  have hws := hw s00.1 hsl
  have h3n : 3 * nc ≤ n + 1 := by omega
  have hsq : sq.length ≤ 67 := by omega
  have hB5 := B5
  obtain ⟨i1, i2, i3, i4, i5, i6, i7, i8, i9, i10⟩ := B5
  have i5 : xs.length = pj_n js + 1 := i5
  have P5 : s0.1 + 1 + 1 ≤ s.1 := P5
  have hz1 := pj_b_z i4 B2
  have hs0 : s00.1 ≤ s0.1 := by
    rcases Ak with ⟨_, rfl, _⟩ | ⟨_, rfl, w, _⟩
    · exact Nat.le_refl _
    · obtain ⟨_, b2, _⟩ := tk_ad1 (s := s00) (ts := ts) (by rw [w]; decide)
      rw [b2]
      exact Nat.le_succ _
  have flt : ∀ {s2 : wt_q} {I1 : Nat → Nat → Int32} {L1 : Nat → Nat → Int64}, (∀ c j, ¬ (c = 1 ∧ (j = 8 ∨ j = 9)) → ¬ (9 ≤ c ∧ c ≤ 21) → I1 c j = I c j) → (∀ c j, ¬ (9 ≤ c ∧ c ≤ 21) → L1 c j = L c j) → (∃ g, I1 9 11 = Int32.ofNat g ∧ g < 64) → ¬ s2.2 = none → wt_K I1 L1 ts n s2.1 s2.2 → (sq_fin ts n o0 S0 s0).2.2.2.2.1.2 = s2.2 → q (.inl none) T N I1 L1 R 0 0 := fun a1 a2 a3 a4 a5 a6 => hq _ _ _ _ _ 0 0 (cw_fault hC hG0 h (fun c j c1 c2 _ => a1 c j c1 c2) (fun c j c1 _ => a2 c j c1) a3 a4 a5 (ci_fault hv hl A1 A2 A3 A4 Ak a6 a4) (by rw [a1 _ _ (by omega) (by omega)]; exact A6.1) A6.2.1 (by omega) h3n)
  refine ⟨ts, n, C, s, js, xs.map (rn_p S), fl, rfl, G1, E1, E2, E3, E4, by rw [List.length_map]; exact i5, fun hrk => ?_, fun hrk h14 => ?_, fun hrk h14 I1 hQ => ?_⟩
  · have hrk2 : ¬ tk_now ts s = Int32.ofInt 2 := fun w => by rw [w] at hrk; exact absurd hrk (by decide)
    obtain ⟨b1, b2, b3⟩ := tk_ad1 hrk2
    have b21 : (tk_adv ts s).1 = s.1 + 1 := by rw [b2]
    have h2 : sm_1 ts n (tk_place ts n s0.1) (S, js, xs, o, s, false) = ((rj (rk_of (tk_now ts s)) js S xs).2.1, rk_of (tk_now ts s) :: (rj (rk_of (tk_now ts s)) js S xs).1, (rj (rk_of (tk_now ts s)) js S xs).2.2, o, tk_adv ts s, true) := if_pos hrk
    obtain ⟨f3, q1, q2, q3, q4, q5, q6⟩ := (sq_step hv hl hB5 B1 B2 B3 B4 h2).2 (by rw [b2])
    obtain ⟨r1, r2, r3, r4, r5, r6, r7, r8, r9, r10⟩ := rj_ok (rank := rk_of (tk_now ts s)) hrk i1 i2 i3 i5
    have rg := rj_g (rank := rk_of (tk_now ts s)) i2 i3 B7
    rw [r9]
    dsimp only
    refine ⟨by omega, fun fl1 I1 L1 hJ1 hW1 hI1 hK1 h81 hF => ?_⟩
    have jF := hF.1
    have lF := hF.2
    refine hq _ _ _ _ _ 0 0 ⟨hG0, cg_I_c hC hG0 h (fun c j a1 a2 a3 => jF c j a1 (by omega) (by omega) (by omega) (by omega)) (fun c j a1 _ => lF _ _ (by omega)) ⟨g, by rw [jF _ _ (by omega) (by omega) (by omega) (by omega) (by omega)]; exact E9, E10⟩, Or.inr (Or.inr (Or.inr ⟨S0, fr, o0, s00, s0, sq, P, ps, f, k0, _, _, _, o, tk_adv ts s, true, f3, g, fl1, ⟨A1, A2, A3, A4, A5, pq_M_c A6 (fun c j hc => jF _ _ (by omega) (by omega) (by omega) (by omega) (by omega)) (fun c j hc => lF _ _ (by omega)), pq_P_c A7 (jF _ _ (by omega) (by omega) (by omega) (by omega) (by omega)) (fun c j hc => jF _ _ (by omega) (by omega) (by omega) (by omega) (by omega)), pq_S_c hC G4 A8 (rn_E_id _) hsq (jF _ _ (by omega) (by omega) (by omega) (by omega) (by omega)) (fun e j a1 a2 => jF _ _ (by omega) (by omega) (by omega) (by omega) (by omega)) (fun e j a => lF _ _ (by omega))⟩, Ak, ⟨P1, P2, P3, by omega, ?_⟩, ⟨by rw [jF _ _ (by omega) (by omega) (by omega) (by omega) (by omega)]; exact M1, by rw [jF _ _ (by omega) (by omega) (by omega) (by omega) (by omega)]; exact M2, by rw [jF _ _ (by omega) (by omega) (by omega) (by omega) (by omega)]; exact M3, by rw [lF _ _ (by omega)]; exact M4, by rw [lF _ _ (by omega)]; exact M5⟩, ⟨by rw [b2], by simp, q1, q2, q3, rn_E_tr B6 q5, rg⟩, hK1, hJ1, hW1, hI1, by rw [jF _ _ (by omega) (by omega) (by omega) (by omega) (by omega)]; exact E5, h81, by rw [jF _ _ (by omega) (by omega) (by omega) (by omega) (by omega)]; exact E7, by rw [jF _ _ (by omega) (by omega) (by omega) (by omega) (by omega)]; exact E8, by rw [jF _ _ (by omega) (by omega) (by omega) (by omega) (by omega)]; exact E9, E10⟩))⟩
    show s0.1 + 1 + 0 ≤ (tk_adv ts s).1
    omega
  · obtain ⟨b1, b2, b3⟩ := tk_ad1 (s := s) (ts := ts) (by rw [h14]; decide)
    have b21 : (tk_adv ts s).1 = s.1 + 1 := by rw [b2]
    have b22 : (tk_adv ts s).2 = none := by rw [b2]
    obtain ⟨r1, r2, r3, r4, r5, r6, r7, r8, r9, r10⟩ := rj_ok (rank := 1) (by omega) i1 i2 i3 i5
    obtain ⟨d1, d2⟩ := rj_b (rank := 1) (xs := xs) (S := S) i4
    have rg := rj_g (rank := 1) i2 i3 B7
    have h2 : sm_1 ts n (tk_place ts n s0.1) (S, js, xs, o, s, false) = sm_cl ts n (tk_place ts n s0.1) o s (rj 1 js S xs).1 (rj 1 js S xs).2.1 (rj 1 js S xs).2.2 := by
      show sm_en ts n (tk_place ts n s0.1) S js xs o s = _
      unfold sm_en
      rw [if_neg (by omega), if_pos h14]
    generalize hr : rj 1 js S xs = r at h2 r1 r2 r3 r4 r5 r6 r7 r8 r9 r10 d1 d2 rg
    obtain ⟨j1, S2, x1⟩ := r
    dsimp only at h2 r1 r2 r3 r4 r5 r6 r7 r8 r9 r10 d1 d2 rg
    obtain ⟨jt, rfl⟩ : ∃ jt, j1 = 0 :: jt := by
      cases j1 with
      | nil =>
        have : pj_z [] = 0 := rfl
        omega
      | cons r jt =>
        have := r10 r jt rfl
        exact ⟨jt, by rw [show r = 0 by omega]⟩
    have r4 : x1.length = 0 + pj_n jt + 1 := r4
    obtain ⟨y, l1, rfl⟩ : ∃ y l1, x1 = y :: l1 := by
      cases x1 with
      | nil => exact absurd r4 (by simp)
      | cons y l1 => exact ⟨y, l1, rfl⟩
    obtain ⟨B, len, hO, _⟩ := G4 (C + 9 + min sq.length 66) ⟨C, min sq.length 66, hC, by omega, rfl⟩
    have hpl : tk_place ts n s0.1 ≤ 400 := by
      have : tk_now ts s0 = (Int8.ofInt 13).toInt32 := by
        rcases Ak with ⟨_, rfl, w⟩ | ⟨_, _, _, w⟩
        · exact w
        · exact w
      obtain ⟨a, f⟩ := s0
      unfold tk_place
      cases e : ts[a]? with
      | none => exact hn4
      | some t =>
        exact (hv t (List.mem_of_getElem? e)).1
    have hwl14 := wl_adv h14 (by decide)
    have e14 : tl ((Int8.ofInt 14).toInt32) = 1 := rfl
    have hws1 := hw (s.1 + 1) b3
    have hwm := wl_mono (ts := ts) (i := s00.1) (j := s.1) (by omega) i10
    have hpll := cR_len A5
    have hpw := pq_w_le ps
    have hoo := A4.2.2.2.2.1
    have ho20 := A4.2.2.2.2.2.1
    have hsq2 : sq.length < 67 := by omega
    have hmin : min sq.length 66 = sq.length := by omega
    rw [hmin] at hO
    have hm : pd_m P < 155 := by omega
    have hwy := r1.2.2 y (r2 y List.mem_cons_self).1
    refine ⟨ts, n, C, pd_m P, tk_place ts n s0.1, o - 1, sq.length, g, B, len, s, js, jt, xs.map (rn_p S), l1.map (rn_p S2), rn_p S2 y, fl, rfl, G1, G2, E1, hv, G3, by omega, by omega, E8, hm, E7, hpl, by rw [show o - 1 + 1 = o by omega]; exact E5, by omega, A8.1, hsq2, E9, E10, hO, by omega, by omega, E2, E3, E4, by rw [List.length_map]; exact i5, r9, fun w => ?_, fun hjt fl1 I1 L1 hW1 hI1 hJ1 hK1 h71 hF hL => ?_, fun hjt hwt I1 L1 hK1 hF hL => ?_, fun hjt hwt T1 N1 I1 L1 R1 nc2 ns2 hsT hSD hJ1 h71 h51 h91 hy1 hn1 hcb => ?_⟩
    · subst w
      have : pj_n [] = 0 := rfl
      have hl1 : l1 = [] := List.length_eq_zero_iff.mp (by simp only [List.length_cons] at r4; omega)
      rw [hl1]
      rfl
    · have h2 : sm_1 ts n (tk_place ts n s0.1) (S, js, xs, o, s, false) = ((sm_rp ts n false S2 y (tk_adv ts s)).1, jt, (sm_rp ts n false S2 y (tk_adv ts s)).2.1 :: l1, o - 1, (sm_rp ts n false S2 y (tk_adv ts s)).2.2, false) := h2.trans (if_neg hjt)
      have hst := sq_step hv hl hB5 B1 B2 B3 B4 h2
      have jg : ∃ g, I1 9 11 = Int32.ofNat g ∧ g < 64 := ⟨g, by rw [hF _ _ (by omega) (by omega) (by omega) (by omega)]; exact E9, E10⟩
      by_cases c34 : tk_now ts (tk_adv ts s) = (Int8.ofInt 23).toInt32 ∨ tk_now ts (tk_adv ts s) = (Int8.ofInt 24).toInt32
      · rw [rp_34 c34] at hK1
        have ht : ¬ (tk_ref ts n (tk_adv ts s)).2 = none := by rw [tk_rf1 b22]; exact fun w => by cases w
        have er : sm_rp ts n false S2 y (tk_adv ts s) = (S2, y, tk_adv ts s) := sm_rp_1 (fun z => by
          rcases z with z | z | z | z
          · rcases c34 with c | c <;> exact absurd (z.symm.trans c) (by decide)
          · rcases c34 with c | c <;> exact absurd (z.symm.trans c) (by decide)
          · rcases c34 with c | c <;> exact absurd (z.symm.trans c) (by decide)
          · cases z.1)
        rw [er] at hst
        obtain ⟨f3, q1, q2, q3, q4, q5, q6⟩ := hst.2 b22
        have h3 : sm_1 ts n (tk_place ts n s0.1) (S2, jt, y :: l1, o - 1, tk_adv ts s, false) = (S2, jt, y :: l1, o - 1, tk_ref ts n (tk_adv ts s), false) := by
          show sm_en ts n (tk_place ts n s0.1) S2 jt (y :: l1) (o - 1) (tk_adv ts s) = _
          unfold sm_en
          rw [if_neg (by rcases c34 with c | c <;> rw [c] <;> decide), if_neg (by rcases c34 with c | c <;> rw [c] <;> decide)]
        exact flt (fun c j a1 a2 => hF _ _ a1 (by omega) (by omega) (by omega)) (fun c j a => hL _ _ (by omega)) jg ht hK1 ((sq_step hv hl q3 b22 hjt q1 q2 h3).1 ht)
      · have erp := rp_sm (n := n) (x := y) (S := S2) (s := tk_adv ts s) (mo := none) hv (fun m hm => by cases hm) (fun _ => c34)
        have erp : rp ts n none (tk_adv ts s) (rn_p S2 y) = (rn_p (sm_rp ts n false S2 y (tk_adv ts s)).1 (sm_rp ts n false S2 y (tk_adv ts s)).2.1, (sm_rp ts n false S2 y (tk_adv ts s)).2.2) := erp
        rw [erp] at hW1 hI1 hK1
        dsimp only at hW1 hI1 hK1
        have hyg : ni_A g (rn_t S2 y) := rg y List.mem_cons_self
        have hrg := sm_rp_g (ts := ts) (n := n) (b := false) (s := tk_adv ts s) hyg (fun w => by cases w)
        obtain ⟨_, _, z3, z4, _, z6⟩ := sm_rp_ok (n := n) (b := false) (s := tk_adv ts s) hv r1 r2 (fun w => by cases w) (by rw [b21]; exact b3)
        have zE : rn_E S2 (sm_rp ts n false S2 y (tk_adv ts s)).1 := ⟨z3, z6⟩
        generalize hr2 : sm_rp ts n false S2 y (tk_adv ts s) = r at hW1 hI1 hK1 hst hrg zE
        obtain ⟨S3, x3, s3⟩ := r
        dsimp only at hW1 hI1 hK1 hst hrg zE
        by_cases hs3 : s3.2 = none
        · obtain ⟨f3, q1, q2, q3, q4, q5, q6⟩ := hst.2 hs3
          have emap : (x3 :: l1).map (rn_p S3) = rn_p S3 x3 :: l1.map (rn_p S2) := by
            show rn_p S3 x3 :: l1.map (rn_p S3) = _
            rw [rn_map_E zE (rn_x_t r2)]
          refine hq _ _ _ _ _ 0 0 ⟨hG0, cg_I_c hC hG0 h (fun c j a1 a2 a3 => hF c j a1 (by omega) (by omega) (by omega)) (fun c j a1 _ => hL _ _ (by omega)) jg, Or.inr (Or.inr (Or.inr ⟨S0, fr, o0, s00, s0, sq, P, ps, f, k0, S3, jt, x3 :: l1, o - 1, s3, false, f3, g, fl1, ⟨A1, A2, A3, A4, A5, pq_M_c A6 (fun c j hc => hF _ _ (by omega) (by omega) (by omega) (by omega)) (fun c j hc => hL _ _ (by omega)), pq_P_c A7 (hF _ _ (by omega) (by omega) (by omega) (by omega)) (fun c j hc => hF _ _ (by omega) (by omega) (by omega) (by omega)), pq_S_c hC G4 A8 (rn_E_id _) hsq (hF _ _ (by omega) (by omega) (by omega) (by omega)) (fun e j a1 a2 => hF _ _ (by omega) (by omega) (by omega) (by omega)) (fun e j a => hL _ _ (by omega))⟩, Ak, ⟨P1, P2, P3, by omega, ?_⟩, ⟨by rw [hF _ _ (by omega) (by omega) (by omega) (by omega)]; exact M1, by rw [hF _ _ (by omega) (by omega) (by omega) (by omega)]; exact M2, by rw [hF _ _ (by omega) (by omega) (by omega) (by omega)]; exact M3, by rw [hL _ _ (by omega)]; exact M4, by rw [hL _ _ (by omega)]; exact M5⟩, ⟨hs3, hjt, q1, q2, q3, rn_E_tr B6 q5, fun w hw2 => ?_⟩, hK1, hJ1, by rw [emap]; exact hW1, by rw [emap]; exact hI1, h71, by rw [hF _ _ (by omega) (by omega) (by omega) (by omega)]; exact E6, by rw [hF _ _ (by omega) (by omega) (by omega) (by omega)]; exact E7, by rw [hF _ _ (by omega) (by omega) (by omega) (by omega)]; exact E8, by rw [hF _ _ (by omega) (by omega) (by omega) (by omega)]; exact E9, E10⟩))⟩
          · show s0.1 + 1 + 1 ≤ s3.1
            omega
          · rcases List.mem_cons.mp hw2 with e | e
            · rw [e]
              exact hrg
            · exact rn_g_E (fun z hz => rg z (List.mem_cons_of_mem _ hz)) zE (rn_x_t r2) w e
        · exact flt (fun c j a1 a2 => hF _ _ a1 (by omega) (by omega) (by omega)) (fun c j a => hL _ _ (by omega)) jg hs3 hK1 (hst.1 hs3)
    · have h2 : sm_1 ts n (tk_place ts n s0.1) (S, js, xs, o, s, false) = (S2, [], y :: l1, o - 1, tk_adv ts (tk_refAt (tk_place ts n s0.1) s), false) := by
        refine h2.trans ((if_pos hjt).trans ?_)
        rw [if_pos (show 40 < rn_w S2 ((y :: l1).headD 0) from hwt)]
      have er : tk_refAt (tk_place ts n s0.1) s = (s.1, some (tk_place ts n s0.1)) := by
        unfold tk_refAt
        rw [B1]
      have ea : tk_adv ts (tk_refAt (tk_place ts n s0.1) s) = (s.1, some (tk_place ts n s0.1)) := by rw [er]; rfl
      have er2 : tk_refAt (tk_place ts n s0.1) (tk_adv ts s) = (s.1 + 1, some (tk_place ts n s0.1)) := by
        unfold tk_refAt
        rw [b2]
      rw [ea] at h2
      have ht : ¬ (tk_refAt (tk_place ts n s0.1) (tk_adv ts s)).2 = none := by rw [er2]; exact fun w => by cases w
      have hz := (sq_step hv hl hB5 B1 B2 B3 B4 h2).1 (fun w => by cases w)
      exact flt (fun c j a1 a2 => hF _ _ a1 (by omega) (by omega) (by omega)) (fun c j a => hL _ _ (by omega)) ⟨g, by rw [hF _ _ (by omega) (by omega) (by omega) (by omega)]; exact E9, E10⟩ ht hK1 (by rw [hz, er2])
    · have hwt : rn_w S2 y ≤ 40 := hwt
      have h2b : sm_1 ts n (tk_place ts n s0.1) (S, js, xs, o, s, false) = (S2, [], y :: l1, o - 1, tk_adv ts s, false) := by
        refine h2.trans ((if_pos hjt).trans ?_)
        rw [if_neg (show ¬ 40 < rn_w S2 ((y :: l1).headD 0) from by show ¬ 40 < rn_w S2 y; omega)]
      subst hjt
      have hl1 : l1 = [] := List.length_eq_zero_iff.mp (by have : pj_n [] = 0 := rfl; simp only [List.length_cons] at r4; omega)
      subst hl1
      obtain ⟨f3, q1, q2, q3, q4, q5, q6⟩ := (sq_step hv hl hB5 B1 B2 B3 B4 h2b).2 b22
      rw [sm_run_no (fun w => (sm_go_iff.mp w).1 rfl)] at q1
      have eo : o - 1 = o0 := by
        have e1 := q3.2.2.2.2.2.2.1
        have e2 : pj_z [] = 0 := rfl
        omega
      rw [eo] at q1 h71
      refine hq _ _ _ _ _ nc2 ns2 (ci_end (s1 := tk_adv ts s) (y := y) (m0 := 0) hv hl hw hn4 hC hN hG0 h hA0 Ak ⟨P1, P2, P3, by omega, by omega, by rw [b21]; exact b3, b22⟩ ⟨M1, M2, M4, M5⟩ q1.symm (rn_E_tr B6 q5) (r2 y List.mem_cons_self).1 (rg y List.mem_cons_self) hsq2 hm hsT hO hcb hSD ⟨g, ?_, E10⟩ hJ1 h71 h51 h91 hy1 hn1)
      rw [hcb.1 _ _ (G2 9 (by omega)) (by omega) (by omega) (by omega) (by omega) (by omega) (by omega) (by omega)]
      exact E9
  · have h2 : sm_1 ts n (tk_place ts n s0.1) (S, js, xs, o, s, false) = (S, js, xs, o, tk_ref ts n s, false) := by
      show sm_en ts n (tk_place ts n s0.1) S js xs o s = _
      unfold sm_en
      rw [if_neg (by omega), if_neg h14]
    have ht : ¬ (tk_ref ts n s).2 = none := by rw [tk_rf1 B1]; exact fun w => by cases w
    exact flt (fun c j a1 a2 => hQ.2 _ _ a1) (fun _ _ _ => rfl) ⟨g, by rw [hQ.2 _ _ (by omega)]; exact E9, E10⟩ ht hQ.1 ((sq_step hv hl hB5 B1 B2 B3 B4 h2).1 ht)
