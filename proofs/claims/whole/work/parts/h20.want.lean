/-! ===== a turn of wantProperty ===== -/
theorem pp_ad_at {I : Nat → Nat → Int32} {C m : Nat} {k : Int32} : pp_ad I C m k (C + 1) m = k ∧ pp_ad I C m k (C + 4) m = Int32.ofNat 1 ∧ pp_ad I C m k (C + 5) m = Int32.ofNat 0 ∧ pp_ad I C m k C 8 = Int32.ofNat (m + 1) := by
  unfold pp_ad
  refine ⟨?_, ?_, ?_, wv_u_at _ _ _ _⟩
  · rw [wv_u_no _ _ (by omega), wv_u_no _ _ (by omega), wv_u_no _ _ (by omega), wv_u_at]
  · rw [wv_u_no _ _ (by omega), wv_u_no _ _ (by omega), wv_u_at]
    rfl
  · rw [wv_u_no _ _ (by omega), wv_u_at]
    rfl
theorem pp_al_at {L : Nat → Nat → Int64} {C m : Nat} : pp_al L C m (C + 2) m = 0 ∧ pp_al L C m (C + 3) m = 0 := by
  unfold pp_al
  exact ⟨by rw [wv_u_no _ _ (by omega), wv_u_at]; rfl, by rw [wv_u_at]; rfl⟩
theorem pp_cl_at {L : Nat → Nat → Int64} {C m : Nat} {y : Int64} : pp_cl L C m y (C + 2) m = y ∧ pp_cl L C m y (C + 3) m = 0 := by
  unfold pp_cl
  exact ⟨by rw [wv_u_no _ _ (by omega), wv_u_at], by rw [wv_u_at]; rfl⟩
theorem nb_zu {u : Nat} (hu : u < 64) : nb 0 u = false := nb_z.mp rfl u hu
set_option maxHeartbeats 4000000 in
/-- a turn of wantProperty -/
theorem turn_want {ts : List wt_t} {n C : Nat} {fin : ap_S} {T0 : wv_T} {N0 N nc ns k : Nat} {I0 I : Nat → Nat → Int32} {L0 L : Nat → Nat → Int64} {R0 R : Nat → Nat → Option Nat} {T : wv_T} {S : rn_N} {fr : List ap_F} {o : Nat} {s : wt_q} {sq : List Nat} {P : pd_P} {ps : List (Nat × Bool)} {f : Nat} {q : wv_Q} (hv : ∀ y, y ∈ ts → pr_vt y) (hl : ts.length ≤ 401) (hw : ∀ i, i ≤ ts.length → wl ts i ≤ n + 1) (hn4 : n ≤ 400) (hC : C = 28 ∨ C = 124 ∨ C = 220 ∨ C = 346) (hG : cg_T C T0 N0 R0 T N R nc ns) (h : cg_I C T0 I0 L0 R0 T I L) (hA : cr_A ts n C fin T I L R k nc S fr none o s sq P ps f) (hq : ∀ I1 L1, CR ts n C fin T0 N0 I0 L0 R0 (k + 1) T N I1 L1 R nc ns → q (.inl none) T N I1 L1 R 0 0) : pj_c114 [.ref 9, .ref C] T N I L R q := by
  have hA0 := hA
  obtain ⟨A1, A2, A3, A4, A5, A6, A7, A8, A9, A10, A11, A12, A13, A14, A15, A16⟩ := hA
  obtain ⟨G1, G2, G3, G4, G5, G6, G7, G8, G9⟩ := hG
  have hG0 : cg_T C T0 N0 R0 T N R nc ns := ⟨G1, G2, G3, G4, G5, G6, G7, G8, G9⟩
  obtain ⟨gg, hgg, hgg6⟩ := h.2.2.2.1
  have hLW := h.2.2.1
  have hsl := A4.2.2.2.2.2.2.2.1
  have hws := hw s.1 hsl
  have A13 : 3 * pd_m P ≤ wl ts s.1 + pq_w ps + 0 := A13
  have A14 : 6 * sq.length ≤ wl ts s.1 + 0 := A14
  have hpl := cR_len A5
  have hpw := pq_w_le ps
  have hoo := A4.2.2.2.2.1
  have ho20 := A4.2.2.2.2.2.1
  have hm : pd_m P < 155 := by omega
  have h8 := A6.1
  have h3n : 3 * nc ≤ n + 1 := by omega
  have hk402 : k + 1 ≤ 402 := by omega
  have c2e : ∀ a b : Int32, a.toInt = b.toInt → a = b := fun a b e => wi_eq.mpr e
  have flt : ∀ {s2 : wt_q} {I1 : Nat → Nat → Int32} {L1 : Nat → Nat → Int64} {m2 : Nat}, (∀ c j, ¬ (c = 1 ∧ (j = 8 ∨ j = 9)) → ¬ (9 ≤ c ∧ c ≤ 21) → ¬ (C ≤ c ∧ c < C + 76) → I1 c j = I c j) → (∀ c j, ¬ (9 ≤ c ∧ c ≤ 21) → ¬ (C ≤ c ∧ c < C + 76) → L1 c j = L c j) → (∃ g, I1 9 11 = Int32.ofNat g ∧ g < 64) → ¬ s2.2 = none → wt_K I1 L1 ts n s2.1 s2.2 → (ap_t fin).2 = s2.2 → I1 C 8 = Int32.ofNat m2 → m2 ≤ 155 → q (.inl none) T N I1 L1 R 0 0 := fun a1 a2 a3 a4 a5 a6 a7 a8 => hq _ _ (cw_fault hC hG0 h a1 a2 a3 a4 a5 a6 a7 a8 hk402 h3n)
  have hfr1 : ∀ {kk t l : Nat} {c d : Nat → Bool} {a : nt_A} {S2 : rn_N} {f1 : ap_F} {ps2 : List (Nat × Bool)}, rn_E S S2 → (∀ Q pa pb fp, cp_fr (pd_up P (pd_m P + 1) (pd_m P) kk c d t l a) S2 Q pa pb fr ps fp (pd_m P) → (∀ i, i ∈ fp → i < pd_m P) → cp_fr (pd_up P (pd_m P + 1) (pd_m P) kk c d t l a) S2 Q pa pb (f1 :: fr) ps2 (pd_m P :: fp) (pd_m P + 1)) → cR (pd_up P (pd_m P + 1) (pd_m P) kk c d t l a) ps2 S2 (f1 :: fr) none := fun hS hf => cR_frame A5 hS (fun i hi => pd_up_no (by omega)) rfl hf
  refine ⟨ts, n, C, pd_m P, s, rfl, G1, A9, G3, by omega, by omega, h8, hm, fun h26 I1 hK1 hF => ?_, fun h27 I1 hQ1 => ?_, fun h28 => ?_, fun h15 => ?_, fun h13 => ?_, fun hno => ?_⟩
  · have w : tk_now ts s = (Int8.ofInt 26).toInt32 := c2e _ _ h26
    obtain ⟨b1, b2, b3⟩ := tk_ad1 (s := s) (ts := ts) (by rw [w]; decide)
    have hwl := wl_adv w (by decide)
    have e6 : tl ((Int8.ofInt 26).toInt32) = 6 := rfl
    have he : ap_1 ts n (S, fr, none, o, s, sq, false) = (S, (10, 0, 0) :: fr, none, o, tk_adv ts s, sq, false) := (if_pos w : ap_b ts n S fr o s sq = _)
    obtain ⟨p1, p2, p3, p4⟩ := pp_ad_at (I := I) (C := C) (m := pd_m P) (k := Int32.ofInt 5)
    have b21 : (tk_adv ts s).1 = s.1 + 1 := by rw [b2]
    refine hq I1 _ (cw_add (kk := 5) (t := 1) (l := 0) (c := fun _ => false) (d := fun _ => false) (a := nt_cond (fun _ => false)) hv hl hw hn4 hC hG0 h hA0 he (by rw [b2]) (hfr1 (rn_E_id S) (fun Q pa pb fp hc hlt => ⟨pd_m P, fp, rfl, by omega, hlt, Or.inl ⟨rfl, pd_up_at.1, rfl, hc⟩⟩)) (by omega) (fun e j a1 a2 a3 a4 => by rw [hF e j a1]; exact pp_ad_no a3 a4) (fun e j a => pp_al_no a) ⟨gg, by rw [hF _ _ (by omega), pp_ad_no (by omega) (by omega)]; exact hgg, hgg6⟩ (by rw [hF _ _ (by omega)]; exact p4) ⟨by rw [hF _ _ (by omega)]; exact p1, by omega, by rw [hF _ _ (by omega)]; exact p2, by omega, by rw [hF _ _ (by omega)]; exact p3, by omega, fun u hu => by rw [pp_al_at.1]; exact nb_zu hu, fun u hu => by rw [pp_al_at.2]; exact nb_zu hu⟩ (pq_P_c A7 (by rw [hF _ _ (by omega), pp_ad_no (by omega) (by omega)]) (fun c k hc => by rw [hF _ _ (by omega), pp_ad_no (by omega) (by omega)])) hK1 ⟨by rw [hF _ _ (by omega), pp_ad_no (by omega) (by omega)]; exact A10.1, by decide, trivial⟩ (by rw [hF _ _ (by omega), pp_ad_no (by omega) (by omega)]; exact A11) (by rw [hF _ _ (by omega), pp_ad_no (by omega) (by omega)]; exact A12) ?_ ?_ ?_)
    · show 3 * (pd_m P + 1) ≤ wl ts (tk_adv ts s).1 + pq_w ps + 0
      rw [b21]
      omega
    · show 6 * sq.length ≤ wl ts (tk_adv ts s).1 + 0
      rw [b21]
      omega
    · rw [b21]
      exact Nat.le_refl _
  · have w : tk_now ts s = (Int8.ofInt 27).toInt32 := c2e _ _ h27
    obtain ⟨a1', a2', a3'⟩ := tk_ad1 (s := s) (ts := ts) (by rw [w]; decide)
    have a21 : (tk_adv ts s).1 = s.1 + 1 := by rw [a2']
    have a22 : (tk_adv ts s).2 = none := by rw [a2']
    have he : ap_1 ts n (S, fr, none, o, s, sq, false) = ap_nv ts n S fr o (tk_adv ts s) sq := by
      show ap_b ts n S fr o s sq = _
      unfold ap_b
      rw [if_neg (by rw [w]; decide), if_neg (by rw [w]; decide), if_pos w]
    obtain ⟨p1, p2, p3, p4⟩ := pp_ad_at (I := I1) (C := C) (m := pd_m P) (k := ((Int8.ofInt 6).toInt32))
    refine ⟨ts, n, C, pd_m P, o, (tk_adv ts s), _, rfl, G1, hQ1.1, G3, by omega, by omega, by rw [hQ1.2 _ _ (by omega)]; exact h8, hm, ⟨by rw [hQ1.2 _ _ (by omega)]; exact A10.1, by decide, trivial⟩, by rw [hQ1.2 _ _ (by omega)]; exact A11, ho20, fun z J hK1 h11 hF => ?_, fun z J hK1 hJ1 hW1 h71 h81 h91 h101 h111 hF => ?_⟩
    · have ht : ¬ (tk_ref ts n (tk_adv ts s)).2 = none := by rw [tk_rf1 a22]; exact fun w => by cases w
      have hfin : (ap_t fin).2 = (tk_ref ts n (tk_adv ts s)).2 := by
        by_cases c13 : tk_now ts (tk_adv ts s) = (Int8.ofInt 13).toInt32
        · have hfo : ¬ o < 20 := fun w2 => z ⟨c13, w2⟩
          have e1 : sq_fin ts n o S (tk_adv ts s) = (S, [0], [], o + 1, tk_ref ts n (tk_adv ts s), true) := by
            unfold sq_fin sq_0
            rw [if_neg hfo, sm_run_no (fun w => ht (sm_go_iff.mp w).2)]
          have he2 := he.trans (if_pos c13)
          rw [e1] at he2
          exact (ap_step hv hl A4 A1 A2 A3 he2).1 ht
        · exact (ap_step hv hl A4 A1 A2 A3 (he.trans (if_neg c13))).1 ht
      refine flt (s2 := tk_ref ts n (tk_adv ts s)) (m2 := pd_m P + 1) (fun c j a1 a2 a3 => by rw [hF c j a1 (by omega) (by omega) (by omega), pp_ad_no (by omega) (by omega), hQ1.2 _ _ a1]) (fun c j a1 a2 => pp_al_no (by omega)) ⟨0, h11, by omega⟩ ht hK1 hfin (by rw [hF _ _ (by omega) (by omega) (by omega) (by omega)]; exact p4) (by omega)
    · obtain ⟨z1, z2⟩ := z
      obtain ⟨d1, d2, d3⟩ := tk_ad1 (s := (tk_adv ts s)) (ts := ts) (by rw [z1]; decide)
      have hSI := sq_0_I (n := n) (e := fr.length) A4.1 z1 z2 (by rw [a21]; have := A4.2.2.2.2.2.2.1; omega)
      have d21 : (tk_adv ts ((tk_adv ts s))).1 = ((tk_adv ts s)).1 + 1 := by rw [d2]
      have jF : ∀ c j, ¬ (c = 1 ∧ (j = 8 ∨ j = 9)) → ¬ (9 ≤ c ∧ c ≤ 18) → ¬ c = 21 → ¬ (c = C ∧ j = 8) → ¬ ((c = C + 1 ∨ c = C + 4 ∨ c = C + 5) ∧ j = pd_m P) → J c j = I c j := fun c j a1 a2 a3 a4 a5 => by rw [hF c j a1 (by omega) (by omega) (by omega) a3, pp_ad_no a4 a5, hQ1.2 _ _ a1]
      have jp : J 9 5 = I 9 5 := by rw [hF _ _ (by omega) (by omega) (by omega) (by omega) (by omega), pp_ad_no (by omega) (by omega), hQ1.2 _ _ (by omega)]
      have hsq : sq.length ≤ 67 := by omega
      refine hq J _ ⟨hG0, cg_I_c hC hG0 h (fun c j a1 a2 a3 => jF c j a1 (by omega) (by omega) (by omega) (by omega)) (fun c j a1 a2 => pp_al_no (by omega)) ⟨0, h111, by omega⟩, Or.inr (Or.inr (Or.inr ⟨S, fr, o, s, (tk_adv ts s), sq, P, ps, f, 6, S, [0], [], o + 1, tk_adv ts ((tk_adv ts s)), true, 402, 0, false, ⟨A1, A2, A3, A4, A5, ⟨by rw [hF _ _ (by omega) (by omega) (by omega) (by omega) (by omega)]; exact p4, by omega, by omega, fun i hi => pq_1_c (A6.2.2.2 i hi) (fun c hc => jF c i (by omega) (by omega) (by omega) (by omega) (by omega)) (fun c hc => pp_al_no (by omega)) pd_E_id⟩, pq_P_c A7 jp (fun c k hc => jF c k (by omega) (by omega) (by omega) (by omega) (by omega)), ?_⟩, Or.inr ⟨rfl, rfl, w, z1⟩, ⟨A13, A14, A16, ?_, ?_⟩, ⟨by rw [hF _ _ (by omega) (by omega) (by omega) (by omega) (by omega)]; exact p1, by rw [hF _ _ (by omega) (by omega) (by omega) (by omega) (by omega)]; exact p2, by rw [hF _ _ (by omega) (by omega) (by omega) (by omega) (by omega)]; exact p3, pp_al_at.1, pp_al_at.2⟩, ⟨by rw [d2], by simp, ?_, by omega, hSI, rn_E_id S, fun y hy => absurd hy (by simp)⟩, hK1, hJ1, hW1, ⟨(fun z => by cases z), fun y hy => absurd hy (by simp)⟩, h71, h81, h91, h101, h111, by omega⟩))⟩
      · obtain ⟨s1, s2, s3⟩ := A8
        refine ⟨by rw [jF _ _ (by omega) (by omega) (by omega) (by omega) (by omega)]; exact s1, fun q2 y hq2 => ?_, s3⟩
        obtain ⟨y1, g, y2, y3⟩ := s2 q2 y hq2
        have hql : q2 < sq.length := (List.getElem?_eq_some_iff.mp hq2).1
        refine ⟨y1, g, sq_D_c y2 (fun j => jF _ _ (by omega) (by omega) (by omega) (by omega) (by omega)) (fun j => pp_al_no (by omega)) rfl (fun _ _ => rfl) (fun B len hB1 hB2 hB3 j => ?_), y3⟩
        obtain ⟨b1', b2'⟩ := pq_O_B (e := C + 9 + q2) G4 hC (by omega) (by omega) hB1 hB2 hB3
        exact pp_al_no (by omega)
      · rw [d21]
        rw [a21]; omega
      · rw [d21]
        exact Nat.le_refl _
      · unfold sq_fin sq_0
        rw [if_pos z2]
  · have w : tk_now ts s = (Int8.ofInt 28).toInt32 := c2e _ _ h28
    obtain ⟨b1, b2, b3⟩ := tk_ad1 (s := s) (ts := ts) (by rw [w]; decide)
    have b21 : (tk_adv ts s).1 = s.1 + 1 := by rw [b2]
    have hwl := wl_adv w (by decide)
    have e4 : tl ((Int8.ofInt 28).toInt32) = 4 := rfl
    have hwl2 : wl ts (tk_adv ts s).1 = wl ts s.1 + 4 := by rw [b21, hwl, e4]
    obtain ⟨p1, p2, p3, p4⟩ := pp_ad_at (I := I) (C := C) (m := pd_m P) (k := (Int8.ofInt 7).toInt32)
    have he : ap_1 ts n (S, fr, none, o, s, sq, false) = (S, (12, 0, ap_c ts s) :: fr, none, o, ap_cs ts s, sq, false) := by
      show ap_b ts n S fr o s sq = _
      unfold ap_b
      rw [if_neg (by rw [w]; decide), if_pos w]
    refine ⟨ts, n, C, pd_m P, s, rfl, G1, A9, G3, by omega, by omega, h8, hm, fun w25 I1 hK1 hF => ?_, fun w25 I1 hK1 hF => ?_⟩
    · have ec : ap_c ts s = 1 := if_neg w25
      have es : ap_cs ts s = tk_adv ts s := if_neg w25
      rw [ec, es] at he
      have hF2 : ∀ e j, ¬ (e = 1 ∧ (j = 8 ∨ j = 9)) → ¬ (e = C + 4 ∧ j = pd_m P) → I1 e j = pp_ad I C (pd_m P) ((Int8.ofInt 7).toInt32) e j := fun e j a1 a2 => by rw [hF e j a1]
      have f4 : I1 (C + 4) (pd_m P) = Int32.ofNat (1) := by rw [hF _ _ (by omega)]; exact p2
      refine hq I1 _ (cw_add (kk := 7) (t := 1) (l := 0) (c := fun _ => false) (d := fun _ => false) (a := nt_cond (fun _ => false)) hv hl hw hn4 hC hG0 h hA0 he (by rw [b2]) (hfr1 (rn_E_id S) (fun Q pa pb fp hc hlt => ⟨pd_m P, fp, rfl, by omega, hlt, Or.inr (Or.inl ⟨rfl, pd_up_at.1, pd_up_at.2.2.2.1, rfl, hc⟩)⟩)) (by omega) (fun e j a1 a2 a3 a4 => by rw [hF2 e j a1 (by omega)]; exact pp_ad_no a3 a4) (fun e j a => pp_al_no a) ⟨gg, by rw [hF2 _ _ (by omega) (by omega), pp_ad_no (by omega) (by omega)]; exact hgg, hgg6⟩ (by rw [hF2 _ _ (by omega) (by omega)]; exact p4) ⟨by rw [hF2 _ _ (by omega) (by omega)]; exact p1, by omega, f4, by omega, by rw [hF2 _ _ (by omega) (by omega)]; exact p3, by omega, fun u hu => by rw [pp_al_at.1]; exact nb_zu hu, fun u hu => by rw [pp_al_at.2]; exact nb_zu hu⟩ (pq_P_c A7 (by rw [hF2 _ _ (by omega) (by omega), pp_ad_no (by omega) (by omega)]) (fun c k hc => by rw [hF2 _ _ (by omega) (by omega), pp_ad_no (by omega) (by omega)])) hK1 ⟨by rw [hF2 _ _ (by omega) (by omega), pp_ad_no (by omega) (by omega)]; exact A10.1, by decide, trivial⟩ (by rw [hF2 _ _ (by omega) (by omega), pp_ad_no (by omega) (by omega)]; exact A11) (by rw [hF2 _ _ (by omega) (by omega), pp_ad_no (by omega) (by omega)]; exact A12) ?_ ?_ ?_)
      · show 3 * (pd_m P + 1) ≤ wl ts (tk_adv ts s).1 + pq_w ps + 0
        omega
      · show 6 * sq.length ≤ wl ts (tk_adv ts s).1 + 0
        omega
      · omega
    · have ec : ap_c ts s = (tk_low ts (tk_adv ts s).1).toNatClampNeg := if_pos w25
      have es : ap_cs ts s = tk_adv ts (tk_adv ts s) := if_pos w25
      rw [ec, es] at he
      obtain ⟨a, b, ha, hb, e1, e2⟩ := tk_ct (s := tk_adv ts s) hv (by rw [w25]; decide)
      obtain ⟨x1, x2, x3⟩ := tk_ad1 (s := tk_adv ts s) (ts := ts) (by rw [w25]; decide)
      have x21 : (tk_adv ts (tk_adv ts s)).1 = s.1 + 2 := by rw [x2, b21]
      have hw2 := wl_mono (ts := ts) (i := s.1 + 1) (j := (tk_adv ts (tk_adv ts s)).1) (by omega) (by rw [x21]; rw [b21] at x3; exact x3)
      have hF2 : ∀ e j, ¬ (e = 1 ∧ (j = 8 ∨ j = 9)) → ¬ (e = C + 4 ∧ j = pd_m P) → I1 e j = pp_ad I C (pd_m P) ((Int8.ofInt 7).toInt32) e j := fun e j a1 a2 => by rw [hF e j a1]; exact wv_u_no _ _ a2
      have f4 : I1 (C + 4) (pd_m P) = Int32.ofNat ((tk_low ts (tk_adv ts s).1).toNatClampNeg) := by rw [hF _ _ (by omega), wv_u_at, e1, wi_onn (by omega)]
      refine hq I1 _ (cw_add (kk := 7) (t := (tk_low ts (tk_adv ts s).1).toNatClampNeg) (l := 0) (c := fun _ => false) (d := fun _ => false) (a := nt_cond (fun _ => false)) hv hl hw hn4 hC hG0 h hA0 he (by rw [x2]) (hfr1 (rn_E_id S) (fun Q pa pb fp hc hlt => ⟨pd_m P, fp, rfl, by omega, hlt, Or.inr (Or.inl ⟨rfl, pd_up_at.1, pd_up_at.2.2.2.1, rfl, hc⟩)⟩)) (by omega) (fun e j a1 a2 a3 a4 => by rw [hF2 e j a1 (by omega)]; exact pp_ad_no a3 a4) (fun e j a => pp_al_no a) ⟨gg, by rw [hF2 _ _ (by omega) (by omega), pp_ad_no (by omega) (by omega)]; exact hgg, hgg6⟩ (by rw [hF2 _ _ (by omega) (by omega)]; exact p4) ⟨by rw [hF2 _ _ (by omega) (by omega)]; exact p1, by omega, f4, by rw [e1, wi_onn (by omega)]; omega, by rw [hF2 _ _ (by omega) (by omega)]; exact p3, by omega, fun u hu => by rw [pp_al_at.1]; exact nb_zu hu, fun u hu => by rw [pp_al_at.2]; exact nb_zu hu⟩ (pq_P_c A7 (by rw [hF2 _ _ (by omega) (by omega), pp_ad_no (by omega) (by omega)]) (fun c k hc => by rw [hF2 _ _ (by omega) (by omega), pp_ad_no (by omega) (by omega)])) hK1 ⟨by rw [hF2 _ _ (by omega) (by omega), pp_ad_no (by omega) (by omega)]; exact A10.1, by decide, trivial⟩ (by rw [hF2 _ _ (by omega) (by omega), pp_ad_no (by omega) (by omega)]; exact A11) (by rw [hF2 _ _ (by omega) (by omega), pp_ad_no (by omega) (by omega)]; exact A12) ?_ ?_ ?_)
      · show 3 * (pd_m P + 1) ≤ wl ts (tk_adv ts (tk_adv ts s)).1 + pq_w ps + 0
        omega
      · show 6 * sq.length ≤ wl ts (tk_adv ts (tk_adv ts s)).1 + 0
        omega
      · omega
  · have w : tk_now ts s = (Int8.ofInt 15).toInt32 := c2e _ _ h15
    obtain ⟨b1, b2, b3⟩ := tk_ad1 (s := s) (ts := ts) (by rw [w]; decide)
    have b21 : (tk_adv ts s).1 = s.1 + 1 := by rw [b2]
    have hwl := wl_adv w (by decide)
    have e1 : tl ((Int8.ofInt 15).toInt32) = 1 := rfl
    have hwl2 : wl ts (tk_adv ts s).1 = wl ts s.1 + 1 := by rw [b21, hwl, e1]
    obtain ⟨p1, p2, p3, p4⟩ := pp_ad_at (I := I) (C := C) (m := pd_m P) (k := (Int8.ofInt 10).toInt32)
    have he : ap_1 ts n (S, fr, none, o, s, sq, false) = (if o < 20 then (S, (29, 0, 0) :: fr, none, o + 1, tk_adv ts s, sq, false) else (S, fr, none, o, tk_ref ts n s, sq, false)) := by
      show ap_b ts n S fr o s sq = _
      unfold ap_b
      rw [if_neg (by rw [w]; decide), if_neg (by rw [w]; decide), if_neg (by rw [w]; decide), if_neg (by rw [w]; decide), if_pos w]
    refine ⟨ts, n, C, pd_m P, s, rfl, G1, A9, G3, by omega, by omega, h8, hm, o, ps.length, A11, ho20, A7.1, by omega, fun hno I1 hQ1 => ?_, fun hyo I1 hK1 h19 h20 h5 h7 hF => ?_⟩
    · rw [if_neg hno] at he
      have ht : ¬ (tk_ref ts n s).2 = none := by rw [tk_rf1 A1]; exact fun w => by cases w
      exact flt (s2 := tk_ref ts n s) (m2 := pd_m P) (fun c j a1 a2 a3 => hQ1.2 _ _ a1) (fun c j a1 a2 => rfl) ⟨gg, by rw [hQ1.2 _ _ (by omega)]; exact hgg, hgg6⟩ ht hQ1.1 ((ap_step hv hl A4 A1 A2 A3 he).1 ht) (by rw [hQ1.2 _ _ (by omega)]; exact h8) (by omega)
    · rw [if_pos hyo] at he
      refine hq I1 _ (cw_add (kk := 10) (t := 1) (l := 0) (c := fun _ => false) (d := fun _ => false) (a := nt_cond (fun _ => false)) (ps2 := (pd_m P, true) :: ps) hv hl hw hn4 hC hG0 h hA0 he (by rw [b2]) (hfr1 (rn_E_id S) (fun Q pa pb fp hc hlt => ⟨pd_m P, fp, rfl, by omega, hlt, Or.inr (Or.inr (Or.inr (Or.inr (Or.inr (Or.inl ⟨rfl, pd_up_at.1, rfl, ps, rfl, hc⟩)))))⟩)) (by omega) (fun e j a1 a2 a3 a4 => by rw [hF e j a1 (by omega) (by omega)]; exact pp_ad_no a3 a4) (fun e j a => pp_al_no a) ⟨gg, by rw [hF _ _ (by omega) (by omega) (by omega), pp_ad_no (by omega) (by omega)]; exact hgg, hgg6⟩ (by rw [hF _ _ (by omega) (by omega) (by omega)]; exact p4) ⟨by rw [hF _ _ (by omega) (by omega) (by omega)]; exact p1, by omega, by rw [hF _ _ (by omega) (by omega) (by omega)]; exact p2, by omega, by rw [hF _ _ (by omega) (by omega) (by omega)]; exact p3, by omega, fun u hu => by rw [pp_al_at.1]; exact nb_zu hu, fun u hu => by rw [pp_al_at.2]; exact nb_zu hu⟩ ⟨h5, h19, h20, pq_s_c A7.2 (fun c k hc hk => by rw [hF _ _ (by omega) (by omega) (by omega), pp_ad_no (by omega) (by omega)])⟩ hK1 ⟨by rw [hF _ _ (by omega) (by omega) (by omega), pp_ad_no (by omega) (by omega)]; exact A10.1, by decide, trivial⟩ h7 (by rw [hF _ _ (by omega) (by omega) (by omega), pp_ad_no (by omega) (by omega)]; exact A12) ?_ ?_ ?_)
      · show 3 * (pd_m P + 1) ≤ wl ts (tk_adv ts s).1 + (2 + pq_w ps) + 0
        omega
      · show 6 * sq.length ≤ wl ts (tk_adv ts s).1 + 0
        omega
      · omega
  · have w : tk_now ts s = (Int8.ofInt 13).toInt32 := c2e _ _ h13
    have he : ap_1 ts n (S, fr, none, o, s, sq, false) = ap_sq ts fr sq (sq_fin ts n o S s) := by
      show ap_b ts n S fr o s sq = _
      unfold ap_b
      rw [if_neg (by rw [w]; decide), if_neg (by rw [w]; decide), if_neg (by rw [w]; decide), if_pos w]
    obtain ⟨p1, p2, p3, p4⟩ := pp_ad_at (I := I) (C := C) (m := pd_m P) (k := (Int32.ofInt 1))
    refine ⟨ts, n, C, pd_m P, o, s, _, rfl, G1, A9, G3, by omega, by omega, h8, hm, ⟨A10.1, by decide, trivial⟩, A11, ho20, fun z J hK1 h11 hF => ?_, fun z J hK1 hJ1 hW1 h71 h81 h91 h101 h111 hF => ?_⟩
    · have ht : ¬ (tk_ref ts n s).2 = none := by rw [tk_rf1 A1]; exact fun w => by cases w
      have hfin : (ap_t fin).2 = (tk_ref ts n s).2 := by
        have hfo : ¬ o < 20 := fun w2 => z ⟨w, w2⟩
        have e1 : sq_fin ts n o S s = (S, [0], [], o + 1, tk_ref ts n s, true) := by
          unfold sq_fin sq_0
          rw [if_neg hfo, sm_run_no (fun w => ht (sm_go_iff.mp w).2)]
        have he2 : ap_1 ts n (S, fr, none, o, s, sq, false) = (rn_m S (61, 0, 0, 0, 0), fr, some (rn_n S), o + 1, tk_ref ts n s, sq ++ [0], false) := by
          rw [he, e1]
          unfold ap_sq
          rw [if_neg (by rw [tk_now_f ht]; decide), if_neg (by rw [tk_now_f ht]; decide)]
          rfl
        exact (ap_step hv hl A4 A1 A2 A3 he2).1 ht
      refine flt (s2 := tk_ref ts n s) (m2 := pd_m P + 1) (fun c j a1 a2 a3 => by rw [hF c j a1 (by omega) (by omega) (by omega), pp_ad_no (by omega) (by omega)]) (fun c j a1 a2 => pp_al_no (by omega)) ⟨0, h11, by omega⟩ ht hK1 hfin (by rw [hF _ _ (by omega) (by omega) (by omega) (by omega)]; exact p4) (by omega)
    · obtain ⟨z1, z2⟩ := z
      obtain ⟨d1, d2, d3⟩ := tk_ad1 (s := s) (ts := ts) (by rw [z1]; decide)
      have hSI := sq_0_I (n := n) (e := fr.length) A4.1 z1 z2 (A4.2.2.2.2.2.2.1)
      have d21 : (tk_adv ts (s)).1 = (s).1 + 1 := by rw [d2]
      have jF : ∀ c j, ¬ (c = 1 ∧ (j = 8 ∨ j = 9)) → ¬ (9 ≤ c ∧ c ≤ 18) → ¬ c = 21 → ¬ (c = C ∧ j = 8) → ¬ ((c = C + 1 ∨ c = C + 4 ∨ c = C + 5) ∧ j = pd_m P) → J c j = I c j := fun c j a1 a2 a3 a4 a5 => by rw [hF c j a1 (by omega) (by omega) (by omega) a3, pp_ad_no a4 a5]
      have jp : J 9 5 = I 9 5 := by rw [hF _ _ (by omega) (by omega) (by omega) (by omega) (by omega), pp_ad_no (by omega) (by omega)]
      have hsq : sq.length ≤ 67 := by omega
      refine hq J _ ⟨hG0, cg_I_c hC hG0 h (fun c j a1 a2 a3 => jF c j a1 (by omega) (by omega) (by omega) (by omega)) (fun c j a1 a2 => pp_al_no (by omega)) ⟨0, h111, by omega⟩, Or.inr (Or.inr (Or.inr ⟨S, fr, o, s, s, sq, P, ps, f, 1, S, [0], [], o + 1, tk_adv ts (s), true, 402, 0, false, ⟨A1, A2, A3, A4, A5, ⟨by rw [hF _ _ (by omega) (by omega) (by omega) (by omega) (by omega)]; exact p4, by omega, by omega, fun i hi => pq_1_c (A6.2.2.2 i hi) (fun c hc => jF c i (by omega) (by omega) (by omega) (by omega) (by omega)) (fun c hc => pp_al_no (by omega)) pd_E_id⟩, pq_P_c A7 jp (fun c k hc => jF c k (by omega) (by omega) (by omega) (by omega) (by omega)), ?_⟩, Or.inl ⟨rfl, rfl, w⟩, ⟨A13, A14, A16, ?_, ?_⟩, ⟨by rw [hF _ _ (by omega) (by omega) (by omega) (by omega) (by omega)]; exact p1, by rw [hF _ _ (by omega) (by omega) (by omega) (by omega) (by omega)]; exact p2, by rw [hF _ _ (by omega) (by omega) (by omega) (by omega) (by omega)]; exact p3, pp_al_at.1, pp_al_at.2⟩, ⟨by rw [d2], by simp, ?_, by omega, hSI, rn_E_id S, fun y hy => absurd hy (by simp)⟩, hK1, hJ1, hW1, ⟨(fun z => by cases z), fun y hy => absurd hy (by simp)⟩, h71, h81, h91, h101, h111, by omega⟩))⟩
      · obtain ⟨s1, s2, s3⟩ := A8
        refine ⟨by rw [jF _ _ (by omega) (by omega) (by omega) (by omega) (by omega)]; exact s1, fun q2 y hq2 => ?_, s3⟩
        obtain ⟨y1, g, y2, y3⟩ := s2 q2 y hq2
        have hql : q2 < sq.length := (List.getElem?_eq_some_iff.mp hq2).1
        refine ⟨y1, g, sq_D_c y2 (fun j => jF _ _ (by omega) (by omega) (by omega) (by omega) (by omega)) (fun j => pp_al_no (by omega)) rfl (fun _ _ => rfl) (fun B len hB1 hB2 hB3 j => ?_), y3⟩
        obtain ⟨b1', b2'⟩ := pq_O_B (e := C + 9 + q2) G4 hC (by omega) (by omega) hB1 hB2 hB3
        exact pp_al_no (by omega)
      · rw [d21]
        omega
      · rw [d21]
        exact Nat.le_refl _
      · unfold sq_fin sq_0
        rw [if_pos z2]
  · have n26 : ¬ tk_now ts s = (Int8.ofInt 26).toInt32 := fun z => hno (by rw [z]; exact Or.inr (Or.inr ⟨by decide, by decide⟩))
    have n28 : ¬ tk_now ts s = (Int8.ofInt 28).toInt32 := fun z => hno (by rw [z]; exact Or.inr (Or.inr ⟨by decide, by decide⟩))
    have n27 : ¬ tk_now ts s = (Int8.ofInt 27).toInt32 := fun z => hno (by rw [z]; exact Or.inr (Or.inr ⟨by decide, by decide⟩))
    have n13 : ¬ tk_now ts s = (Int8.ofInt 13).toInt32 := fun z => hno (by rw [z]; exact Or.inl (by decide))
    have n15 : ¬ tk_now ts s = (Int8.ofInt 15).toInt32 := fun z => hno (by rw [z]; exact Or.inr (Or.inl (by decide)))
    have he : ap_1 ts n (S, fr, none, o, s, sq, false) = ap_cd ts n S fr o s sq := by
      show ap_b ts n S fr o s sq = _
      unfold ap_b
      rw [if_neg n26, if_neg n28, if_neg n27, if_neg n13, if_neg n15]
    unfold ap_cd at he
    obtain ⟨c1, c2, c3⟩ := cd_all_b (n := n) hl hsl
    have kE : rn_E S (sm_c ts n S s) := rn_E_mk
    refine ⟨ts, n, C, pd_m P, s, rfl, G1, A9, G3, by omega, by omega, h8, hm, hLW, hv, ⟨gg, hgg, hgg6⟩, fun hcf g2 I1 hK1 hF h11 hg2 => ?_, fun hcf w17 y g2 I1 hy hK1 h11 hg2 hF => ?_, fun hcf w17 y g2 I1 hy hK1 h11 hg2 h98 hF => ?_⟩
    · rw [if_neg (by rw [tk_now_f hcf]; decide)] at he
      exact flt (s2 := (cd_all ts n s).2.2) (m2 := pd_m P) (fun c j a1 a2 a3 => hF _ _ a1 (by omega)) (fun c j a1 a2 => rfl) ⟨g2, h11, hg2⟩ hcf hK1 ((ap_step hv hl A4 A1 A2 A3 he).1 hcf) (by rw [hF _ _ (by omega) (by omega)]; exact h8) (by omega)
    · rw [if_pos w17] at he
      obtain ⟨b1, b2, b3⟩ := tk_ad1 (s := (cd_all ts n s).2.2) (ts := ts) (by rw [w17]; decide)
      have b21 : (tk_adv ts (cd_all ts n s).2.2).1 = (cd_all ts n s).2.2.1 + 1 := by rw [b2]
      have hwl := wl_adv w17 (by decide)
      have e1 : tl ((Int8.ofInt 17).toInt32) = 2 := rfl
      have c3 := c3 hcf
      have hw2 := wl_mono (ts := ts) (i := s.1) (j := (cd_all ts n s).2.2.1) c2 c1
      have hwl2 : wl ts (tk_adv ts (cd_all ts n s).2.2).1 = wl ts (cd_all ts n s).2.2.1 + 2 := by rw [b21, hwl, e1]
      obtain ⟨p1, p2, p3, p4⟩ := pp_ad_at (I := I) (C := C) (m := pd_m P) (k := Int32.ofInt 4)
      refine hq I1 _ (cw_add (kk := 4) (t := 1) (l := 0) (c := cd_h (cd_all ts n s)) (d := fun _ => false) (a := nt_cond (fun _ => false)) hv hl hw hn4 hC hG0 h hA0 he (by rw [b2]) (hfr1 kE (fun Q pa pb fp hc hlt => ⟨pd_m P, fp, rfl, by omega, hlt, Or.inr (Or.inr (Or.inl ⟨rfl, Nat.lt_succ_self _, pd_up_at.1, fun v _ => by rw [pd_up_at.2.1]; exact (congrFun sm_c_p.2 v).symm, rfl, hc⟩))⟩)) (by omega) (fun e j a1 a2 a3 a4 => by rw [hF e j a1 (by omega)]; exact pp_ad_no a3 a4) (fun e j a => by rw [pp_cl_no a]; exact pp_al_no a) ⟨g2, h11, hg2⟩ (by rw [hF _ _ (by omega) (by omega)]; exact p4) ⟨by rw [hF _ _ (by omega) (by omega)]; exact p1, by omega, by rw [hF _ _ (by omega) (by omega)]; exact p2, by omega, by rw [hF _ _ (by omega) (by omega)]; exact p3, by omega, fun u hu => by rw [pp_cl_at.1]; exact hy u hu, fun u hu => by rw [pp_cl_at.2]; exact nb_zu hu⟩ (pq_P_c A7 (by rw [hF _ _ (by omega) (by omega), pp_ad_no (by omega) (by omega)]) (fun c k hc => by rw [hF _ _ (by omega) (by omega), pp_ad_no (by omega) (by omega)])) hK1 ⟨by rw [hF _ _ (by omega) (by omega), pp_ad_no (by omega) (by omega)]; exact A10.1, by decide, trivial⟩ (by rw [hF _ _ (by omega) (by omega), pp_ad_no (by omega) (by omega)]; exact A11) (by rw [hF _ _ (by omega) (by omega), pp_ad_no (by omega) (by omega)]; exact A12) ?_ ?_ ?_)
      · show 3 * (pd_m P + 1) ≤ wl ts (tk_adv ts (cd_all ts n s).2.2).1 + pq_w ps + 0
        omega
      · show 6 * sq.length ≤ wl ts (tk_adv ts (cd_all ts n s).2.2).1 + 0
        omega
      · omega
    · rw [if_neg w17] at he
      have c3 := c3 hcf
      have hw2 := wl_mono (ts := ts) (i := s.1) (j := (cd_all ts n s).2.2.1) c2 c1
      obtain ⟨p1, p2, p3, p4⟩ := pp_ad_at (I := I) (C := C) (m := pd_m P) (k := Int32.ofInt 0)
      have k3 : rn_k (sm_c ts n S s) (rn_n S) = 60 := rn_mk_k
      have kd : rn_d (sm_c ts n S s) (rn_n S) = (60, 0, 0, 0, 0) := rn_mk_a.1
      have kn : rn_n (sm_c ts n S s) = rn_n S + 1 := rfl
      have hn0 : 0 < rn_n S ∨ rn_n S = 0 := by omega
      refine hq I1 _ (cw_add (kk := 0) (t := 1) (l := 0) (c := cd_h (cd_all ts n s)) (d := fun _ => false) (a := nt_cond (fun _ => false)) hv hl hw hn4 hC hG0 h hA0 he hcf ?_ (by omega) (fun e j a1 a2 a3 a4 => by rw [hF e j a1 (by omega)]; exact pp_ad_no a3 a4) (fun e j a => by rw [pp_cl_no a]; exact pp_al_no a) ⟨g2, h11, hg2⟩ (by rw [hF _ _ (by omega) (by omega)]; exact p4) ⟨by rw [hF _ _ (by omega) (by omega)]; exact p1, by omega, by rw [hF _ _ (by omega) (by omega)]; exact p2, by omega, by rw [hF _ _ (by omega) (by omega)]; exact p3, by omega, fun u hu => by rw [pp_cl_at.1]; exact hy u hu, fun u hu => by rw [pp_cl_at.2]; exact nb_zu hu⟩ (pq_P_c A7 (by rw [hF _ _ (by omega) (by omega), pp_ad_no (by omega) (by omega)]) (fun c k hc => by rw [hF _ _ (by omega) (by omega), pp_ad_no (by omega) (by omega)])) hK1 ⟨by rw [hF _ _ (by omega) (by omega), pp_ad_no (by omega) (by omega)]; exact A10.1, by decide, trivial⟩ (by rw [hF _ _ (by omega) (by omega), pp_ad_no (by omega) (by omega)]; exact A11) h98 ?_ ?_ ?_)
      · refine cR_leaf A5 kE (fun i hi => pd_up_no (by omega)) rfl ⟨Nat.le_refl _, Nat.lt_succ_self _⟩ (by rw [k3]; exact Or.inl rfl) ?_ ?_ ?_ ?_ (fun al bl ar br => ?_)
        · rw [kd]
          intro z
          have z : (60 : Nat) = 10 ∨ (60 : Nat) = 12 ∨ (60 : Nat) = 13 ∨ (60 : Nat) = 15 := z
          omega
        · rw [kd]
          intro z
          have z : (31 ≤ 60 ∧ 60 ≤ 33) ∨ (60 : Nat) = 15 := z
          omega
        · rw [kd]
          exact Nat.succ_pos _
        · rw [kd]
          exact Nat.succ_pos _
        · rw [kd]
          exact Or.inl ⟨rfl, pd_up_at.1, fun v _ => by rw [pd_up_at.2.1]; exact (congrFun sm_c_p.2 v).symm, rfl⟩
      · show 3 * (pd_m P + 1) ≤ wl ts (cd_all ts n s).2.2.1 + pq_w ps + 2
        omega
      · show 6 * sq.length ≤ wl ts (cd_all ts n s).2.2.1 + 3
        omega
      · omega
