/-! ===== behind a sequence ===== -/
/-- the property goes on behind a sequence -/
theorem ci_end {ts : List wt_t} {n C N0 N N1 nc ns nc2 ns2 k B len m0 : Nat} {fin : ap_S} {T0 T T1 : wv_T} {I0 I I1 : Nat → Nat → Int32} {L0 L L1 : Nat → Nat → Int64} {R0 R R1 : Nat → Nat → Option Nat} {S0 S2 : rn_N} {fr : List ap_F} {o0 : Nat} {s00 s0 s1 : wt_q} {sq : List Nat} {P : pd_P} {ps : List (Nat × Bool)} {f k0 g y : Nat} (hv : ∀ y, y ∈ ts → pr_vt y) (hl : ts.length ≤ 401) (hw : ∀ i, i ≤ ts.length → wl ts i ≤ n + 1) (hn4 : n ≤ 400) (hC : C = 28 ∨ C = 124 ∨ C = 220 ∨ C = 346) (hN : 536 ≤ N ∧ N < 1000000000) (hG : cg_T C T0 N0 R0 T N R nc ns) (h : cg_I C T0 I0 L0 R0 T I L) (hA : s00.2 = none ∧ ap_run ts n f (S0, fr, none, o0, s00, sq, false) = fin ∧ 3 * (402 - s00.1) + fr.length < f ∧ ap_I ts S0 fr none o0 s00 sq ∧ cR P ps S0 fr none ∧ pq_M I L C P (pd_m P + 1) ∧ pq_P I ps ∧ pq_S T I L R C S0 sq P) (Ak : (k0 = 1 ∧ s0 = s00 ∧ tk_now ts s00 = (Int8.ofInt 13).toInt32) ∨ (k0 = 6 ∧ s0 = tk_adv ts s00 ∧ tk_now ts s00 = (Int8.ofInt 27).toInt32 ∧ tk_now ts s0 = (Int8.ofInt 13).toInt32)) (hP : 3 * pd_m P ≤ wl ts s00.1 + pq_w ps ∧ 6 * sq.length ≤ wl ts s00.1 ∧ nc ≤ sq.length ∧ k + 1 ≤ s1.1 ∧ s00.1 + 3 ≤ s1.1 ∧ s1.1 ≤ ts.length ∧ s1.2 = none) (hM : I (C + 1) (pd_m P) = Int32.ofNat k0 ∧ I (C + 4) (pd_m P) = Int32.ofNat 1 ∧ L (C + 2) (pd_m P) = 0 ∧ L (C + 3) (pd_m P) = 0) (hfin : sq_fin ts n o0 S0 s0 = (S2, [], [y], o0, s1, false)) (hE : rn_E S0 S2) (hy : y < rn_n S2) (hni : ni_A g (rn_t S2 y)) (hc : sq.length < 67) (hm : pd_m P < 155) (hs : sq_T (C + 9 + sq.length) T N R T1 N1 R1 nc2 ns2) (hO : sq_O T R (C + 9 + sq.length) B len) (hF : cb_F C (pd_m P) (C + 9 + sq.length) B T I L I1 L1) (hD : sq_D T1 I1 L1 R1 (C + 9 + sq.length) (rn_t S2 y) (rn_w S2 y) g) (h11 : ∃ g, I1 9 11 = Int32.ofNat g ∧ g < 64) (hJ : pj_J I1 []) (h7 : I1 9 7 = Int32.ofNat o0) (h5 : I1 (C + 5) (pd_m P) = Int32.ofNat sq.length) (h9 : I1 C 9 = Int32.ofNat (sq.length + 1)) (hy1 : pp_J ts s1 (I (C + 1) (pd_m P)) → wt_K I1 L1 ts n (tk_adv ts s1).1 (tk_adv ts s1).2 ∧ I1 9 8 = Int32.ofInt 0 ∧ I1 (C + 1) (pd_m P) = (if tk_now ts s1 = (Int8.ofInt 18).toInt32 then Int32.ofInt 2 else Int32.ofInt 3)) (hn1 : ¬ pp_J ts s1 (I (C + 1) (pd_m P)) → wt_K I1 L1 ts n s1.1 s1.2 ∧ I1 9 8 = Int32.ofInt 1 ∧ I1 (C + 1) (pd_m P) = I (C + 1) (pd_m P)) : CR ts n C fin T0 N0 I0 L0 R0 (k + 1) T1 N1 I1 L1 R1 (nc + nc2) (ns + ns2) := by
  obtain ⟨A1, A2, A3, A4, A5, A6, A7, A8⟩ := hA
  obtain ⟨P1, P2, P3, P4, P5, P6, P7⟩ := hP
  obtain ⟨M1, M2, M4, M5⟩ := hM
  have hG2 := cg_T_s hC hc hN hG hs
  have hI2 := cg_I_s hC hc hG h hs hO hF h11
  have hAl := hG.2.1
  have hO0 := hO
  obtain ⟨o1, o2, o3, o4, o5, o6⟩ := hO0
  have hB0 : ¬ B < 536 := by
    by_cases z : len = 0
    · exact (o6 z).2
    · have := (o5 (by omega)).2
      omega
  have i8 : I1 C 8 = Int32.ofNat (pd_m P + 1) := by rw [hF.1 _ _ (hAl _ (by omega)) (by omega) (by omega) (by omega) (by omega) (by omega) (by omega) (by omega)]; exact A6.1
  have i4 : I1 (C + 4) (pd_m P) = Int32.ofNat 1 := by rw [hF.1 _ _ (hAl _ (by omega)) (by omega) (by omega) (by omega) (by omega) (by omega) (by omega) (by omega)]; exact M2
  have l2 : L1 (C + 2) (pd_m P) = 0 := by rw [hF.2 _ _ (hAl _ (by omega)) (by omega) (by omega) (by omega)]; exact M4
  have l3 : L1 (C + 3) (pd_m P) = 0 := by rw [hF.2 _ _ (hAl _ (by omega)) (by omega) (by omega) (by omega)]; exact M5
  have hwm := wl_mono (ts := ts) (i := s00.1) (j := s1.1) (by omega) P6
  have ipp : pq_P I1 ps := pq_P_c A7 (by rw [hF.1 _ _ (hAl _ (by omega)) (by omega) (by omega) (by omega) (by omega) (by omega) (by omega) (by omega)]) (fun c j hc => by rw [hF.1 _ _ (hAl _ (by omega)) (by omega) (by omega) (by omega) (by omega) (by omega) (by omega) (by omega)])
  have imm : ∀ kk a, kk ≤ 10 → I1 (C + 1) (pd_m P) = Int32.ofNat kk → pq_M I1 L1 C (pd_up P (pd_m P + 1) (pd_m P) kk (fun _ => false) (fun _ => false) 1 sq.length a) (pd_m P + 1) := fun kk a hk1 hk2 => pq_add A6 hm (fun e j he hj => hF.1 _ _ (hAl _ (by omega)) (by omega) (by omega) (by omega) (by omega) (by omega) (by omega) (by omega)) (fun e j he hj => hF.2 _ _ (hAl _ (by omega)) (by omega) (by omega) (by omega)) i8 ⟨hk2, hk1, i4, by omega, h5, by omega, fun u hu => by rw [l2]; exact nb_zu hu, fun u hu => by rw [l3]; exact nb_zu hu⟩
  have iss : ∀ kk S3, rn_E S2 S3 → pq_S T1 I1 L1 R1 C S3 (sq ++ [y]) (pd_up P (pd_m P + 1) (pd_m P) kk (fun _ => false) (fun _ => false) 1 sq.length (rn_t S2 y)) := fun kk S3 hS3 => by
    obtain ⟨_, e2, e3, _⟩ := rn_E_k hS3 hy
    rw [← e3]
    exact pq_S_s hC hc rfl hAl hG.2.2.2.1 A8 (rn_E_tr hE hS3) hs hO hF (by rw [e2, e3]; exact hD) (Nat.lt_of_lt_of_le hy hS3.1) (by rw [e3]; exact hni) h9
  have hlen : (sq ++ [y]).length = sq.length + 1 := by simp
  have hnc2 : nc2 ≤ 1 := by
    rcases hs with ⟨_, _, _, rfl, _⟩ | ⟨l2, n1, n2, n3, n4, n5, n6, n7⟩ <;> omega
  have joint : ∀ kk kf, ((kk = 2 ∧ kf = 32) ∨ (kk = 3 ∧ kf = 33)) → ap_1 ts n (S0, fr, none, o0, s00, sq, false) = (S2, (kf, y, 0) :: fr, none, o0, tk_adv ts s1, sq ++ [y], false) → (∃ kn, tk_now ts s1 = kn ∧ tl kn = 3 ∧ ¬ kn = Int32.ofInt 2) → I1 (C + 1) (pd_m P) = Int32.ofNat kk → wt_K I1 L1 ts n (tk_adv ts s1).1 (tk_adv ts s1).2 → I1 9 8 = Int32.ofInt 0 → CR ts n C fin T0 N0 I0 L0 R0 (k + 1) T1 N1 I1 L1 R1 (nc + nc2) (ns + ns2) := by
    intro kk kf hkk he hkn hk1 hK1 h98
    obtain ⟨kn, q1, q2, q3⟩ := hkn
    obtain ⟨b1, b2, b3⟩ := tk_ad1 (s := s1) (ts := ts) (by rw [q1]; exact q3)
    have b21 : (tk_adv ts s1).1 = s1.1 + 1 := by rw [b2]
    have hwl := wl_adv q1 q3
    have hwl2 : wl ts (tk_adv ts s1).1 = wl ts s1.1 + 3 := by rw [b21, hwl, q2]
    obtain ⟨f2, g1, g2, g3, g4, g5, g6⟩ := (ap_step hv hl A4 A1 A2 A3 he).2 (by rw [b2])
    refine ⟨hG2, hI2, Or.inl ⟨S2, (kf, y, 0) :: fr, none, o0, tk_adv ts s1, sq ++ [y], _, ps, f2, by rw [b2], g1, g2 rfl, g3, cR_frame A5 hE (fun i hi => pd_up_no (by omega)) rfl (fun Q pa pb fp hcp hlt => ⟨pd_m P, fp, rfl, by omega, hlt, ?_⟩), imm kk (rn_t S2 y) (by omega) hk1, ipp, iss kk S2 (rn_E_id _), hK1, hJ, h7, h98, ?_, ?_, by omega, by omega⟩⟩
    · rcases hkk with ⟨rfl, rfl⟩ | ⟨rfl, rfl⟩
      · exact Or.inr (Or.inr (Or.inr (Or.inl ⟨rfl, hy, pd_up_at.1, pd_up_at.2.2.2.2.2.1, rfl, hcp⟩)))
      · exact Or.inr (Or.inr (Or.inr (Or.inr (Or.inl ⟨rfl, hy, pd_up_at.1, pd_up_at.2.2.2.2.2.1, rfl, hcp⟩))))
    · show 3 * (pd_m P + 1) ≤ wl ts (tk_adv ts s1).1 + pq_w ps + 0
      omega
    · show 6 * (sq ++ [y]).length ≤ wl ts (tk_adv ts s1).1 + 0
      omega
  have alone : ∀ kk kf, ((kk = 1 ∧ kf = 61) ∨ (kk = 6 ∧ kf = 11)) → ap_1 ts n (S0, fr, none, o0, s00, sq, false) = (rn_m S2 (kf, y, 0, 0, 0), fr, some (rn_n S2), o0, s1, sq ++ [y], false) → I1 (C + 1) (pd_m P) = Int32.ofNat kk → wt_K I1 L1 ts n s1.1 s1.2 → I1 9 8 = Int32.ofInt 1 → CR ts n C fin T0 N0 I0 L0 R0 (k + 1) T1 N1 I1 L1 R1 (nc + nc2) (ns + ns2) := by
    intro kk kf hkk he hk1 hK1 h98
    obtain ⟨f2, g1, g2, g3, g4, g5, g6⟩ := (ap_step hv hl A4 A1 A2 A3 he).2 P7
    have hS3 : rn_E S2 (rn_m S2 (kf, y, 0, 0, 0)) := rn_E_mk
    have ed : rn_d (rn_m S2 (kf, y, 0, 0, 0)) (rn_n S2) = (kf, y, 0, 0, 0) := rn_mk_a.1
    have ek : rn_k (rn_m S2 (kf, y, 0, 0, 0)) (rn_n S2) = kf := rn_mk_k
    have en : rn_n (rn_m S2 (kf, y, 0, 0, 0)) = rn_n S2 + 1 := rfl
    obtain ⟨_, _, e3, _⟩ := rn_E_k hS3 hy
    refine ⟨hG2, hI2, Or.inl ⟨_, fr, some (rn_n S2), o0, s1, sq ++ [y], _, ps, f2, P7, g1, g2 rfl, g3, cR_leaf A5 (rn_E_tr hE hS3) (fun i hi => pd_up_no (by omega)) rfl ⟨hE.1, by omega⟩ (by rw [ek]; unfold fl_prop; omega) ?_ ?_ ?_ ?_ (fun al bl ar br => ?_), imm kk (rn_t S2 y) (by omega) hk1, ipp, iss kk _ hS3, hK1, hJ, h7, h98, ?_, ?_, by omega, by omega⟩⟩
    · rw [ed]
      intro z
      have z : kf = 10 ∨ kf = 12 ∨ kf = 13 ∨ kf = 15 := z
      omega
    · rw [ed]
      intro z
      have z : (31 ≤ kf ∧ kf ≤ 33) ∨ kf = 15 := z
      omega
    · rw [ed]
      show y < _
      omega
    · rw [ed]
      show 0 < _
      omega
    · rw [ed]
      show tr_eq _ (kf, y, 0, 0, 0) _ _ _ (rn_t (rn_m S2 (kf, y, 0, 0, 0)) y) _ _ _ _ _ _
      rw [e3]
      rcases hkk with ⟨rfl, rfl⟩ | ⟨rfl, rfl⟩
      · exact Or.inr (Or.inl ⟨rfl, pd_up_at.1, pd_up_at.2.2.2.2.2.1, rfl⟩)
      · exact Or.inr (Or.inr (Or.inr (Or.inr (Or.inr (Or.inr (Or.inl ⟨rfl, pd_up_at.1, pd_up_at.2.2.2.2.2.1, rfl⟩))))))
    · show 3 * (pd_m P + 1) ≤ wl ts s1.1 + pq_w ps + 2
      omega
    · show 6 * (sq ++ [y]).length ≤ wl ts s1.1 + 3
      omega
  rcases Ak with ⟨rfl, rfl, w⟩ | ⟨rfl, rfl, w, w2⟩
  · have he : ap_1 ts n (S0, fr, none, o0, s0, sq, false) = ap_sq ts fr sq (S2, [], [y], o0, s1, false) := by
      show ap_b ts n S0 fr o0 s0 sq = _
      unfold ap_b
      rw [if_neg (by rw [w]; decide), if_neg (by rw [w]; decide), if_neg (by rw [w]; decide), if_pos w, hfin]
    unfold ap_sq at he
    dsimp only [List.headD] at he
    by_cases c18 : tk_now ts s1 = (Int8.ofInt 18).toInt32
    · obtain ⟨q1, q2, q3⟩ := hy1 ⟨Or.inl c18, M1⟩
      rw [if_pos c18] at he q3
      exact joint 2 32 (Or.inl ⟨rfl, rfl⟩) he ⟨_, c18, rfl, by decide⟩ q3 q1 q2
    rw [if_neg c18] at he
    by_cases c19 : tk_now ts s1 = (Int8.ofInt 19).toInt32
    · obtain ⟨q1, q2, q3⟩ := hy1 ⟨Or.inr c19, M1⟩
      rw [if_pos c19] at he
      rw [if_neg c18] at q3
      exact joint 3 33 (Or.inr ⟨rfl, rfl⟩) he ⟨_, c19, rfl, by decide⟩ q3 q1 q2
    rw [if_neg c19] at he
    obtain ⟨q1, q2, q3⟩ := hn1 (fun z => z.1.elim c18 c19)
    exact alone 1 61 (Or.inl ⟨rfl, rfl⟩) he (q3.trans M1) q1 q2
  · have he : ap_1 ts n (S0, fr, none, o0, s00, sq, false) = (rn_m S2 (11, y, 0, 0, 0), fr, some (rn_n S2), o0, s1, sq ++ [y], false) := by
      show ap_b ts n S0 fr o0 s00 sq = _
      unfold ap_b
      rw [if_neg (by rw [w]; decide), if_neg (by rw [w]; decide), if_pos w]
      unfold ap_nv
      rw [if_pos w2, hfin]
      rfl
    obtain ⟨q1, q2, q3⟩ := hn1 (fun z => absurd (M1.symm.trans z.2) (by decide))
    exact alone 6 11 (Or.inr ⟨rfl, rfl⟩) he (q3.trans M1) q1 q2
