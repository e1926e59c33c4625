/-! ===== the relation is kept: flops, flop ===== -/
/-- several classes are built, or were -/
theorem Rl_kf {T : wv_T} {N : Nat} {I : rl_I} {L : rl_L} {R : rl_R} {n lk m : Nat} {v : Nat → Nat} {tb : Nat → Bool} {Cs : Nat} {C : Nat → Nat} {P : Nat → pd_P} {S : Nat → rn_N} {m0 x : Nat → Nat} {sq : Nat → List Nat} {Cd Dd a b g : Nat} {nx : Nat → Nat} {fi : Nat → Bool} {sg on tw : Nat → Nat} {V cp : Nat → Nat} {z : Nat → List Nat} {p : Nat} {gk : Nat → Nat} (hA : Rl_A T N I L R n lk m v tb) (hB : Rl_B T I L R tb m v Cs C P S m0 x sq) (hD : rl_d T N I R Cd Dd a b g nx fi sg on tw V cp z) (hN : N < 100000) (hp : p < 2) (h4 : (sq p).length ≤ 4) (hg : ∀ k, k < (sq p).length → I (C p + 9 + k) 3 = Int32.ofNat (gk k)) : ∀ d T1 N1 I1 L1 R1 n1 s1, kf_R (C p) (sq p).length (fun k => rn_t (S p) ((sq p).getD k 0)) gk T N I L R d T1 N1 I1 L1 R1 n1 s1 → ∃ tb1, Rl_A T1 N1 I1 L1 R1 n lk m v tb1 ∧ Rl_B T1 I1 L1 R1 tb1 m v Cs C P S m0 x sq ∧ rl_d T1 N1 I1 R1 Cd Dd a b g nx fi sg on tw V cp z ∧ N1 = N + n1 ∧ rl_tn tb1 rl_es = rl_tn tb rl_es + n1 ∧ s1 = 4224 * n1 ∧ (∀ q c, q < 67 → I1 (C p + 9 + q) c = I (C p + 9 + q) c) := by
  intro d
  induction d with
  | zero =>
    rintro T1 N1 I1 L1 R1 n1 s1 ⟨rfl, rfl, rfl, rfl, rfl, rfl, rfl⟩
    exact ⟨tb, hA, hB, hD, rfl, rfl, rfl, fun _ _ _ => rfl⟩
  | succ d ih =>
    rintro T1 N1 I1 L1 R1 n1 s1 ⟨T2, N2, I2, L2, R2, n2, s2, k, n3, s3, hR, hk, hka, rfl, rfl⟩
    obtain ⟨tb2, a1, a2, a3, a4, a5, a6, a7⟩ := ih T2 N2 I2 L2 R2 n2 s2 hR
    have hle := rl_tn_le tb2 rl_es
    have e16 : rl_es.length = 16 := rfl
    have hy : (sq p)[k]? = some ((sq p).getD k 0) := by
      rw [List.getD_eq_getElem?_getD, List.getElem?_eq_getElem hk]
      rfl
    obtain ⟨tb3, b1, b2, b3, b4, b5, b6, b7⟩ := Rl_ka a1 a2 a3 (by omega) hp (by omega) hy (by rw [a7 _ _ (by omega)]; exact hg k hk) hka
    exact ⟨tb3, b1, b2, b3, by omega, by omega, by omega, fun q c hq => (b7 q c hq).trans (a7 q c hq)⟩
/-- the data of a property's flip-flops -/
abbrev rl_fd : Type := (Nat → Nat) × (Nat → Prop) × (Nat → Nat) × (Nat → Nat) × (Nat → Nat) × (Nat → Nat → Nat) × (Nat → Nat → Prop)
def rl_fl (T : wv_T) (N : Nat) (I : rl_I) (L : rl_L) (R : rl_R) (p m : Nat) (v : Nat → Nat) (C : Nat) (P : pd_P) (S : rn_N) (x : Nat) (sq : List Nat) (d : rl_fd) : Prop := fl_p p T N I L R C sq.length (fun k => rn_w S (sq.getD k 0)) sq.length (fun k => rn_t S (sq.getD k 0)) (fun k => rn_w S (sq.getD k 0)) d.1 P S x d.2.1 d.2.2.1 d.2.2.2.1 d.2.2.2.2.1 (nu_U S) d.2.2.2.2.2.1 d.2.2.2.2.2.2 ∧ fo_p p m v I (fun k => rn_t S (sq.getD k 0)) P S d.2.1 d.2.2.1 ∧ (fw S = true → sq.length ≤ 4 ∧ (∀ k, k < sq.length → I (C + 9 + k) 3 = Int32.ofNat (d.1 k)) ∧ (∀ n, d.2.1 n → tr_S (rn_k S n) → sq[fs P (d.2.2.1 n)]? = some (nq_l (rn_d S n))) ∧ fs P (pd_m P) = sq.length ∧ ∀ n, d.2.1 n → (fs_b (pd_k P (d.2.2.1 n)) ↔ tr_S (rn_k S n)))
theorem rl_fl_of {T : wv_T} {N : Nat} {I : rl_I} {L : rl_L} {R : rl_R} {tb : Nat → Bool} {p m : Nat} {v : Nat → Nat} {C : Nat} {P : pd_P} {S : rn_N} {m0 x : Nat} {sq : List Nat} (hF : rl_F T R) (hO : rl_O T N R tb) (hN : N < 100000) (hC : rl_C C) (h : rl_p T I L R tb p m v C P S m0 x sq) : ∃ d : rl_fd, rl_fl T N I L R p m v C P S x sq d := by
  have hpp := h
  obtain ⟨p1, p2, p3, p4, p5, p6, p7⟩ := h
  obtain ⟨w1, w2, w3, w4⟩ := rl_W p2 p3
  obtain ⟨lo, hlo⟩ := p2.2.2.2.2.2.2.2.2.1
  obtain ⟨Q, pa, pb, t1, t2, t3, t4, t5, t6, t7, t8⟩ := rb_t p2
  have n5 := hO.2.2.2.2
  have gd : ∀ k, k < sq.length → sq[k]? = some (sq.getD k 0) := fun k hk => by
    rw [List.getD_eq_getElem?_getD, List.getElem?_eq_getElem hk]
    rfl
  have hm0 := p5.2.2.1
  by_cases hfw : fw S = true
  · obtain ⟨f4, f6⟩ := (rb_fw p2).mp hfw
    have hk6 : ∀ k, k < sq.length → rn_w S (sq.getD k 0) ≤ 6 := fun k hk => f6 _ (List.mem_of_getElem? (gd k hk))
    obtain ⟨gk, hgk⟩ := Classical.axiomOfChoice (r := fun k g => k < sq.length → I (C + 9 + k) 3 = Int32.ofNat g ∧ g < 64 ∧ kc_D T R (C + 76 + 5 * k) ∧ kc_Q T I L R (C + 76 + 5 * k) (C + 9 + k) (rn_t S (sq.getD k 0)) (rn_w S (sq.getD k 0)) g ∧ nt_n (rn_t S (sq.getD k 0)) ≤ 6 ∧ kc_Sd C k (rn_t S (sq.getD k 0)) g T N I R ∧ ni_A g (rn_t S (sq.getD k 0))) (fun k => by
      by_cases hk : k < sq.length
      · obtain ⟨g, hg⟩ := rl_kc hF hO hN hC hpp (k := k) (by omega) (gd k hk) (hk6 k hk)
        exact ⟨g, fun _ => hg⟩
      · exact ⟨0, fun w => (hk w).elim⟩)
    have node : ∀ nn, Q nn → tr_S (rn_k S nn) → nq_l (rn_d S nn) < rn_n S ∧ nq_row (rn_k S (nq_l (rn_d S nn))) ∧ rn_w S (nq_l (rn_d S nn)) ≤ 6 ∧ fs P (pa nn) < 4 := fun nn hn ht => by
      have e := t7 nn hn ht
      have hm := List.mem_of_getElem? e
      have q := p2.2.2.2.2.2.1 _ hm
      exact ⟨q.1, q.2.1, f6 _ hm, by have := (List.getElem?_eq_some_iff.mp e).1; omega⟩
    obtain ⟨ca, hca⟩ := Classical.axiomOfChoice (r := fun nn (ca : (Nat → Nat) × (Nat → Prop)) => Q nn → tr_S (rn_k S nn) → rs_cc (nu_U S (nq_l (rn_d S nn))) ca.1 ca.2) (fun nn => by
      by_cases hn : Q nn ∧ tr_S (rn_k S nn)
      · obtain ⟨q1, q2, q3, _⟩ := node nn hn.1 hn.2
        obtain ⟨_, ⟨cl, Al, hcc⟩, _⟩ := rb_y p2 hlo (List.ne_nil_of_mem (List.mem_of_getElem? (t7 nn hn.1 hn.2))) q1 q2 q3
        exact ⟨(cl, Al), fun _ _ => hcc⟩
      · exact ⟨(fun _ => 0, fun _ => True), fun w1 w2 => (hn ⟨w1, w2⟩).elim⟩)
    have hA : ∀ i, i < pd_m P → fs_b (pd_k P i) → pd_l P i < sq.length ∧ rn_t S (sq.getD (pd_l P i) 0) = pd_a P i := fun i hi hb => by
      obtain ⟨y, y1, y2⟩ := p3.2.1.2.2 i hi (by unfold fs_b at hb; omega)
      refine ⟨(List.getElem?_eq_some_iff.mp y1).1, ?_⟩
      rw [List.getD_eq_getElem?_getD, y1]
      exact y2.symm
    refine ⟨(gk, Q, pa, pb, lo, fun nn => (ca nn).1, fun nn => (ca nn).2), ⟨w4, fun _ => ⟨⟨(hF.2.2.2.2.2.2.2.2.1 C hC).1, by unfold rl_C at hC; omega, f4, by omega, by omega, fun k hk => ?_, fun k l B hk hl hne hkB => ?_⟩, ⟨p3.1.1, p3.1.2.1, fun i hi => ?_⟩, fun i hi hb => (hA i hi hb).1, ⟨t1, t2, t3, t4, t5, p3.1.2.1, by rw [t8]; exact f4⟩, fun nn hn ht => ?_, fun nn hn ht => ?_⟩⟩, ⟨hm0, fun _ => ⟨tq_fb t2 p2.2.1.2.2.2.2.1, t6, fun i hi _ => ?_, fun i hi hb => (hA i hi hb).2⟩⟩, fun _ => ⟨f4, fun k hk => (hgk k hk).1, t7, t8, fun nn hn => (rb_kd t1 hn).1⟩⟩
    · obtain ⟨g1, g2, g3, g4, g5, g6, g7⟩ := hgk k hk
      exact ⟨g3, g4, g5, g6, fun B hB => (rl_qB hO.1 hC (by omega) hB).1⟩
    · have hE1 : rl_E (C + 76 + 5 * k) := ⟨C, k, hC, by omega, rfl⟩
      have hE2 : rl_E (C + 76 + 5 * l) := ⟨C, l, hC, by omega, rfl⟩
      obtain ⟨B2, b1, b2, b3⟩ := hO.2.2.2.1.1 _ hE1
      have htb : tb (C + 76 + 5 * k) = true := by
        cases e : tb (C + 76 + 5 * k) with
        | true => rfl
        | false =>
          have q := b3 e
          have q2 := hkB.1
          rw [b1] at q2
          cases q2
          rw [hkB.2.1] at q
          cases q
      exact hO.2.2.2.1.2 _ _ B hE1 hE2 (by omega) htb hkB.1
    · obtain ⟨a1, a2, a3, a4, a5, a6, _⟩ := p3.1.2.2.2 i hi
      exact ⟨a1, a2, a3, a5⟩
    · obtain ⟨q1, q2, q3, q4⟩ := node nn hn ht
      exact ⟨(rb_y p2 hlo (List.ne_nil_of_mem (List.mem_of_getElem? (t7 nn hn ht))) q1 q2 q3).1, hca nn hn ht, p7 _ _ q4 (t7 nn hn ht) q3⟩
    · obtain ⟨q1, q2, q3, q4⟩ := node nn hn ht
      have hi : pa nn < pd_m P := by
        have := (t1 nn hn).2.2.2
        omega
      have hb := (rb_kd t1 hn).1.mpr ht
      obtain ⟨l1, l2⟩ := hA _ hi hb
      obtain ⟨_, _, r3, r4, _⟩ := rb_y p2 hlo (List.ne_nil_of_mem (List.mem_of_getElem? (t7 nn hn ht))) q1 q2 q3
      refine ⟨?_, (hgk _ l1).2.2.2.2.2.2, r4⟩
      show np_sim (nu_U S (nq_l (rn_d S nn))) (rn_t S (sq.getD (pd_l P (pa nn)) 0))
      rw [l2, (rb_kd t1 hn).2 ht]
      exact r3
    · have := (p3.1.2.2.2 i hi).2.2.2.1
      omega
  · refine ⟨(fun _ => 0, fun _ => True, fun _ => 0, fun _ => 0, fun _ => 0, fun _ _ => 0, fun _ _ => True), ⟨w4, fun w => (hfw w).elim⟩, ⟨hm0, fun w => (hfw w).elim⟩, fun w => (hfw w).elim⟩
/-- behind a call for flip-flops -/
theorem Rl_ff {T : wv_T} {N : Nat} {I : rl_I} {L : rl_L} {R : rl_R} {nc ns i n lk m : Nat} {v : Nat → Nat} {tb : Nat → Bool} {Cs : Nat} {C : Nat → Nat} {P : Nat → pd_P} {S : Nat → rn_N} {m0 x : Nat → Nat} {sq : Nat → List Nat} {Cd Dd a b g : Nat} {nx : Nat → Nat} {fi : Nat → Bool} {sg on tw : Nat → Nat} {V cp : Nat → Nat} {z : Nat → List Nat} {p : Nat} {D : rl_fd} (hA : Rl_A T N I L R n lk m v tb) (hB : Rl_B T I L R tb m v Cs C P S m0 x sq) (hD : rl_d T N I R Cd Dd a b g nx fi sg on tw V cp z) (hN : rl_N N nc ns i n lk tb cp) (hNb : N < 100000) (hp : p < 2) (hfl : rl_fl T N I L R p m v (C p) (P p) (S p) (x p) (sq p) D) (hfw : fw (S p) = true) {d : Nat} {T1 : wv_T} {N1 : Nat} {I1 : rl_I} {L1 : rl_L} {R1 : rl_R} {n1 s1 : Nat} (hR : kf_R (C p) (sq p).length (fun k => rn_t (S p) ((sq p).getD k 0)) D.1 T N I L R d T1 N1 I1 L1 R1 n1 s1) {pn : Nat → Nat} {kb : Nat → Nat × (Nat → Nat)} {I2 I3 : rl_I} {L2 : rl_L} (hZ : ff_Z p (S p) (m0 p) (x p) (P p) D.2.1 D.2.2.1 (nu_U (S p)) pn kb T1 I2) (fI : ff_G p I1 I2) (f3 : ∀ c j, rl_di c j → I3 c j = I2 c j) (fL : rl_fL L1 L2) {e : Nat} (he : e ≤ 1) : Rl T1 N1 I3 L2 R1 (nc + (n1 + e)) (ns + (s1 + 6 * e)) (i + 4) := by
  obtain ⟨h4, hg, hsq, hfs, hkd⟩ := hfl.2.2 hfw
  obtain ⟨tb1, m1, m2, m3, eN, etn, es, _⟩ := Rl_kf hA hB hD hNb hp h4 hg d T1 N1 I1 L1 R1 n1 s1 hR
  have fI : ∀ c j, ¬ (469 ≤ c ∧ c ≤ 475) → ¬ (508 ≤ c ∧ c ≤ 511) → ¬ c = 514 → ¬ (516 ≤ c ∧ c ≤ 519) → ¬ (523 ≤ c ∧ c ≤ 525) → ¬ (c = 460 ∧ (j = 0 ∨ j = 32 ∨ (37 ≤ j ∧ j ≤ 39) ∨ j = 75 ∨ j = 88 ∨ j = 94)) → ¬ (c = 520 ∧ 4 * p ≤ j ∧ j < 4 * p + 4) → ¬ (c = 521 ∧ 320 * (4 * p) ≤ j ∧ j < 320 * (4 * p + 4)) → ¬ (c = 522 ∧ 64 * (320 * (4 * p)) ≤ j ∧ j < 64 * (320 * (4 * p + 4))) → I2 c j = I1 c j := fI
  have hz2 : rl_z I2 p (S p) (sq p) := fun j y hj hy hw6 => by
    have hjl := (List.getElem?_eq_some_iff.mp hy).1
    obtain ⟨ii, i1, i2, i3⟩ := fs_at (P := P p) (pd_m (P p)) j (by omega)
    obtain ⟨q1, q2⟩ := hZ.2.2.2.1 ii i1
    obtain ⟨mv, k1, k2⟩ := hZ.2.2.2.2.2.2 ii i1 i3
    have ht : tr_S (rn_k (S p) (pn ii)) := (hkd _ q1).mp (by rw [q2]; exact i3)
    have e := hsq _ q1 ht
    rw [q2, i2, hy] at e
    cases e
    rw [i2] at k2
    exact Or.inr ⟨_, mv, _, k1, k2⟩
  have hz : rl_z I3 p (S p) (sq p) := rl_z_c hz2 (fun c j w1 w2 => f3 c j (by unfold rl_di; omega))
  obtain ⟨m4, m5, m6⟩ := Rl_ph2 m1 m2 m3 hp (J := I3) (M := L2) (fun c j w1 w2 w3 w4 => (f3 c j w1).trans (fI c j (by unfold rl_di at w1; omega) (by unfold rl_di at w1; omega) (by unfold rl_di at w1; omega) (by unfold rl_di at w1; omega) (by unfold rl_di at w1; omega) (by unfold rl_di at w1; omega) w2 w3 w4)) fL hz
  obtain ⟨k1, k2, k3⟩ := hN
  exact ⟨n, lk, m, v, tb1, Cs, C, P, S, m0, x, sq, Cd, Dd, a, b, g, nx, fi, sg, on, tw, V, cp, z, m4, m5, m6, by omega, by omega, by omega⟩
theorem Rl_f0 {T : wv_T} {N : Nat} {I I1 : rl_I} {L : rl_L} {R : rl_R} {nc ns i : Nat} (h : Rl T N I L R nc ns i) (f : ff_0 I I1) : Rl T N I1 L R (nc + 1) (ns + 6) (i + 4) := Rl_fr h (fun c j w => f c j (by unfold rl_di at w; omega)) (rl_fL_id L) (by omega) (by omega) (by omega)
theorem Rl_12 : wL_12 Rl := by
  intro T N I L R nc ns i hi h
  have h0 := h
  obtain ⟨n, lk, m, v, tb, Cs, C, P, S, m0, x, sq, Cd, Dd, a, b, g, nx, fi, sg, on, tw, V, cp, z, hA, hB, hD, hN⟩ := h
  obtain ⟨hF, hX, hO, ht, hw, hk, hh, hu, hg⟩ := id hA
  have c1 := (hD.2.2.2.2.2.2.1 442 (Or.inl rfl)).1.1.2.2.2.2.2.1
  have c2 := (hD.2.2.2.2.2.2.1 451 (Or.inr rfl)).1.1.2.2.2.2.2.1
  obtain ⟨hNb, _, _⟩ := rl_N_b hN (by omega) hk.2.2 c1 c2
  obtain ⟨D, hDt⟩ := rl_sk (Q := fun p (d : rl_fd) => rl_fl T N I L R p m v (C p) (P p) (S p) (x p) (sq p) d) (fun p hp => rl_fl_of hF hO hNb (rl_CC hB.1 hp).1 (hB.2.2 p hp))
  refine ⟨C, fun p => (sq p).length, fun p k => rn_w (S p) ((sq p).getD k 0), fun p => (sq p).length, fun p k => rn_t (S p) ((sq p).getD k 0), fun p k => rn_w (S p) ((sq p).getD k 0), fun p => (D p).1, P, S, m0, x, sq, fun p => (D p).2.1, fun p => (D p).2.2.1, fun p => (D p).2.2.2.1, fun p => (D p).2.2.2.2.1, fun p => nu_U (S p), fun p => (D p).2.2.2.2.2.1, fun p => (D p).2.2.2.2.2.2, hF.2.2.1, ⟨0, hF.2.2.2.2.2.1⟩, fun p hp => ?_, fun p hp => ⟨hF.1, (hB.2.2 p hp).2.2.2.1, (hB.2.2 p hp).2.1.2.1.1, (hB.2.2 p hp).2.1.2.1.2.1⟩, fun p hp => (hDt p hp).1, fun _ => Rl_th h0, fun I1 f => Rl_f0 h0 f, fun p hp hfw d T1 N1 I1 L1 R1 n1 s1 hR hkI pn kb I2 L2 hZ fI fL e he => ?_⟩
  · obtain ⟨w1, w2, w3, w4⟩ := rl_W (hB.2.2 p hp).2.1 (hB.2.2 p hp).2.2.1
    exact ⟨(hB.2.2 p hp).1, (hF.2.2.2.2.2.2.2.2.1 _ (rl_CC hB.1 hp).1).1, w1, w2, w3⟩
  · exact Rl_ff hA hB hD hN hNb hp (hDt p hp) hfw hR hZ fI (fun _ _ _ => rfl) (fun c j w => fL c j (by omega) (by omega)) he
theorem Rl_13 : wL_13 Rl := by
  intro T N I L R nc ns i hi h
  have h0 := h
  obtain ⟨n, lk, m, v, tb, Cs, C, P, S, m0, x, sq, Cd, Dd, a, b, g, nx, fi, sg, on, tw, V, cp, z, hA, hB, hD, hN⟩ := h
  obtain ⟨hF, hX, hO, ht, hw, hk, hh, hu, hg⟩ := id hA
  have c1 := (hD.2.2.2.2.2.2.1 442 (Or.inl rfl)).1.1.2.2.2.2.2.1
  have c2 := (hD.2.2.2.2.2.2.1 451 (Or.inr rfl)).1.1.2.2.2.2.2.1
  obtain ⟨hNb, _, _⟩ := rl_N_b hN (by omega) hk.2.2 c1 c2
  obtain ⟨D, hDt⟩ := rl_sk (Q := fun p (d : rl_fd) => rl_fl T N I L R p m v (C p) (P p) (S p) (x p) (sq p) d) (fun p hp => rl_fl_of hF hO hNb (rl_CC hB.1 hp).1 (hB.2.2 p hp))
  refine ⟨m, v, C, fun p => (sq p).length, fun p k => rn_w (S p) ((sq p).getD k 0), fun p => (sq p).length, fun p k => rn_t (S p) ((sq p).getD k 0), fun p k => rn_w (S p) ((sq p).getD k 0), fun p => (D p).1, P, S, m0, x, sq, fun p => (D p).2.1, fun p => (D p).2.2.1, fun p => (D p).2.2.2.1, fun p => (D p).2.2.2.2.1, fun p => nu_U (S p), fun p => (D p).2.2.2.2.2.1, fun p => (D p).2.2.2.2.2.2, Rl_lt hA hB, fun p hp => ?_, fun p hp => ⟨hF.1, (hB.2.2 p hp).2.2.2.1, (hB.2.2 p hp).2.1.2.1.1, (hB.2.2 p hp).2.1.2.1.2.1⟩, fun p hp => (hDt p hp).1, fun p hp => (hDt p hp).2.1, fun _ => Rl_th h0, fun I1 f => Rl_f0 h0 f, fun p hp hfw d T1 N1 I1 L1 R1 n1 s1 hR hkI pn kb I2 L2 I3 hZ fI f3 fL e he => ?_⟩
  · obtain ⟨w1, w2, w3, w4⟩ := rl_W (hB.2.2 p hp).2.1 (hB.2.2 p hp).2.2.1
    exact ⟨(hB.2.2 p hp).1, (hF.2.2.2.2.2.2.2.2.1 _ (rl_CC hB.1 hp).1).1, w1, w2, w3⟩
  · exact Rl_ff hA hB hD hN hNb hp (hDt p hp) hfw hR hZ fI (fun c j w => f3 c j (by unfold rl_di at w; omega) (by unfold rl_di at w; omega) (by unfold rl_di at w; omega) (by unfold rl_di at w; omega)) (fun c j w => fL c j (by omega) (by omega) (by omega) (by omega)) he
