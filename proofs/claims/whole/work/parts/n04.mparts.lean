/-! ===== the reference: findParts ===== -/
theorem fp_pop {p m0 k n : Nat} {S : rn_N} {P : pd_P} {Q : Nat → Prop} {pa pb : Nat → Nat} {U : Nat → np_A} {pn : Nat → Nat} {l : List Nat} {T : wv_T} {I : Nat → Nat → Int32} {L : Nat → Nat → Int64} {I1 I2 : Nat → Nat → Int32} {L1 : Nat → Nat → Int64} (h : fp_Z p S m0 P Q pa pb U pn k (n :: l) T I L I1 L1) (e : ∀ c j, ¬ (c = 523 ∧ j = k) → ¬ (c = 524 ∧ j = k) → I2 c j = I1 c j) : fp_Z p S m0 P Q pa pb U pn k l T I L I2 L1 := by
  obtain ⟨h1, h2, h3, h4, h5, h6, h7, h8, h9, h10, h11⟩ := h
  refine ⟨fp_X h1 (fun c j c1 c2 => e c j (by omega) (by omega)), (e _ _ (by omega) (by omega)).trans h2, (e _ _ (by omega) (by omega)).trans h3, h4, fun i hi => ?_, fun i hi hb => ?_, ⟨fun j hj => (e _ _ (by omega) (by omega)).trans (h7.1 j hj), fun j hj => (e _ _ (by omega) (by omega)).trans (h7.2.1 j hj), fun j hj => (e _ _ (by omega) (by omega)).trans (h7.2.2 j hj)⟩, fp_w_c h8.2 (fun j hj => e _ _ (by omega) (by omega)), fun z hz => h9 z (List.mem_cons_of_mem _ hz), fun c j z1 z2 z3 z4 z5 z6 z7 z8 => (e _ _ (by omega) (by omega)).trans (h10 c j z1 z2 z3 z4 z5 z6 z7 z8), h11⟩
  · rw [e _ _ (by omega) (by omega), e _ _ (by omega) (by omega)]
    exact h5 i hi
  · obtain ⟨K, mv, kd, k1, k2⟩ := h6 i hi hb
    exact ⟨K, mv, kd, k1, rk_T_c k2 (fun c j c1 c2 => e c j (by omega) (by omega))⟩
theorem fp_next {p m0 k n : Nat} {S : rn_N} {P : pd_P} {Q : Nat → Prop} {pa pb : Nat → Nat} {U : Nat → np_A} {pn : Nat → Nat} {l : List Nat} {T : wv_T} {I : Nat → Nat → Int32} {L : Nat → Nat → Int64} {I1 I2 : Nat → Nat → Int32} {L1 L2 : Nat → Nat → Int64} (hp : p < 2) (h : fp_Z p S m0 P Q pa pb U pn k l T I L (wv_u I1 460 94 (Int32.ofNat k)) L1) (h94 : I1 460 94 = Int32.ofNat (k + 1)) (h523 : I1 523 k = Int32.ofNat n) (h524 : I1 524 k = Int32.ofNat (4 * p + fs P k)) (hQ : Q n) (hpa : pa n = k) (hf4 : fs P k ≤ 3 ∨ ¬ fs_b (pd_k P k)) (hF : rk_FI (4 * p + fs P k) I1 I2) (hs : ¬ fs_b (pd_k P k) → I2 = I1) (hL : rk_FL L1 L2) (hT : fs_b (pd_k P k) → ∃ K mv kd, rk_c (U (nq_l (rn_d S n))) K mv kd ∧ rk_T (4 * p + fs P k) K mv kd I2) : fp_Z p S m0 P Q pa pb U (po_u pn k n) (k + 1) l T I L I2 L2 := by
  obtain ⟨h1, h2, h3, h4, h5, h6, h7, h8, h9, h10, h11⟩ := h
  have e : ∀ c j, ¬ (c = 460 ∧ j = 94) → wv_u I1 460 94 (Int32.ofNat k) c j = I1 c j := fun c j z => wv_u_no _ _ z
  have e2 : ∀ c j, ¬ (508 ≤ c ∧ c ≤ 511) → ¬ c = 514 → ¬ (516 ≤ c ∧ c ≤ 519) → ¬ (c = 460 ∧ (j = 75 ∨ j = 88)) → ¬ (520 ≤ c ∧ c ≤ 522) → I2 c j = I1 c j := fun c j z1 z2 z3 z4 z5 => hF c j z1 z2 z3 z4 (by omega) (by omega) (by omega)
  refine ⟨fp_X h1 (fun c j c1 c2 => (e2 c j (by omega) (by omega) (by omega) (by omega) (by omega)).trans (e c j (by omega)).symm), ?_, ?_, fun i hi => ?_, fun i hi => ?_, fun i hi hb => ?_, ?_, fp_w_c h8 (fun j hj => ?_), h9, fun c j z1 z2 z3 z4 z5 z6 z7 z8 => ?_, fun c j z => (hL c j z).trans (h11 c j z)⟩
  · rw [e2 _ _ (by omega) (by omega) (by omega) (by omega) (by omega), ← e _ _ (by omega)]
    exact h2
  · rw [e2 _ _ (by omega) (by omega) (by omega) (by omega) (by omega)]
    exact h94
  · by_cases c : i = k
    · subst c
      rw [po_u_at]
      exact ⟨hQ, hpa⟩
    · rw [po_u_no c]
      exact h4 i (by omega)
  · rw [e2 _ _ (by omega) (by omega) (by omega) (by omega) (by omega), e2 _ _ (by omega) (by omega) (by omega) (by omega) (by omega)]
    by_cases c : i = k
    · subst c
      rw [po_u_at]
      exact ⟨h523, h524⟩
    · rw [po_u_no c, ← e 523 i (by omega), ← e 524 i (by omega)]
      exact h5 i (by omega)
  · by_cases c : i = k
    · subst c
      rw [po_u_at]
      exact hT hb
    · rw [po_u_no c]
      obtain ⟨K, mv, kd, k1, k2⟩ := h6 i (by omega) hb
      have k3 : rk_T (4 * p + fs P i) K mv kd I1 := rk_T_c k2 (fun c j c1 c2 => (e c j (by omega)).symm)
      by_cases hb2 : fs_b (pd_k P k)
      · have := fs_s (P := P) (show i < k by omega) hb
        exact ⟨K, mv, kd, k1, rk_T_o k3 hF (by omega)⟩
      · rw [hs hb2]
        exact ⟨K, mv, kd, k1, k3⟩
  · by_cases hb2 : fs_b (pd_k P k)
    · rw [fs_y hb2]
      refine ⟨fun j hj => ?_, fun j hj => ?_, fun j hj => ?_⟩
      · rw [hF _ _ (by omega) (by omega) (by omega) (by omega) (by omega) (by omega) (by omega), ← e _ _ (by omega)]
        exact h7.1 j (by omega)
      · rw [hF _ _ (by omega) (by omega) (by omega) (by omega) (by omega) (by omega) (by omega), ← e _ _ (by omega)]
        exact h7.2.1 j (by omega)
      · rw [hF _ _ (by omega) (by omega) (by omega) (by omega) (by omega) (by omega) (by omega), ← e _ _ (by omega)]
        exact h7.2.2 j (by omega)
    · rw [fs_n hb2, hs hb2]
      exact ⟨fun j hj => (e _ _ (by omega)).symm.trans (h7.1 j hj), fun j hj => (e _ _ (by omega)).symm.trans (h7.2.1 j hj), fun j hj => (e _ _ (by omega)).symm.trans (h7.2.2 j hj)⟩
  · rw [e2 _ _ (by omega) (by omega) (by omega) (by omega) (by omega), e _ _ (by omega)]
  · rcases hf4 with hf4 | hf4
    · rw [hF _ _ (by omega) (by omega) (by omega) (by omega) (by omega) (by omega) (by omega), ← e _ _ (by omega)]
      exact h10 c j z1 z2 z3 z4 z5 z6 z7 z8
    · rw [hs hf4, ← e _ _ (by omega)]
      exact h10 c j z1 z2 z3 z4 z5 z6 z7 z8
/-- what waits behind a node's children -/
theorem fp_kids {S : rn_N} {P : pd_P} {Q : Nat → Prop} {pa pb : Nat → Nat} {k n : Nat} {l : List Nat} (h : tr_ok P (rn_d S) (rn_h S) (rn_t S) Q pa pb) (hQ : Q n) (hpa : pa n = k) (hc : fp_c pa pb (pd_m P) (pb n) l) : (¬ tr_R (rn_k S n) → (¬ tr_L (rn_k S n) → fp_c pa pb (pd_m P) (k + 1) l) ∧ (tr_L (rn_k S n) → fp_c pa pb (pd_m P) (k + 1) (nq_l (rn_d S n) :: l))) ∧ (tr_R (rn_k S n) → Q (nq_r (rn_d S n)) ∧ (¬ tr_L (rn_k S n) → fp_c pa pb (pd_m P) (k + 1) (nq_r (rn_d S n) :: l)) ∧ (tr_L (rn_k S n) → fp_c pa pb (pd_m P) (k + 1) (nq_l (rn_d S n) :: nq_r (rn_d S n) :: l))) ∧ (tr_L (rn_k S n) → Q (nq_l (rn_d S n))) := by
  obtain ⟨t1, t2, t3, t4, t5⟩ := h n hQ
  obtain ⟨f1, f2, f3, f4, f5, f6⟩ := fs_tr t1
  have lt : ∀ y, Q y → pa y < pb y := fun y hy => (h y hy).2.2.2.1
  refine ⟨fun r => ⟨fun w => ?_, fun w => ?_⟩, fun r => ⟨(t3 r).2, fun w => ?_, fun w => ?_⟩, fun w => (t2 w).2⟩
  · rw [f3 r w, hpa] at hc
    exact hc
  · obtain ⟨z1, z2⟩ := f5 r w
    exact ⟨by rw [z1, hpa], lt _ (t2 w).2, by rw [← z2]; exact hc⟩
  · obtain ⟨z1, z2⟩ := f4 r w
    exact ⟨by rw [z1, hpa], lt _ (t3 r).2, by rw [← z2]; exact hc⟩
  · obtain ⟨z1, z2, z3⟩ := f6 r w
    exact ⟨by rw [z1, hpa], lt _ (t2 w).2, z2, lt _ (t3 r).2, by rw [← z3]; exact hc⟩
set_option maxRecDepth 100000 in
theorem wM_439 : ∃ cb ci np, pt_mt 439 = some (32, cb, 6, false, none, ci, np) := ⟨_, _, _, rfl⟩
set_option maxRecDepth 100000 in
set_option maxHeartbeats 4000000 in
theorem fp_findParts {sc : pt_Sc} {d : Nat} : wv_C wm_fx sc (d + 1 + 1 + 1 + 1 + 1 + 1 + 1) 439 fp_c439 := by
  rintro as T N I L R q ⟨S, m0, p, x, P, Q, pa, pb, lo, U, cl, Al, rfl, hp, hX, h37, h38, hD, hr, h⟩ w0 HR
  obtain ⟨cb, ci, np, hm⟩ := wM_439
  have hc374 : wv_C wm_fx sc (d + 1 + 1 + 1 + 1 + 1 + 1) 374 pm_c374 := wv_C_deep (by omega) (pm_hasSeq (d := d))
  have hc417 : wv_C wm_fx sc (d + 1 + 1 + 1 + 1 + 1 + 1) 417 rk_c417 := wv_C_deep (by omega) (rk_classify (d := d))
  refine wv_meth (hh := none) rfl (sp := wv_sp [(374, pm_c374), (417, rk_c417)]) (hd := fp_h439 p S m0 P Q pa pb U T N I L R) (n := 300) (n1 := 300) hm zc_439 rfl (wv_sp_ok (fun q hq => by
    rcases List.mem_cons.mp hq with h | h
    · rw [h]; exact hc374
    rw [List.mem_singleton.mp h]; exact hc417)) ?_ ?_ HR
  · have hX2 := hX
    obtain ⟨hT, hn5, hm0, hM⟩ := hX
    obtain ⟨d1, d2, d3, d4, d5, d6, d7⟩ := hD

    have hxn := (d2 x d3).1
    have e38 : wv_u I 460 94 (Int32.ofInt 0) 460 38 = Int32.ofNat x := by
      rw [wv_u_no _ _ (by omega)]
      exact h38
    refine ⟨_, wm_t hT rfl, ⟨by decide, by decide⟩, by decide, ?_⟩
    rw [e38]
    have hpos := (d1 x d3).2.2.2.1
    refine ⟨10 * (1000 - 0) + 9, 0, [x], fun _ => 0, none, none, by rw [rk_4 hp]; rfl, rfl, rfl, rfl, rfl, rfl, rfl, ?_, ⟨d4, hpos, d5⟩, rfl⟩
    have e : ∀ c j, ¬ c = 525 → ¬ (c = 460 ∧ j = 94) → wv_u (wv_u I 460 94 (Int32.ofInt 0)) 525 (Int32.ofInt 0).toNatClampNeg (Int32.ofNat x) c j = I c j := fun c j z1 z2 => by
      rw [wv_u_no _ _ (fun w => z1 w.1), wv_u_no _ _ z2]
    refine ⟨fp_X hX2 (fun c j c1 c2 => e c j (by omega) (by omega)), (e _ _ (by omega) (by omega)).trans h37, ?_, fun i hi => by omega, fun i hi => by omega, fun i hi => by omega, ⟨fun j _ => e _ _ (by omega) (by omega), fun j _ => e _ _ (by omega) (by omega), fun j _ => e _ _ (by omega) (by omega)⟩, ⟨wv_u_at _ _ _ _, trivial⟩, fun y hy => by rw [List.mem_singleton.mp hy]; exact d3, fun c j z1 z2 z3 z4 z5 z6 z7 z8 => e _ _ (by omega) (by omega), fun _ _ _ => rfl⟩
    rw [wv_u_no _ _ (by omega), wv_u_at]
    rfl
  · intro pc P hP m lv st T1 N1 I1 L1 R1 nc ns hh
    have hX2 := hX
    obtain ⟨hT, hn5, hm0, hM⟩ := hX
    obtain ⟨d1, d2, d3, d4, d5, d6, d7⟩ := hD

    have c10 : ((Int8.ofInt 10).toInt32).toInt = 10 := rfl
    have c12 : ((Int8.ofInt 12).toInt32).toInt = 12 := rfl
    have c13 : ((Int8.ofInt 13).toInt32).toInt = 13 := rfl
    have c15 : ((Int8.ofInt 15).toInt32).toInt = 15 := rfl
    have c31 : ((Int8.ofInt 31).toInt32).toInt = 31 := rfl
    have c32 : ((Int8.ofInt 32).toInt32).toInt = 32 := rfl
    have c33 : ((Int8.ofInt 33).toInt32).toInt = 33 := rfl
    unfold fp_h439 at hP
    by_cases p21 : pc = 21
    · rw [if_pos p21] at hP
      cases hP
      subst p21
      obtain ⟨k, l, pn, x4, x5, rfl, rfl, rfl, rfl, rfl, rfl, rfl, hZ, hc, rfl⟩ := hh
      have hle := fp_c_le hc
      have el := wi_on (n := l.length) (by omega)
      refine ⟨fun w => ?_, fun w => ?_⟩
      · have w : Int32.ofNat l.length ≤ 0 := w
        rw [wi_le, el, wi_0] at w
        cases l with
        | nil =>
          have hc : k = pd_m P := hc
          subst hc
          obtain ⟨h1, h2, h3, h4, h5, h6, h7, h8, h9, h10, h11⟩ := hZ
          exact h pn _ _ h4 h5 h3 h6 h10 h11
        | cons n l =>
          simp only [List.length_cons] at w
          omega
      · have w : ¬ Int32.ofNat l.length ≤ 0 := w
        rw [wi_le, el, wi_0] at w
        cases l with
        | nil => exact absurd w (by simp)
        | cons n l =>
          have hlen : (n :: l).length = l.length + 1 := rfl
          rw [hlen] at hle
          obtain ⟨c1, c2, c3⟩ := hc
          have hZ2 := hZ
          obtain ⟨h1, h2, h3, h4, h5, h6, h7, h8, h9, h10, h11⟩ := hZ
          have hQ := h9 n List.mem_cons_self
          obtain ⟨hnn, hfl⟩ := d2 n hQ
          have es : Int32.ofNat (n :: l).length + Int32.ofInt (-1) = Int32.ofNat l.length := by
            rw [hlen, pb_dn_s (by omega), ← pb_dn_1]
          have eln := wi_onn (n := l.length) (by omega)
          have enn := wi_onn (n := n) (by omega)
          have ekn := wi_onn (n := k) (by omega)
          have e469 : I1 469 n = Int32.ofNat (rn_k S n) := (h1.2.2.2 n hnn).1
          refine ⟨_, wm_t hT rfl, by rw [es]; exact pp_b (c := 420) (by omega) (by omega), ?_⟩
          rw [es, eln, h8.1]
          refine ⟨_, wm_t hT rfl, pp_b (c := 800) (by omega) (by omega), ?_⟩
          rw [enn, e469]
          refine ⟨_, wm_t hT rfl, by rw [h3]; exact pp_b (c := 420) (by omega) (by omega), by decide, ?_⟩
          rw [h3, ekn]
          have h94b : wv_u I1 523 k (Int32.ofNat n) 460 94 = Int32.ofNat k := by
            rw [wv_u_no _ _ (by omega)]
            exact h3
          refine ⟨_, wm_t hT rfl, by rw [h94b]; exact pp_b (c := 420) (by omega) (by omega), by decide, ?_⟩
          rw [h94b, ekn]
          have h94c : wv_u (wv_u I1 523 k (Int32.ofNat n)) 524 k (Int32.ofNat (4 * p + fs P k)) 460 94 = Int32.ofNat k := by
            rw [wv_u_no _ _ (by omega)]
            exact h94b
          refine ⟨10 * (1000 - k) + 8, by omega, k, n, l, pn, rfl, rfl, rfl, rfl, rfl, rfl, rfl, fp_pop hZ2 (fun c j z1 z2 => ?_), ?_, ?_, ?_, hQ, c1, c3, rfl⟩
          · by_cases c9 : c = 460 ∧ j = 94
            · obtain ⟨rfl, rfl⟩ := c9
              rw [wv_u_at]
              exact h3.symm
            · rw [wv_u_no _ _ c9, wv_u_no _ _ c9, wv_u_no _ _ z2, wv_u_no _ _ z1]
          · rw [wv_u_at, h94c]
            exact wq_4s k
          · rw [wv_u_no _ _ (by omega), wv_u_no _ _ (by omega), wv_u_at]
          · rw [wv_u_no _ _ (by omega), wv_u_at]
    rw [if_neg p21] at hP
    by_cases p76 : pc = 76
    · rw [if_pos p76] at hP
      cases hP
      subst p76
      obtain ⟨k, n, l, pn, rfl, rfl, rfl, rfl, rfl, rfl, rfl, hZ, h94, h523, h524, hQ, hpa, hc, rfl⟩ := hh
      obtain ⟨hnn, hfl⟩ := d2 n hQ
      have hk100 : rn_k S n < 100 := by unfold fl_prop at hfl; omega
      have hle := fp_c_le hc
      have hlt := (d1 n hQ).2.2.2.1
      obtain ⟨f1, f2, _⟩ := fs_tr (d1 n hQ).1
      rw [hpa] at f1 f2 hlt
      have f1 : fs_b (pd_k P k) ↔ tr_S (rn_k S n) := f1
      have hkm : k + 1 ≤ pd_m P := by omega
      refine ⟨rn_k S n, rfl, hk100, ?_⟩
      have hM1 := hZ.1.2.2.2
      have e470 : ¬ rn_k S n = 60 → I1 470 n = Int32.ofNat (nq_l (rn_d S n)) := fun z => (wv_u_no I1 (Int32.ofNat k) (by omega)).symm.trans (mr_nd (hM1 n hnn) z).2.1
      refine ⟨fun w => ?_, fun w => ?_⟩
      · have w := of_decide_eq_false (wb_i_2.mp (fun z => z w))
        have hb : ¬ fs_b (pd_k P k) := fun z => by
          have := f1.mp z
          unfold tr_S at this
          omega
        refine ⟨10 * (1000 - k) + 7, by omega, k, n, l, po_u pn k n, ?_, rfl, rfl, rfl, rfl, rfl, rfl, fp_next hp hZ h94 h523 h524 hQ hpa (Or.inr hb) (fun _ _ _ _ _ _ _ _ _ => rfl) (fun _ => rfl) (fun _ _ _ => rfl) (fun z => (hb z).elim), hQ, hpa, hc, rfl⟩
        rw [fs_n hb]
      · have w := of_decide_eq_true (wb_i_1.mp w)
        have hts : tr_S (rn_k S n) := by
          unfold tr_S
          omega
        have hb := f1.mpr hts
        have hf3 : fs P k + 1 ≤ 4 := by
          have := fs_lt (P := P) hkm
          rw [fs_y hb] at this
          omega
        obtain ⟨r1, r2, r3⟩ := hr n hQ hts
        rw [hpa] at r3
        have enn := wi_onn (n := n) (by omega)
        refine ⟨_, wm_t hT rfl, pp_b (c := 800) (by omega) (by omega), ?_⟩
        rw [enn, e470 (by omega)]
        obtain ⟨g1, g2, g3, g4, g5, g6, g7, g8, g9, g10, g11⟩ := id hZ
        have g7b : fp_s (4 * p + fs P k) I I1 := ⟨fun j hj => (wv_u_no I1 (Int32.ofNat k) (by omega)).symm.trans (g7.1 j hj), fun j hj => (wv_u_no I1 (Int32.ofNat k) (by omega)).symm.trans (g7.2.1 j hj), fun j hj => (wv_u_no I1 (Int32.ofNat k) (by omega)).symm.trans (g7.2.2 j hj)⟩
        have hX1 : pb_X T1 I1 S m0 := fp_X g1 (fun c j c1 c2 => (wv_u_no I1 (Int32.ofNat k) (by omega)).symm)
        have h371 : I1 460 37 = Int32.ofNat (rn_n S) := (wv_u_no I1 (Int32.ofNat k) (by omega)).symm.trans g2
        have fin : ∀ (I2 : Nat → Nat → Int32) (L2 : Nat → Nat → Int64), rk_FI (4 * p + fs P k) I1 I2 → rk_FL L1 L2 → (∃ K mv kd, rk_c (U (nq_l (rn_d S n))) K mv kd ∧ rk_T (4 * p + fs P k) K mv kd I2) → fp_Z p S m0 P Q pa pb U (po_u pn k n) (k + 1) l T1 I L I2 L2 := fun I2 L2 y1 y2 y3 => fp_next hp hZ h94 h523 h524 hQ hpa (Or.inl (by omega)) y1 (fun z => (z hb).elim) y2 (fun _ => y3)
        have lst : fp_l p l.length (4 * p + fs P (k + 1)) (pb_i n) (pb_i (rn_k S n)) = [some (.ref 460), some (.int (Int32.ofNat p)), some (.int (Int32.ofNat l.length)), some (.int (Int32.ofNat (4 * p + fs P k) + Int32.ofInt 1)), pb_i n, pb_i (rn_k S n), none, none] := by
          rw [fs_y hb, wq_4s]
          rfl
        rcases r3 with r3 | ⟨K, mv, kd, q1, q2⟩
        · refine ⟨S, m0, 4 * p + fs P k, nq_l (rn_d S n), 0, lo, U, cl n, Al n, rfl, hT, by omega, (g7b.1 _ (Nat.le_refl _)).trans r3, by omega, fun z => by omega, fun _ => ⟨hX1, h371, r1, r2, fun K mv kd I2 L2 y1 y2 y3 y4 => ?_⟩⟩
          exact ⟨10 * (1000 - k) + 7, by omega, k, n, l, po_u pn k n, lst.symm, rfl, rfl, rfl, rfl, rfl, rfl, fin I2 L2 y3 y4 ⟨K, mv, kd, y1, y2⟩, hQ, hpa, hc, rfl⟩
        · have q3 := fp_s_T q2 g7b (Nat.le_refl _)
          refine ⟨S, m0, 4 * p + fs P k, nq_l (rn_d S n), K, lo, U, cl n, Al n, rfl, hT, by omega, q3.1, by have := q3.2.2.1; omega, fun _ => ?_, fun z => by have := q3.2.1; omega⟩
          exact ⟨10 * (1000 - k) + 7, by omega, k, n, l, po_u pn k n, lst.symm, rfl, rfl, rfl, rfl, rfl, rfl, fin I1 L1 (fun _ _ _ _ _ _ _ _ _ => rfl) (fun _ _ _ => rfl) ⟨K, mv, kd, q1, q3⟩, hQ, hpa, hc, rfl⟩
    rw [if_neg p76] at hP
    by_cases p99 : pc = 99
    · rw [if_pos p99] at hP
      cases hP
      subst p99
      obtain ⟨k, n, l, pn, rfl, rfl, rfl, rfl, rfl, rfl, rfl, hZ, hQ, hpa, hc, rfl⟩ := hh
      obtain ⟨hnn, hfl⟩ := d2 n hQ
      have hk100 : rn_k S n < 100 := by unfold fl_prop at hfl; omega
      have ek := wi_on (n := rn_k S n) (by omega)
      have hle := fp_c_le hc
      have hlt := (d1 n hQ).2.2.2.1
      rw [hpa] at hlt
      have eln := wi_onn (n := l.length) (by omega)
      have enn := wi_onn (n := n) (by omega)
      have hM1 := hZ.1.2.2.2
      obtain ⟨kN, kR, _⟩ := fp_kids d1 hQ hpa hc
      refine ⟨fun w15 => ?_, fun w15 => ?_⟩
      · rw [wi_eq, ek, c15] at w15
        have hR : tr_R (rn_k S n) := by
          unfold tr_R
          omega
        obtain ⟨kr1, kr2, kr3⟩ := kR hR
        have hrn := (d2 _ kr1).1
        have e471 : I1 471 n = Int32.ofNat (nq_r (rn_d S n)) := (mr_nd (hM1 n hnn) (by omega)).2.2
        refine ⟨_, wm_t hT rfl, pp_b (c := 800) (by omega) (by omega), ?_⟩
        rw [enn, e471]
        refine ⟨_, wm_t hT rfl, pp_b (c := 420) (by omega) (by omega), by decide, ?_⟩
        rw [eln]
        refine ⟨10 * (1000 - k) + 6, by omega, k, n, nq_r (rn_d S n) :: l, pn, ?_, rfl, rfl, rfl, rfl, rfl, rfl, fp_push hZ kr1, hQ, hpa, kr2, kr3, rfl⟩
        unfold fp_l
        rw [show (nq_r (rn_d S n) :: l).length = l.length + 1 from rfl, ← wq_4s l.length]
        rfl
      rw [wi_eq, ek, c15] at w15
      refine ⟨fun w32 => ?_, fun w32 => ?_⟩
      · rw [wi_eq, ek, c32] at w32
        have hR : tr_R (rn_k S n) := by
          unfold tr_R
          omega
        obtain ⟨kr1, kr2, kr3⟩ := kR hR
        have hrn := (d2 _ kr1).1
        have e471 : I1 471 n = Int32.ofNat (nq_r (rn_d S n)) := (mr_nd (hM1 n hnn) (by omega)).2.2
        refine ⟨_, wm_t hT rfl, pp_b (c := 800) (by omega) (by omega), ?_⟩
        rw [enn, e471]
        refine ⟨_, wm_t hT rfl, pp_b (c := 420) (by omega) (by omega), by decide, ?_⟩
        rw [eln]
        refine ⟨10 * (1000 - k) + 6, by omega, k, n, nq_r (rn_d S n) :: l, pn, ?_, rfl, rfl, rfl, rfl, rfl, rfl, fp_push hZ kr1, hQ, hpa, kr2, kr3, rfl⟩
        unfold fp_l
        rw [show (nq_r (rn_d S n) :: l).length = l.length + 1 from rfl, ← wq_4s l.length]
        rfl
      rw [wi_eq, ek, c32] at w32
      refine ⟨fun w33 => ?_, fun w33 => ?_⟩
      · rw [wi_eq, ek, c33] at w33
        have hR : tr_R (rn_k S n) := by
          unfold tr_R
          omega
        obtain ⟨kr1, kr2, kr3⟩ := kR hR
        have hrn := (d2 _ kr1).1
        have e471 : I1 471 n = Int32.ofNat (nq_r (rn_d S n)) := (mr_nd (hM1 n hnn) (by omega)).2.2
        refine ⟨_, wm_t hT rfl, pp_b (c := 800) (by omega) (by omega), ?_⟩
        rw [enn, e471]
        refine ⟨_, wm_t hT rfl, pp_b (c := 420) (by omega) (by omega), by decide, ?_⟩
        rw [eln]
        refine ⟨10 * (1000 - k) + 6, by omega, k, n, nq_r (rn_d S n) :: l, pn, ?_, rfl, rfl, rfl, rfl, rfl, rfl, fp_push hZ kr1, hQ, hpa, kr2, kr3, rfl⟩
        unfold fp_l
        rw [show (nq_r (rn_d S n) :: l).length = l.length + 1 from rfl, ← wq_4s l.length]
        rfl
      rw [wi_eq, ek, c33] at w33
      refine ⟨fun w31 => ?_, fun w31 => ?_⟩
      · rw [wi_eq, ek, c31] at w31
        have hR : ¬ tr_R (rn_k S n) := by
          unfold tr_R
          omega
        obtain ⟨kr2, kr3⟩ := kN hR
        exact ⟨10 * (1000 - k) + 6, by omega, k, n, l, pn, rfl, rfl, rfl, rfl, rfl, rfl, rfl, hZ, hQ, hpa, kr2, kr3, rfl⟩
      · rw [wi_eq, ek, c31] at w31
        have hR : tr_R (rn_k S n) := by
          unfold tr_R
          omega
        obtain ⟨kr1, kr2, kr3⟩ := kR hR
        have hrn := (d2 _ kr1).1
        have e471 : I1 471 n = Int32.ofNat (nq_r (rn_d S n)) := (mr_nd (hM1 n hnn) (by omega)).2.2
        refine ⟨_, wm_t hT rfl, pp_b (c := 800) (by omega) (by omega), ?_⟩
        rw [enn, e471]
        refine ⟨_, wm_t hT rfl, pp_b (c := 420) (by omega) (by omega), by decide, ?_⟩
        rw [eln]
        refine ⟨10 * (1000 - k) + 6, by omega, k, n, nq_r (rn_d S n) :: l, pn, ?_, rfl, rfl, rfl, rfl, rfl, rfl, fp_push hZ kr1, hQ, hpa, kr2, kr3, rfl⟩
        unfold fp_l
        rw [show (nq_r (rn_d S n) :: l).length = l.length + 1 from rfl, ← wq_4s l.length]
        rfl
    rw [if_neg p99] at hP
    by_cases p143 : pc = 143
    · rw [if_pos p143] at hP
      cases hP
      subst p143
      obtain ⟨k, n, l, pn, rfl, rfl, rfl, rfl, rfl, rfl, rfl, hZ, hQ, hpa, kX, kY, rfl⟩ := hh
      obtain ⟨hnn, hfl⟩ := d2 n hQ
      have hk100 : rn_k S n < 100 := by unfold fl_prop at hfl; omega
      have ek := wi_on (n := rn_k S n) (by omega)
      have hle : tr_L (rn_k S n) → k + 1 + (l.length + 1) ≤ pd_m P := fun z => fp_c_le (kY z)
      have hle2 : ¬ tr_L (rn_k S n) → k + 1 + l.length ≤ pd_m P := fun z => fp_c_le (kX z)
      have hle3 : k + 1 + l.length ≤ pd_m P := by
        by_cases z : tr_L (rn_k S n)
        · have := hle z
          omega
        · exact hle2 z
      have eln := wi_onn (n := l.length) (by omega)
      have enn := wi_onn (n := n) (by omega)
      have hM1 := hZ.1.2.2.2
      refine ⟨fun w15 => ?_, fun w15 => ?_⟩
      · rw [wi_eq, ek, c15] at w15
        have hLt : tr_L (rn_k S n) := by
          unfold tr_L
          omega
        have kl1 := ((d1 n hQ).2.1 hLt).2
        have hln := (d2 _ kl1).1
        have e470 : I1 470 n = Int32.ofNat (nq_l (rn_d S n)) := (mr_nd (hM1 n hnn) (by omega)).2.1
        refine ⟨_, wm_t hT rfl, pp_b (c := 800) (by omega) (by omega), ?_⟩
        rw [enn, e470]
        refine ⟨_, wm_t hT rfl, pp_b (c := 420) (by omega) (by omega), by decide, ?_⟩
        rw [eln]
        refine ⟨10 * (1000 - (k + 1)) + 9, by omega, k + 1, nq_l (rn_d S n) :: l, pn, _, _, by unfold fp_l; rw [show (nq_l (rn_d S n) :: l).length = l.length + 1 from rfl, ← wq_4s l.length]; rfl, rfl, rfl, rfl, rfl, rfl, rfl, fp_push hZ kl1, kY hLt, rfl⟩
      rw [wi_eq, ek, c15] at w15
      refine ⟨fun w10 => ?_, fun w10 => ?_⟩
      · rw [wi_eq, ek, c10] at w10
        have hLt : tr_L (rn_k S n) := by
          unfold tr_L
          omega
        have kl1 := ((d1 n hQ).2.1 hLt).2
        have hln := (d2 _ kl1).1
        have e470 : I1 470 n = Int32.ofNat (nq_l (rn_d S n)) := (mr_nd (hM1 n hnn) (by omega)).2.1
        refine ⟨_, wm_t hT rfl, pp_b (c := 800) (by omega) (by omega), ?_⟩
        rw [enn, e470]
        refine ⟨_, wm_t hT rfl, pp_b (c := 420) (by omega) (by omega), by decide, ?_⟩
        rw [eln]
        refine ⟨10 * (1000 - (k + 1)) + 9, by omega, k + 1, nq_l (rn_d S n) :: l, pn, _, _, by unfold fp_l; rw [show (nq_l (rn_d S n) :: l).length = l.length + 1 from rfl, ← wq_4s l.length]; rfl, rfl, rfl, rfl, rfl, rfl, rfl, fp_push hZ kl1, kY hLt, rfl⟩
      rw [wi_eq, ek, c10] at w10
      refine ⟨fun w12 => ?_, fun w12 => ?_⟩
      · rw [wi_eq, ek, c12] at w12
        have hLt : tr_L (rn_k S n) := by
          unfold tr_L
          omega
        have kl1 := ((d1 n hQ).2.1 hLt).2
        have hln := (d2 _ kl1).1
        have e470 : I1 470 n = Int32.ofNat (nq_l (rn_d S n)) := (mr_nd (hM1 n hnn) (by omega)).2.1
        refine ⟨_, wm_t hT rfl, pp_b (c := 800) (by omega) (by omega), ?_⟩
        rw [enn, e470]
        refine ⟨_, wm_t hT rfl, pp_b (c := 420) (by omega) (by omega), by decide, ?_⟩
        rw [eln]
        refine ⟨10 * (1000 - (k + 1)) + 9, by omega, k + 1, nq_l (rn_d S n) :: l, pn, _, _, by unfold fp_l; rw [show (nq_l (rn_d S n) :: l).length = l.length + 1 from rfl, ← wq_4s l.length]; rfl, rfl, rfl, rfl, rfl, rfl, rfl, fp_push hZ kl1, kY hLt, rfl⟩
      rw [wi_eq, ek, c12] at w12
      refine ⟨fun w13 => ?_, fun w13 => ?_⟩
      · rw [wi_eq, ek, c13] at w13
        have hLt : ¬ tr_L (rn_k S n) := by
          unfold tr_L
          omega
        exact ⟨10 * (1000 - (k + 1)) + 9, by omega, k + 1, l, pn, _, _, rfl, rfl, rfl, rfl, rfl, rfl, rfl, hZ, kX hLt, rfl⟩
      · rw [wi_eq, ek, c13] at w13
        have hLt : tr_L (rn_k S n) := by
          unfold tr_L
          omega
        have kl1 := ((d1 n hQ).2.1 hLt).2
        have hln := (d2 _ kl1).1
        have e470 : I1 470 n = Int32.ofNat (nq_l (rn_d S n)) := (mr_nd (hM1 n hnn) (by omega)).2.1
        refine ⟨_, wm_t hT rfl, pp_b (c := 800) (by omega) (by omega), ?_⟩
        rw [enn, e470]
        refine ⟨_, wm_t hT rfl, pp_b (c := 420) (by omega) (by omega), by decide, ?_⟩
        rw [eln]
        refine ⟨10 * (1000 - (k + 1)) + 9, by omega, k + 1, nq_l (rn_d S n) :: l, pn, _, _, by unfold fp_l; rw [show (nq_l (rn_d S n) :: l).length = l.length + 1 from rfl, ← wq_4s l.length]; rfl, rfl, rfl, rfl, rfl, rfl, rfl, fp_push hZ kl1, kY hLt, rfl⟩
    rw [if_neg p143] at hP
    cases hP
