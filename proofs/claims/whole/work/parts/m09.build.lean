/-! ===== the class: classes are built ===== -/
/-- what classes that were built tell -/
def kc_res (E B g : Nat) (A : nt_A) (I : Nat → Nat → Int32) : Prop := ∃ (K : Nat) (mv : Nat → Nat → Nat) (kd : Nat → Nat), K ≤ 65 ∧ I E 5 = Int32.ofNat g ∧ g < 64 ∧ I E 8 = Int32.ofNat K ∧ (∀ c, c < K → I (E + 2) c = Int32.ofNat (kd c) ∧ kd c ≤ 3) ∧ (∀ c v, c < K → v < 64 → I B (c * 64 + (v &&& g)) = Int32.ofNat (mv c v)) ∧ df_ok K mv ∧ df_bf K mv ∧ df_min K mv kd ∧ ∀ z, df_w z → kc_z A g z (kd (df_run mv 0 z))
def kc_bF (E B : Nat) (I I1 : Nat → Nat → Int32) : Prop := ∀ c j, ¬ (c = E ∧ 5 ≤ j ∧ j ≤ 8) → ¬ (E + 2 ≤ c ∧ c ≤ E + 4) → ¬ c = B → I1 c j = I c j
def kc_co (E B g : Nat) (A : nt_A) (q : wv_Q) (T : wv_T) (N : Nat) (I : Nat → Nat → Int32) (L : Nat → Nat → Int64) (R : Nat → Nat → Option Nat) (nc ns : Nat) : Prop := ∀ I2 L2, kc_res E B g A I2 → kc_bF E B I I2 → kc_FL E L L2 → q (.inl none) T N I2 L2 R nc ns
theorem kc_co_t {E B g : Nat} {A : nt_A} {q : wv_Q} {T : wv_T} {N : Nat} {I I1 : Nat → Nat → Int32} {L L1 : Nat → Nat → Int64} {R : Nat → Nat → Option Nat} {nc ns : Nat} (h : kc_co E B g A q T N I L R nc ns) (f : kc_bF E B I I1) (fl : kc_FL E L L1) : kc_co E B g A q T N I1 L1 R nc ns := fun I2 L2 h1 h2 h3 => h I2 L2 h1 (fun c j z1 z2 z3 => (h2 c j z1 z2 z3).trans (f c j z1 z2 z3)) (fun c j z => (h3 c j z).trans (fl c j z))
theorem kc_Q_I {T : wv_T} {I I1 : Nat → Nat → Int32} {L : Nat → Nat → Int64} {R : Nat → Nat → Option Nat} {E Q w g : Nat} {A : nt_A} (h : kc_Q T I L R E Q A w g) (f : ∀ j, I1 Q j = I Q j) : kc_Q T I1 L R E Q A w g := by
  obtain ⟨⟨a1, a2, a3, a4, a5⟩, hs⟩ := h
  exact ⟨⟨a1, (f _).trans a2, (f _).trans a3, (f _).trans a4, a5⟩, hs⟩
theorem kc_Q_T {T : wv_T} {N : Nat} {x : Nat ⊕ (Nat × Nat)} {I : Nat → Nat → Int32} {L : Nat → Nat → Int64} {R : Nat → Nat → Option Nat} {E Q w g : Nat} {A : nt_A} (hN : T N = none) (hE : ¬ E = Q) (h : kc_Q T I L R E Q A w g) : kc_Q (wv_n T N x) (wv_z I N 0) (wv_z L N 0) (wv_u (wv_z R N none) E 4 (some N)) E Q A w g := by
  obtain ⟨⟨a1, a2, a3, a4, a5, a6, a7, a8, B2, len2, b1, b2, b3, b4⟩, hs⟩ := h
  have nQ : ¬ Q = N := fun z => by rw [z, hN] at a1; cases a1
  have nB : ¬ B2 = N := fun z => by rw [z, hN] at b2; cases b2
  have eT : ∀ y, ¬ y = N → wv_n T N x y = T y := fun y hy => if_neg hy
  have eI : ∀ y j, ¬ y = N → wv_z I N 0 y j = I y j := fun y j hy => if_neg hy
  have eL : ∀ y j, ¬ y = N → wv_z L N 0 y j = L y j := fun y j hy => if_neg hy
  have eR : wv_u (wv_z R N none) E 4 (some N) Q 0 = R Q 0 := by
    rw [wv_u_no _ _ (fun z => hE z.1.symm)]
    exact if_neg nQ
  refine ⟨⟨by rw [eT _ nQ]; exact a1, by rw [eI _ _ nQ]; exact a2, by rw [eI _ _ nQ]; exact a3, by rw [eI _ _ nQ]; exact a4, a5, a6, fun t ht => by rw [eL _ _ nQ]; exact a7 t ht, fun t ht => by rw [eL _ _ nQ]; exact a8 t ht, B2, len2, by rw [eR]; exact b1, by rw [eT _ nB]; exact b2, b3, fun s v t h1 h2 h3 h4 => by rw [eL _ _ nB]; exact b4 s v t h1 h2 h3 h4⟩, fun B3 h3 => ?_⟩
  rw [eR] at h3
  exact hs B3 h3
theorem kc_D_T {T : wv_T} {N : Nat} {x : Nat ⊕ (Nat × Nat)} {R : Nat → Nat → Option Nat} {E : Nat} (hN : T N = none) (h : kc_D T R E) : kc_D (wv_n T N x) (wv_u (wv_z R N none) E 4 (some N)) E := by
  obtain ⟨hE, r0, r1, r2, r3, t1, t2, t3, t4, hb⟩ := h
  have eT : ∀ y v, T y = some v → wv_n T N x y = some v := fun y v hy => by
    unfold wv_n
    rw [if_neg (fun z => by rw [z, hN] at hy; cases hy)]
    exact hy
  have nE : ¬ E = N := fun z => by rw [z, hN] at hE; cases hE
  have eR : ∀ j, ¬ j = 4 → wv_u (wv_z R N none) E 4 (some N) E j = R E j := fun j hj => by
    rw [wv_u_no _ _ (fun z => hj z.2)]
    exact if_neg nE
  exact ⟨eT _ _ hE, (eR 0 (by omega)).trans r0, (eR 1 (by omega)).trans r1, (eR 2 (by omega)).trans r2, (eR 3 (by omega)).trans r3, eT _ _ t1, eT _ _ t2, eT _ _ t3, eT _ _ t4, hb⟩
theorem kc_kd_3 {A : nt_A} {x : Int64} {k : Nat} (h : kc_kd A x k) : k ≤ 3 := by
  rcases h with ⟨e, _⟩ | ⟨e, _⟩ | ⟨e, _⟩ <;> omega
/-- what was found is what the class holds -/
theorem kc_M_of {E B g : Nat} {A : nt_A} {ss : List Int64} {tb : Nat → Nat → Nat} {kd : Nat → Nat} {I I1 : Nat → Nat → Int32} {L L1 : Nat → Nat → Int64} (hE : E + 4 < 460) (hB : 535 < B) (hg : g < 64) (h5 : I E 5 = Int32.ofNat g) (h6 : I E 6 = Int32.ofNat (2 ^ sb_c g)) (hx : kx A g ss tb ss.length 0) (hl : kc_l E B g ss tb ss.length 0 I I1 L L1) (hk : ∀ i x, ss[i]? = some x → I1 (E + 2) i = Int32.ofNat (kd i) ∧ kc_kd A x (kd i)) : kc_M E B g ss.length tb kd I1 := by
  obtain ⟨⟨l1, l2, l3⟩, l4, l5, l6⟩ := hl
  refine ⟨l1, l2, (l5 _ _ (by omega) (by omega) (by omega)).trans h5, hg, (l5 _ _ (by omega) (by omega) (by omega)).trans h6, fun i hi => ?_, fun c k hc hk2 => ⟨l4 c k (Or.inl hc) hk2, (hx.2.2.2.2.1 c k (Or.inl hc) hk2).1⟩⟩
  obtain ⟨q1, q2⟩ := hk i _ (List.getElem?_eq_getElem hi)
  exact ⟨q1, kc_kd_3 q2⟩
def kc_l5 (E Q : Nat) (x2 x3 : Option Value) : List (Option Value) := [some (.ref E), some (.ref Q), x2, x3, none, none]
def kc_h205 (E Q w g : Nat) (A : nt_A) (q : wv_Q) : Nat → Option (Nat → wv_P) := fun pc =>
  if pc = 17 then some (fun mm lv st T1 N1 I1 L1 R1 nc ns => ∃ B : Nat, lv = kc_l5 E Q none none ∧ st = [] ∧ kc_D T1 R1 E ∧ kc_B T1 R1 E B ∧ kc_Q T1 I1 L1 R1 E Q A w g ∧ kc_co E B g A q T1 N1 I1 L1 R1 nc ns ∧ mm = 1000)
  else if pc = 46 then some (fun mm lv st T1 N1 I1 L1 R1 nc ns => ∃ (B r : Nat) (ss : List Int64) (tb : Nat → Nat → Nat) (kd gr : Nat → Nat) (sp : Bool), lv = kc_l5 E Q (some (.int (wb_i sp))) (some (.int (Int32.ofNat r))) ∧ st = [] ∧ kc_D T1 R1 E ∧ kc_B T1 R1 E B ∧ kc_M E B g ss.length tb kd I1 ∧ kc_G E ss.length gr I1 ∧ kx A g ss tb ss.length 0 ∧ (∀ i x, ss[i]? = some x → kc_kd A x (kd i)) ∧ kgr ss.length (kc_mv tb g) kd gr ∧ (sp = true → r ≤ nz_c (kg_c ss.length gr) ss.length) ∧ (sp = false → df_st ss.length (kc_mv tb g) kd gr) ∧ r ≤ 66 ∧ kc_co E B g A q T1 N1 I1 L1 R1 nc ns ∧ mm = 500 - r)
  else none
/-- the end of building -/
theorem kc_res_of {E B g : Nat} {A : nt_A} {ss : List Int64} {tb : Nat → Nat → Nat} {kd gr : Nat → Nat} {I I2 : Nat → Nat → Int32} (hA : nt_n A ≤ 6) (hM : kc_M E B g ss.length tb kd I) (hE : E + 4 < 460) (hB : 535 < B) (hx : kx A g ss tb ss.length 0) (hk : ∀ i x, ss[i]? = some x → kc_kd A x (kd i)) (hr : kgr ss.length (kc_mv tb g) kd gr) (hs : df_st ss.length (kc_mv tb g) kd gr) (h8 : I2 E 8 = Int32.ofNat (kn gr ss.length)) (hF : kc_nF E B I I2) (hn : ∀ x, x < ss.length → gr x = x → I2 (E + 2) (kn gr x) = Int32.ofNat (kd x) ∧ ∀ k, k < 2 ^ sb_c g → I2 B (kn gr x * 64 + sb_v g k) = Int32.ofNat (kn gr (gr (tb x (sb_v g k))))) : kc_res E B g A I2 := by
  obtain ⟨m7, mK, m5, hg, m6, mk, mt⟩ := hM
  obtain ⟨a1, a2, a3, a4⟩ := kc_all hg hA hx hk hr hs
  have few := kc_few hx.2.1 hx.2.2.1
  have hb := kn_b (gr := gr) ss.length
  refine ⟨kn gr ss.length, _, _, by omega, (hF _ _ (by omega) (by omega) (by omega) (by omega)).trans m5, hg, h8, fun c hc => ?_, fun c v hc hv => ?_, a1, a2, a3, a4⟩
  · obtain ⟨f1, f2, f3⟩ := kf_at ss.length c hc
    have := (hn _ f1 f2).1
    rw [f3] at this
    exact ⟨this, (mk _ f1).2⟩
  · obtain ⟨f1, f2, f3⟩ := kf_at ss.length c hc
    obtain ⟨k, k1, k2⟩ := sb_ex hg (Nat.lt_of_le_of_lt Nat.and_le_left hv) (kc_and (g := g) (v := v))
    have := (hn _ f1 f2).2 k k1
    rw [f3, k2] at this
    exact this
def kc_c205 : wv_c1 := fun as T N I L R q => ∃ (E B Q w g : Nat) (A : nt_A), as = [.ref E, .ref Q] ∧ kc_D T R E ∧ kc_Q T I L R E Q A w g ∧ nt_n A ≤ 6 ∧ R E 4 = some B ∧ 535 < N ∧ N < 1000000000 ∧ ((T B = some (.inr (0, 4224)) ∧ 535 < B ∧ B < 1099511627776 ∧ kc_co E B g A q T N I L R 0 0) ∨ (T B = some (.inr (0, 0)) ∧ (T N = none → kc_co E N g A q (wv_n T N (.inr (0, 4224))) (N + 1) (wv_z I N 0) (wv_z L N 0) (wv_u (wv_z R N none) E 4 (some N)) 1 (0 + 4224))))
set_option maxRecDepth 100000 in
theorem wM_205 : ∃ cb ci np, pt_mt 205 = some (10, cb, 4, false, none, ci, np) := ⟨_, _, _, rfl⟩
set_option maxRecDepth 100000 in
set_option maxHeartbeats 4000000 in
theorem kc_build {sc : pt_Sc} {d : Nat} : wv_C wm_fx sc (d + 1 + 1 + 1) 205 kc_c205 := by
  rintro as T N I L R q ⟨E, B, Q, w, g, A, rfl, hD, hQ, hA, hR, hN1, hN2, hB⟩ w0 HR
  obtain ⟨cb, ci, np, hm⟩ := wM_205
  have hc206 : wv_C wm_fx sc (d + 1 + 1) 206 sq_c206 := wv_C_deep (by omega) (sq_signals (d := d))
  have hc167 : wv_C wm_fx sc (d + 1 + 1) 167 ww_c167 := wv_C_deep (by omega) (ww_letterCount (d := d))
  have hc207 : wv_C wm_fx sc (d + 1 + 1) 207 kc_c207 := wv_C_deep (by omega) (kc_explore (d := d))
  have hc209 : wv_C wm_fx sc (d + 1 + 1) 209 kc_c209 := wv_C_deep (by omega) (kc_group (d := d))
  have hc210 : wv_C wm_fx sc (d + 1 + 1) 210 kc_c210 := wv_C_deep (by omega) (kc_split (d := d))
  have hc212 : wv_C wm_fx sc (d + 1 + 1) 212 kc_c212 := wv_C_deep (by omega) (kc_numberGroups (d := d))
  refine wv_meth (hh := none) rfl (sp := wv_sp [(206, sq_c206), (167, ww_c167), (207, kc_c207), (209, kc_c209), (210, kc_c210), (212, kc_c212)]) (hd := kc_h205 E Q w g A q) (n := 300) (n1 := 300) hm zc_205 rfl (wv_sp_ok (fun q hq => by
    rcases List.mem_cons.mp hq with h | h
    · rw [h]; exact hc206
    rcases List.mem_cons.mp h with h | h
    · rw [h]; exact hc167
    rcases List.mem_cons.mp h with h | h
    · rw [h]; exact hc207
    rcases List.mem_cons.mp h with h | h
    · rw [h]; exact hc209
    rcases List.mem_cons.mp h with h | h
    · rw [h]; exact hc210
    rw [List.mem_singleton.mp h]; exact hc212)) ?_ ?_ HR
  · rcases hB with ⟨b2, b3, b4, h⟩ | ⟨b2, h⟩
    · refine ⟨hD.1, _, hR, _, _, b2, fun w1 => ?_, fun w1 => ?_⟩
      · exact ⟨1000, B, rfl, rfl, hD, ⟨hR, b2, b3, b4⟩, hQ, h, rfl⟩
      · exact (w1 (by decide)).elim
    · refine ⟨hD.1, _, hR, _, _, b2, fun w1 => ?_, fun w1 => ?_⟩
      · exact (w1 (by decide)).elim
      · refine ⟨⟨hN2, by decide, by decide⟩, fun hNn => ?_⟩
        have hD2 := kc_D_T (x := .inr (0, 4224)) hNn hD
        refine ⟨⟨hD2.1, (show E < 1099511627776 by have := hD.2.2.2.2.2.2.2.2.2; omega)⟩, ?_⟩
        have nE : ¬ E = Q := fun z => by
          have h1 := hD.1
          have h2 := hQ.1.1
          rw [z, h2] at h1
          cases h1
        exact ⟨1000, N, rfl, rfl, hD2, ⟨wv_u_at _ _ _ _, if_pos rfl, hN1, by omega⟩, kc_Q_T hNn nE hQ, h hNn, rfl⟩
  · intro pc P hP m lv st T1 N1 I1 L1 R1 nc ns hh
    unfold kc_h205 at hP
    by_cases p17 : pc = 17
    · rw [if_pos p17] at hP
      cases hP
      subst p17
      obtain ⟨B, rfl, rfl, hD1, hB1, hQ1, hco, rfl⟩ := hh
      have hE := hD1.1
      have hb := hD1.2.2.2.2.2.2.2.2.2
      have b3 := hB1.2.2.1
      have hg := hQ1.1.2.2.2.2.1
      have h3 := hQ1.1.2.2.2.1
      have nE : ¬ Q = E := fun z => by
        have h2 := hQ1.1.1
        rw [z, hE] at h2
        cases h2
      refine ⟨hQ1.1.1, Q, rfl, hQ1.1.1, ⟨hE, (show E < 1099511627776 by omega)⟩, ?_⟩
      rw [h3]
      refine ⟨hQ1.1.1, Q, g, rfl, hQ1.1.1, by rw [wv_u_no _ _ (fun z => nE z.1)]; exact h3, hg, ⟨hE, (show E < 1099511627776 by omega)⟩, ?_⟩
      have hQ2 : kc_Q T1 (wv_u (wv_u I1 E 5 (Int32.ofNat g)) E 6 (Int32.ofNat (2 ^ sb_c g))) L1 R1 E Q A w g := kc_Q_I hQ1 (fun j => by rw [wv_u_no _ _ (fun z => nE z.1), wv_u_no _ _ (fun z => nE z.1)])
      have e5 : wv_u (wv_u I1 E 5 (Int32.ofNat g)) E 6 (Int32.ofNat (2 ^ sb_c g)) E 5 = Int32.ofNat g := by
        rw [wv_u_no _ _ (by omega), wv_u_at]
      have e6 : wv_u (wv_u I1 E 5 (Int32.ofNat g)) E 6 (Int32.ofNat (2 ^ sb_c g)) E 6 = Int32.ofNat (2 ^ sb_c g) := wv_u_at _ _ _ _
      refine ⟨hE, E, B, Q, w, g, A, rfl, hD1, hB1, hQ2, hA, e5, e6, fun ss tb kd I2 L2 kx1 kl1 kk1 => ?_⟩
      have hM := kc_M_of hb b3 hg e5 e6 kx1 kl1 kk1
      refine ⟨hE, E, B, g, ss.length, tb, kd, rfl, hD1, b3, hM, fun gr I3 kg1 g3 g4 => ?_⟩
      have few := kc_few kx1.2.1 kx1.2.2.1
      have hr := kgr_0 (mv := kc_mv tb g) kg1
      refine ⟨500 - 0, by omega, B, 0, ss, tb, kd, gr, true, rfl, rfl, hD1, hB1, kc_M_F hb b3 hM (fun c j z1 z2 => g4 c j z1), fun i hi => ⟨g3 i hi, ?_⟩, kx1, fun i x hi => (kk1 i x hi).2, hr, fun _ => Nat.zero_le _, fun z => (by cases z), by omega, kc_co_t hco (fun c j z1 z2 z3 => ?_) kl1.2.2.2, rfl⟩
      · have := (hr.1 i hi).1
        omega
      · rw [g4 c j (by omega), kl1.2.2.1 c j (by omega) z3 (by omega), wv_u_no _ _ (by omega), wv_u_no _ _ (by omega)]
    rw [if_neg p17] at hP
    by_cases p46 : pc = 46
    · rw [if_pos p46] at hP
      cases hP
      subst p46
      obtain ⟨B, r, ss, tb, kd, gr, sp, rfl, rfl, hD1, hB1, hM, hG, hx, hk, hr, hs1, hs2, hr66, hco, rfl⟩ := hh
      have hE := hD1.1
      have hb := hD1.2.2.2.2.2.2.2.2.2
      have b3 := hB1.2.2.1
      have few := kc_few hx.2.1 hx.2.2.1
      have er := wi_on (n := r) (by omega)
      have e66 : ((Int8.ofInt 66).toInt32).toInt = 66 := rfl
      refine ⟨fun w1 => ?_, fun w1 => ?_⟩
      · rw [wi_le, er, e66] at w1
        have hst : df_st ss.length (kc_mv tb g) kd gr := by
          cases sp with
          | false => exact hs2 rfl
          | true =>
            have := hs1 rfl
            have := nz_c_le (kg_c ss.length gr) ss.length
            omega
        refine ⟨hE, E, B, g, ss.length, tb, kd, gr, rfl, hD1, hB1, hM, hG, hr.1, fun I2 y1 y2 y3 => ?_⟩
        exact hco I2 L1 (kc_res_of hA hM hb b3 hx hk hr hst y1 y2 y3) (fun c j z1 z2 z3 => y2 c j (by omega) (by omega) (by omega) z3) (fun _ _ _ => rfl)
      rw [wi_le, er, e66] at w1
      cases sp with
      | false =>
        refine ⟨fun _ => ?_, fun z => absurd rfl z⟩
        refine ⟨hE, E, B, g, ss.length, tb, kd, gr, rfl, hD1, hB1, hM, hG, hr.1, fun I2 y1 y2 y3 => ?_⟩
        exact hco I2 L1 (kc_res_of hA hM hb b3 hx hk hr (hs2 rfl) y1 y2 y3) (fun c j z1 z2 z3 => y2 c j (by omega) (by omega) (by omega) z3) (fun _ _ _ => rfl)
      | true =>
        refine ⟨fun z => absurd z (by decide), fun _ => ?_⟩
        refine ⟨hE, E, B, g, ss.length, tb, kd, gr, rfl, hD1, hB1, hM, hG, fun s hs => (hr.1 s hs).1, fun g2 sp I2 y1 y2 y3 y4 => ?_⟩
        have ok := (kx_fin hM.2.2.2.1 hx).1
        have hr2 := kgr_1 ok hr y1
        refine ⟨500 - (r + 1), by omega, B, r + 1, ss, tb, kd, g2, sp, by unfold kc_l5; rw [← wq_4s r]; rfl, rfl, hD1, hB1, kc_M_F hb b3 hM y4, fun i hi => ⟨y3 i hi, ?_⟩, hx, hk, hr2, fun z => ?_, fun z => ?_, by omega, kc_co_t hco (fun c j z1 z2 z3 => y4 c j (by omega) (by omega)) (fun _ _ _ => rfl), rfl⟩
        · have := (hr2.1 i hi).1
          omega
        · obtain ⟨s, s1, s2⟩ := y2.mp z
          have := kgr_more hr y1 s1 s2
          have := hs1 rfl
          omega
        · refine kgr_st ok hr y1 (fun s hs => ?_)
          by_cases c : g2 s = gr s
          · exact c
          · rw [y2.mpr ⟨s, hs, c⟩] at z
            cases z
    rw [if_neg p46] at hP
    cases hP
