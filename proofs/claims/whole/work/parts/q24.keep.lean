/-! ===== the relation is kept: readNumbers, readDesign ===== -/
theorem rl_oc {x : Int32} (h : 0 ≤ x.toInt) : x = Int32.ofNat x.toNatClampNeg ∧ ((x.toNatClampNeg : Nat) : Int) = x.toInt := by
  have hn : ((x.toNatClampNeg : Nat) : Int) = x.toInt := by rw [wi_nat]; omega
  refine ⟨?_, hn⟩
  apply wi_eq.mpr
  have hx := x.toInt_lt
  rw [wi_on (by omega)]
  omega
theorem rl_rdV {D A B G : Nat} {nx fi sg on tw : Nat → Int32} {J : rl_I} (hA1 : 1 ≤ A) (hA : A ≤ 3) (hB : B ≤ 5) (hG : G ≤ 60) (c8 : J D 8 = Int32.ofNat A) (c9 : J D 9 = Int32.ofNat B) (c10 : J D 10 = Int32.ofNat G) (c3 : ∀ j, j < B → J (D + 3) j = nx j ∧ J (D + 4) j = fi j) (c5 : ∀ j, j < 6 → J (D + 5) j = sg j) (c1 : ∀ j, j < G → J (D + 1) j = on j ∧ J (D + 2) j = tw j) (r8 : J 460 56 = Int32.ofNat A) (r9 : J 460 57 = Int32.ofNat B) (r10 : J 460 58 = Int32.ofNat G) (r3 : ∀ j, j < B → J 498 j = nx j ∧ J 499 j = fi j) (r5 : ∀ j, j < 6 → J 500 j = sg j) (r1 : ∀ j, j < G → J 496 j = on j ∧ J 497 j = tw j) (b3 : ∀ j, j < B → (0 ≤ (nx j).toInt ∧ (nx j).toInt < 2 * (1 + A + B + G)) ∧ (fi j = 0 ∨ fi j = 1)) (b5 : ∀ j, j < 6 → 0 ≤ (sg j).toInt ∧ (sg j).toInt < 2 * (1 + A + B + G)) (b1 : ∀ j, j < G → (0 ≤ (on j).toInt ∧ (on j).toInt < 2 * (1 + A + B + j)) ∧ (0 ≤ (tw j).toInt ∧ (tw j).toInt < 2 * (1 + A + B + j))) : ∃ (nx2 : Nat → Nat) (fi2 : Nat → Bool) (sg2 on2 tw2 : Nat → Nat), dz_V A B G nx2 fi2 sg2 on2 tw2 ∧ tw_N D A B G nx2 fi2 sg2 on2 tw2 J ∧ tw_M A B G nx2 fi2 sg2 on2 tw2 J := by
  have ef : ∀ j, j < B → fi j = wb_i (decide (fi j = 1)) := fun j hj => by
    rcases (b3 j hj).2 with e | e
    · rw [e]; decide
    · rw [e]; decide
  refine ⟨fun j => (nx j).toNatClampNeg, fun j => decide (fi j = 1), fun j => (sg j).toNatClampNeg, fun j => (on j).toNatClampNeg, fun j => (tw j).toNatClampNeg, ⟨hA1, hA, hB, hG, fun j hj => ?_, fun j hj => ?_, fun j hj => ?_⟩, ⟨c8, c9, c10, fun j hj => ⟨?_, ?_⟩, fun j hj => ?_, fun j hj => ⟨?_, ?_⟩⟩, ⟨r8, r9, r10, fun j hj => ⟨?_, ?_⟩, fun j hj => ?_, fun j hj => ⟨?_, ?_⟩⟩⟩
  · have := rl_oc (b3 j hj).1.1
    have := (b3 j hj).1.2
    show (nx j).toNatClampNeg < _
    omega
  · have := rl_oc (b5 j hj).1
    have := (b5 j hj).2
    show (sg j).toNatClampNeg < _
    omega
  · have := rl_oc (b1 j hj).1.1
    have := rl_oc (b1 j hj).2.1
    have := (b1 j hj).1.2
    have := (b1 j hj).2.2
    show (on j).toNatClampNeg < _ ∧ (tw j).toNatClampNeg < _
    omega
  · rw [(c3 j hj).1]; exact (rl_oc (b3 j hj).1.1).1
  · rw [(c3 j hj).2]; exact ef j hj
  · rw [c5 j hj]; exact (rl_oc (b5 j hj).1).1
  · rw [(c1 j hj).1]; exact (rl_oc (b1 j hj).1.1).1
  · rw [(c1 j hj).2]; exact (rl_oc (b1 j hj).2.1).1
  · rw [(r3 j hj).1]; exact (rl_oc (b3 j hj).1.1).1
  · rw [(r3 j hj).2]; exact ef j hj
  · rw [r5 j hj]; exact (rl_oc (b5 j hj).1).1
  · rw [(r1 j hj).1]; exact (rl_oc (b1 j hj).1.1).1
  · rw [(r1 j hj).2]; exact (rl_oc (b1 j hj).2.1).1
theorem nq_fi {ts : List wt_t} {n : Nat} {a gr : Int32} {s : wt_q} {k : Nat} : nm_fi ts n a gr s k = 0 ∨ nm_fi ts n a gr s k = 1 := by
  unfold nm_fi
  split
  · exact Or.inr rfl
  · exact Or.inl rfl
theorem Rl_X {T : wv_T} {N : Nat} {I : rl_I} {L : rl_L} {R : rl_R} {n lk m : Nat} {v : Nat → Nat} {tb : Nat → Bool} {Cd Dd a b g : Nat} {nx : Nat → Nat} {fi : Nat → Bool} {sg on tw : Nat → Nat} {V cp : Nat → Nat} {z : Nat → List Nat} (hA : Rl_A T N I L R n lk m v tb) (hD : rl_d T N I R Cd Dd a b g nx fi sg on tw V cp z) : wL_X T I R n Cd Dd := by
  obtain ⟨hF, hX, hO, ht, hw, hk, hh, hu, hg⟩ := hA
  have d1 := hD.1
  exact ⟨hF.1, hX.1, hD.2.1.1, hD.2.1.2, (hF.2.2.2.2.2.2.2.2.2.1 Dd (by omega)).1, by omega, by omega, by omega, hF.2.2.2.2.2.2.2.2.2.2.1.1, ht.1, ht.2.2.1, rl_t_Y hF.1 ht⟩
theorem Rl_15 : wL_15 Rl := by
  intro T N I L R nc ns i hi h
  obtain ⟨n, lk, m, v, tb, Cs, C, P, S, m0, x, sq, Cd, Dd, a, b, g, nx, fi, sg, on, tw, V, cp, z, hA, hB, hD, hN⟩ := h
  refine ⟨n, Cd, Dd, Rl_X hA hD, fun I1 L1 I2 hout hG hm => ?_⟩
  have d1 := hD.1
  have fL : rl_fL L L1 := rl_fL_d (fun c j w => hG.2 c j (by omega))
  obtain ⟨m1, m2, m3, m4, m5⟩ := hm
  by_cases hf : nmFault (nmTs I n) n = none
  · have hv := hout hf
    have hwm := m4 hf
    rw [hf] at m1 ⊢
    have e1 : wd_tI none I1 = wv_u (wv_u I1 1 6 (Int32.ofInt 0)) 325 8 (Int32.ofInt 0) := if_pos rfl
    have e2 : wd_tR none Cd Dd R = wv_u (wv_u R 0 14 (some Dd)) 0 15 (some Cd) := if_pos rfl
    rw [e1] at m1
    rw [e2]
    have fX : ∀ c j, ¬ (c = 1 ∧ 6 ≤ j ∧ j ≤ 9) → ¬ (3 ≤ c ∧ c ≤ 6) → ¬ (Dd ≤ c ∧ c ≤ Dd + 5) → ¬ (c = 325 ∧ j = 8) → (wv_u (wv_u I1 1 6 (Int32.ofInt 0)) 325 8 (Int32.ofInt 0)) c j = I c j := fun c j w1 w2 w3 w4 => by
      rw [wv_u_no _ _ (by omega), wv_u_no _ _ (by omega)]
      exact hG.1 c j (by omega) w2 w3
    have fD : ∀ c j, Dd ≤ c → c ≤ Dd + 5 → I2 c j = I1 c j := fun c j w1 w2 => by
      rw [m1 c j (by omega) (by omega) (by omega), wv_u_no _ _ (by omega), wv_u_no _ _ (by omega)]
    obtain ⟨w0, w1, w2, w3, w4, w5, w6, w7, w8, w9, w10⟩ := hwm
    obtain ⟨v1, v2, ⟨v3, v37⟩, v4, v4b, v5, v6⟩ := hv
    have hb1 := (nmh_b w0).1
    have hE : (nmE (nmTs I n) n (nmHA (nmTs I n) n) (nmHB (nmTs I n) n) (nmHG (nmTs I n) n) (nmh6 (nmTs I n) n).2).2 = none := by
      unfold nmFault at hf
      rw [if_neg (by rw [w0]; decide)] at hf
      exact hf
    obtain ⟨q1, q2, q3⟩ := nq_all (by omega) hE
    obtain ⟨nx2, fi2, sg2, on2, tw2, z1, z2, z3⟩ := rl_rdV (D := Dd) (J := I2) hb1 w1 w2 w3 (by rw [fD _ _ (by omega) (by omega)]; exact v1) (by rw [fD _ _ (by omega) (by omega)]; exact v2) (by rw [fD _ _ (by omega) (by omega)]; exact v3) (fun j hj => ⟨by rw [fD _ _ (by omega) (by omega)]; exact v4 j hj, by rw [fD _ _ (by omega) (by omega)]; exact v4b j hj⟩) (fun j hj => by rw [fD _ _ (by omega) (by omega)]; exact v5 j hj) (fun j hj => ⟨by rw [fD _ _ (by omega) (by omega)]; exact (v6 j hj).1, by rw [fD _ _ (by omega) (by omega)]; exact (v6 j hj).2⟩) w4 w5 w6 (fun j hj => w9 j hj) (fun j hj => w10 j hj) (fun j hj => w8 j hj) (fun j hj => ⟨q1 j hj, nq_fi⟩) q2 q3
    refine Rl_dgood hA hB hD hN (J := I2) (fun c j x1 x2 x3 x4 x5 x6 x7 x8 x9 => ?_) fL ?_ m3 ?_ w7 z1 z2 z3 ?_
    · rw [m1 c j (by omega) x8 (by omega)]
      exact fX c j x1 x2 x5 x6
    · rw [m1 _ _ (by omega) (by omega) (by omega), wv_u_no _ _ (by omega), wv_u_at]
      rfl
    · rw [m1 _ _ (by omega) (by omega) (by omega), wv_u_at]
      rfl
    · rw [fD _ _ (by omega) (by omega)]
      exact v37
  · have e1 : wd_tI (nmFault (nmTs I n) n) I1 = wv_u I1 1 6 (Int32.ofInt 0) := if_neg hf
    have e2 : wd_tR (nmFault (nmTs I n) n) Cd Dd R = R := if_neg hf
    have m5 := m5 hf
    rw [e1] at m1 m5
    rw [e2]
    have fX : ∀ c j, ¬ (c = 1 ∧ 6 ≤ j ∧ j ≤ 9) → ¬ (3 ≤ c ∧ c ≤ 6) → ¬ (Dd ≤ c ∧ c ≤ Dd + 5) → (wv_u I1 1 6 (Int32.ofInt 0)) c j = I c j := fun c j w1 w2 w3 => by
      rw [wv_u_no _ _ (by omega)]
      exact hG.1 c j (by omega) w2 w3
    refine Rl_dbad hA hB hD hN (J := I2) (fun c j x1 x2 x3 x4 x5 x6 x7 x8 x9 => ?_) fL ?_ m3 ?_ (fun c j w => ?_)
    · rw [m1 c j (by omega) x8 (by omega)]
      exact fX c j x1 x2 x5
    · rw [m1 _ _ (by omega) (by omega) (by omega), wv_u_at]
      rfl
    · rw [m1 _ _ (by omega) (by omega) (by omega)]
      exact fX _ _ (by omega) (by omega) (by omega)
    · rw [m5 c j (by omega) (by omega)]
      exact fX _ _ (by omega) (by omega) (by omega)
theorem Rl_14 : wL_14 Rl := by
  intro T N I L R nc ns i hi h
  obtain ⟨n, lk, m, v, tb, Cs, C, P, S, m0, x, sq, Cd, Dd, a, b, g, nx, fi, sg, on, tw, V, cp, z, hA, hB, hD, hN⟩ := h
  have d1 := hD.1
  refine ⟨n, Cd, Dd, Rl_X hA hD, by omega, fun I1 L1 I2 hout hG hm => ?_⟩
  have fL : rl_fL L L1 := rl_fL_d (fun c j w => hG.2 c j (by omega))
  obtain ⟨m1, m2, m3, m4, m5⟩ := hm
  have m1 : ∀ c j, ¬ (c = 460 ∧ (j = 0 ∨ (2 ≤ j ∧ j ≤ 5) ∨ j = 8 ∨ (56 ≤ j ∧ j ≤ 58) ∨ j = 66 ∨ (100 ≤ j ∧ j ≤ 103) ∨ (110 ≤ j ∧ j ≤ 116))) → ¬ (496 ≤ c ∧ c ≤ 500) → ¬ (527 ≤ c ∧ c ≤ 535) → I2 c j = wd_tI (dsZ (dsTs I n) n).1.1.2 I1 c j := m1
  obtain ⟨⟨⟨w1, w2, w3, w4, w5, w6, w7, ⟨p1, ⟨p2, p27⟩, p3, p4, p5⟩, w9⟩, k3, k5⟩, k4, kB⟩ := hout
  obtain ⟨q0, q1, q2, q3⟩ := dg_all (ts := dsTs I n) (n := n) w5 w6
  have hfs : ∀ j, dsFs (dsTs I n) n j = 0 ∨ dsFs (dsTs I n) n j = 1 := fun j => by
    unfold dsFs
    split
    · exact Or.inr rfl
    · exact Or.inl rfl
  unfold dl_D at m4
  generalize dsFs (dsTs I n) n = fsF at k4 hfs m4
  generalize dsZ (dsTs I n) n = Z at m1 m4 m5 w7 p3 p4 p5 w9 k3 k5 q1 q2 q3 ⊢
  generalize dsA (dsTs I n) n = A at m4 w5 p1 q0 q1 q2 q3
  generalize dsB (dsTs I n) n = B at m4 w6 p2 k3 k4 kB q1 q2 q3
  obtain ⟨⟨s0, gs⟩, nm, nxI, sgI⟩ := Z
  by_cases hf : s0.2 = none
  · have hwm := m4 hf
    have hf : (((s0, gs), nm, nxI, sgI) : ds_Z).1.1.2 = none := hf
    rw [hf] at m1 ⊢
    have e1 : wd_tI none I1 = wv_u (wv_u I1 1 6 (Int32.ofInt 0)) 325 8 (Int32.ofInt 0) := if_pos rfl
    have e2 : wd_tR none Cd Dd R = wv_u (wv_u R 0 14 (some Dd)) 0 15 (some Cd) := if_pos rfl
    rw [e1] at m1
    rw [e2]
    have fX : ∀ c j, ¬ (c = 1 ∧ 6 ≤ j ∧ j ≤ 9) → ¬ (3 ≤ c ∧ c ≤ 6) → ¬ (c = 22 ∧ j = 4) → ¬ (c = 24 ∨ c = 25) → ¬ (Dd ≤ c ∧ c ≤ Dd + 5) → ¬ (c = 325 ∧ j = 8) → (wv_u (wv_u I1 1 6 (Int32.ofInt 0)) 325 8 (Int32.ofInt 0)) c j = I c j := fun c j w1 w2 w3 w4 w5 w6 => by
      rw [wv_u_no _ _ (by omega), wv_u_no _ _ (by omega)]
      exact hG.1 c j (by omega) w2 w3 w4 w5
    have fD : ∀ c j, Dd ≤ c → c ≤ Dd + 5 → I2 c j = I1 c j := fun c j w1 w2 => by
      rw [m1 c j (by omega) (by omega) (by omega), wv_u_no _ _ (by omega), wv_u_no _ _ (by omega)]
    obtain ⟨u1, u2, u3, u4, u5, u6, u7, u8, u9, u10⟩ := hwm
    have u3 : gs.length ≤ 60 := u3
    have gg : ∀ j, j < gs.length → ∃ x, gs[j]? = some x := fun j hj => ⟨_, List.getElem?_eq_getElem hj⟩
    have lB : ∀ {M : Nat} {l : Int32}, M ≤ 1000 → dg_l M l → 0 ≤ l.toInt ∧ l.toInt < M := fun {M l} hM ⟨k, e, hk⟩ => by
      rw [e, wi_on (by omega)]
      omega
    have q1 : dg_g A B gs := q1.2.2.1
    have q2 : ∀ k, k < B → dg_l (2 * (1 + A + B + gs.length)) (nxI k) := q2
    have q3 : ∀ k, k < 6 → dg_l (2 * (1 + A + B + gs.length)) (sgI k) := q3
    have p5 : ∀ j x, gs[j]? = some x → I1 (Dd + 1) j = x.1 ∧ I1 (Dd + 2) j = x.2 := p5
    have u8 : ∀ j x, gs[j]? = some x → I2 496 j = x.1 ∧ I2 497 j = x.2 := u8
    obtain ⟨nx2, fi2, sg2, on2, tw2, z1, z2, z3⟩ := rl_rdV (D := Dd) (J := I2) (A := A) (B := B) (G := gs.length) (nx := nxI) (fi := fsF) (sg := sgI) (on := fun j => ((gs[j]?).getD (0, 0)).1) (tw := fun j => ((gs[j]?).getD (0, 0)).2) q0 u1 u2 u3 (by rw [fD _ _ (by omega) (by omega)]; exact p1) (by rw [fD _ _ (by omega) (by omega)]; exact p2) (by rw [fD _ _ (by omega) (by omega)]; exact p3) (fun j hj => ⟨by rw [fD _ _ (by omega) (by omega)]; exact k3 j hj, by rw [fD _ _ (by omega) (by omega)]; exact k4 j hj⟩) (fun j hj => by rw [fD _ _ (by omega) (by omega)]; exact k5 j hj) (fun j hj => by
        obtain ⟨x, hx⟩ := gg j hj
        rw [fD _ _ (by omega) (by omega), fD _ _ (by omega) (by omega), hx]
        exact p5 j x hx) u4 u5 u6 (fun j hj => u9 j hj) (fun j hj => u10 j hj) (fun j hj => by
        obtain ⟨x, hx⟩ := gg j hj
        rw [hx]
        exact u8 j x hx) (fun j hj => ⟨by have := lB (by omega) (q2 j hj); omega, hfs j⟩) (fun j hj => by have := lB (by omega) (q3 j hj); omega) (fun j hj => by
        obtain ⟨x, hx⟩ := gg j hj
        rw [hx]
        obtain ⟨y1, y2⟩ := q1 j x hx
        have a1 := lB (by omega) y1
        have a2 := lB (by omega) y2
        show (0 ≤ x.1.toInt ∧ x.1.toInt < _) ∧ (0 ≤ x.2.toInt ∧ x.2.toInt < _)
        omega)
    refine Rl_dgood hA hB hD hN (J := I2) (fun c j x1 x2 x3 x4 x5 x6 x7 x8 x9 => ?_) fL ?_ m3 ?_ u7 z1 z2 z3 ?_
    · rw [m1 c j x7 x8 x9]
      exact fX c j x1 x2 x3 x4 x5 x6
    · rw [m1 _ _ (by omega) (by omega) (by omega), wv_u_no _ _ (by omega), wv_u_at]
      rfl
    · rw [m1 _ _ (by omega) (by omega) (by omega), wv_u_at]
      rfl
    · rw [fD _ _ (by omega) (by omega)]
      exact p27
  · have e1 : wd_tI (((s0, gs), nm, nxI, sgI) : ds_Z).1.1.2 I1 = wv_u I1 1 6 (Int32.ofInt 0) := if_neg hf
    have e2 : wd_tR (((s0, gs), nm, nxI, sgI) : ds_Z).1.1.2 Cd Dd R = R := if_neg hf
    have m5 := m5 hf
    rw [e1] at m1 m5
    rw [e2]
    have fX : ∀ c j, ¬ (c = 1 ∧ 6 ≤ j ∧ j ≤ 9) → ¬ (3 ≤ c ∧ c ≤ 6) → ¬ (c = 22 ∧ j = 4) → ¬ (c = 24 ∨ c = 25) → ¬ (Dd ≤ c ∧ c ≤ Dd + 5) → (wv_u I1 1 6 (Int32.ofInt 0)) c j = I c j := fun c j w1 w2 w3 w4 w5 => by
      rw [wv_u_no _ _ (by omega)]
      exact hG.1 c j (by omega) w2 w3 w4 w5
    refine Rl_dbad hA hB hD hN (J := I2) (fun c j x1 x2 x3 x4 x5 x6 x7 x8 x9 => ?_) fL ?_ m3 ?_ (fun c j w => ?_)
    · rw [m1 c j x7 x8 x9]
      exact fX c j x1 x2 x3 x4 x5
    · rw [m1 _ _ (by omega) (by omega) (by omega), wv_u_at]
      rfl
    · rw [m1 _ _ (by omega) (by omega) (by omega)]
      exact fX _ _ (by omega) (by omega) (by omega) (by omega) (by omega)
    · rw [m5 c j (by omega)]
      exact fX _ _ (by omega) (by omega) (by omega) (by omega) (by omega)
