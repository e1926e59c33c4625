/-! ===== the law: read ===== -/
theorem lr_ts {I : Nat → Nat → Int32} {n : Nat} (hn : n ≤ 400) : rd_ts (wt_c I) n = cd_ts I n := wt_lex_f pr_pg _ _ _ (by omega) (by omega)
/-- what a read is given -/
def lr_I (T : wv_T) (N : Nat) (I : Nat → Nat → Int32) (L : Nat → Nat → Int64) (R : Nat → Nat → Option Nat) (n C : Nat) : Prop := (C = 28 ∨ C = 124 ∨ C = 220 ∨ C = 346) ∧ wm_T T ∧ wm_A T ∧ wt_S T I R ∧ pp_D T R C ∧ pq_O T N R ∧ wt_LW T L ∧ I 1 6 = Int32.ofNat n ∧ n ≤ 400 ∧ wt_tx (wt_c I) n ∧ 536 ≤ N ∧ N < 900000000 ∧ (∃ g, I 9 11 = Int32.ofNat g ∧ g < 64) ∧ rd_P T R C ∧ T 325 = some (.inl 11) ∧ T 333 = some (.inl 11)
/-- what the class has made of a text -/
def lr_C (T : wv_T) (N : Nat) (I : Nat → Nat → Int32) (L : Nat → Nat → Int64) (R : Nat → Nat → Option Nat) (n C : Nat) (T1 : wv_T) (N1 : Nat) (I1 : Nat → Nat → Int32) (L1 : Nat → Nat → Int64) (R1 : Nat → Nat → Option Nat) (nc ns : Nat) : Prop := ∃ I2 L2, wt_A I L I2 L2 ∧ cg_T C T N R T1 N1 R1 nc ns ∧ cg_I C T I2 L2 R T1 I1 L1 ∧ 3 * nc ≤ n + 1
def lr_i (I : Nat → Nat → Int32) : Nat → Nat → Int32 := wv_u (wv_u (wc 0 16 345 (wv_u I 1 6 (Int32.ofInt 0))) 325 8 (Int32.ofInt 0)) 333 8 (Int32.ofInt 0)
theorem lr_i_no {I : Nat → Nat → Int32} {c j : Nat} (h : ¬ c = 0) (h1 : ¬ c = 1) (h2 : ¬ c = 345) (h3 : ¬ c = 325) (h4 : ¬ c = 333) : lr_i I c j = I c j := by
  unfold lr_i wc
  rw [wv_u_no _ _ (by omega), wv_u_no _ _ (by omega), wv_u_no _ _ (by omega), wv_u_no _ _ (by omega), wv_u_no _ _ (by omega), wv_u_no _ _ (by omega)]
theorem lr_fr {T T1 : wv_T} {N N1 : Nat} {I I1 : Nat → Nat → Int32} {L L1 : Nat → Nat → Int64} {R R1 : Nat → Nat → Option Nat} {n C nc ns : Nat} (hC : C = 28 ∨ C = 124 ∨ C = 220 ∨ C = 346) (h : lr_C T N I L R n C T1 N1 I1 L1 R1 nc ns) {c j : Nat} (hT : ¬ T c = none) (hc : 442 ≤ c) : I1 c j = I c j ∧ T1 c = T c := by
  obtain ⟨I2, L2, a1, a2, a3, a4⟩ := h
  refine ⟨?_, a2.2.2.2.2.2.2.1 c hT⟩
  rw [a3.1 c j hT (by omega) (by omega) (by omega), a1.1 c j (by omega) (by omega)]
def wL_2 (Rel : wv_T → Nat → (Nat → Nat → Int32) → (Nat → Nat → Int64) → (Nat → Nat → Option Nat) → Nat → Nat → Nat → Prop) : Prop := ∀ T N I L R nc ns i, i ≤ 2044 → Rel T N I L R nc ns i → ∃ n C : Nat, lr_I T N I L R n C ∧ T 536 = some (.inr (1, 1)) ∧ wp_Y T I (wt_c I) n ∧ (∀ p, p ≤ 1 → ∃ Cp : Nat, R 27 p = some Cp ∧ Cp < 1000000 ∧ T Cp = some (.inl 7)) ∧ Rel T N (wv_u I 460 0 1) L R (nc + 1) (ns + 6) (i + 4) ∧ ∀ p Cp, p ≤ 1 → R 27 p = some Cp → ∀ T1 N1 I1 L1 R1 c1 s1, lr_C T N I L R n C T1 N1 I1 L1 R1 c1 s1 → (¬ (ap_t (ap_fin (cd_ts I n) n)).2 = none → ∀ J z, J 460 0 = 0 → J 460 2 = 0 → rd_F1 (wv_u I1 1 6 (Int32.ofInt 0)) J → Rel T1 N1 J (wv_u L1 536 0 z) R1 (nc + c1) (ns + s1) (i + 4)) ∧ ∀ (S : rn_N) (x o : Nat) (s : wt_q) (sq : List Nat) (m0 : Nat) J z, ap_fin (cd_ts I n) n = (S, [], some x, o, s, sq, true) → s.2 = none → ap_I (cd_ts I n) S [] (some x) o s sq → rp_D (cd_ts I n) n C T1 I1 L1 R1 S x sq → kp_K J p S m0 x sq → m0 ≤ 402 → (∀ i, i < 4 → J 520 (4 * p + i) = 0) → J 460 0 = 0 → J 460 2 = 0 → J 460 46 = 0 → J 490 0 = 0 → J 490 1 = 0 → J 460 66 = 0 → J 460 70 = 0 → rd_F p (lr_i I1) J → Rel T1 N1 J (wv_u L1 536 0 z) (wv_u (wv_u R1 27 p (some C)) 0 13 (some Cp)) (nc + c1) (ns + s1) (i + 4)
set_option maxRecDepth 100000 in
set_option maxHeartbeats 4000000 in
theorem wL_case2 {Rel : wv_T → Nat → (Nat → Nat → Int32) → (Nat → Nat → Int64) → (Nat → Nat → Option Nat) → Nat → Nat → Nat → Prop} {xs : Nat → Int32} {Lg : Nat} {fv : Value} {q : wv_Q} {sp : wv_K} (hLg : Lg ≤ 2048) (H : wL_2 Rel)
    (s99 : ∀ as T N I L R q, wl_c99 as T N I L R q → sp 99 as T N I L R q) (s347 : ∀ as T N I L R q, pm_c347 as T N I L R q → sp 347 as T N I L R q) (s343 : ∀ as T N I L R q, wp_c343 as T N I L R q → sp 343 as T N I L R q) :
    ∀ m lv st T N I L R nc ns, wL_P Rel xs Lg (some 2) m lv st T N I L R nc ns → wv_S wm_fx fv none sp 0 7 false (some .boolean) zt_0 q (wv wm_fx fv none sp 0 7 false (some .boolean) zt_0 (wv_h2 (wL_hd Rel xs Lg) m) q 100) (zk_at zt_0 248) lv st T N I L R nc ns := by
  rintro m lv st T N I L R nc ns ⟨i, x5, x6, rfl, rfl, hT, hx, hR, hi, hm, hop⟩
  obtain ⟨n, C, hI0, h537, hY, hprop, r1, r2⟩ := H T N I L R nc ns i (by omega) hR
  have e1 : I 1099511627776 (Int32.ofNat i + Int32.ofInt 1).toNatClampNeg = xs (i + 1) := (wL_x (k := 1) hx hLg hi (by omega)).1
  have b1 : 0 ≤ Int32.ofNat i + Int32.ofInt 1 ∧ (Int32.ofNat i + Int32.ofInt 1).toInt < Lg := (wL_x (k := 1) hx hLg hi (by omega)).2
  have e2 : I 1099511627776 (Int32.ofNat i + Int32.ofInt 2).toNatClampNeg = xs (i + 2) := (wL_x (k := 2) hx hLg hi (by omega)).1
  have b2 : 0 ≤ Int32.ofNat i + Int32.ofInt 2 ∧ (Int32.ofNat i + Int32.ofInt 2).toInt < Lg := (wL_x (k := 2) hx hLg hi (by omega)).2
  have hI1 := hI0
  obtain ⟨hC, hwT, hwA, hS, hD, hO, hLW, h6, hn, htx, hN1, hN2, hg, hP, h325, h333⟩ := hI1
  have n10 : ¬ (1 : Int32) = 0 := by decide
  have ets := lr_ts (I := I) hn
  have bad : (xs (i + 1) < 0 ∨ Int32.ofInt 2 ≤ xs (i + 1)) ↔ (xs (i + 1) < 0 ∨ Int32.ofInt 1 < xs (i + 1)) := by
    rw [wi_lt, wi_le, wi_lt, show (Int32.ofInt 2).toInt = 2 from rfl, show (Int32.ofInt 1).toInt = 1 from rfl]
    omega
  refine ⟨_, hT, b1, ?_⟩
  rw [e1]
  refine s99 _ _ _ _ _ _ _ ⟨_, rfl, n, C, _, rfl, hC, hwT, hwA, hS, hD, hO, hLW, h6, hn, htx, hN1, hN2, hg, hP, h325, h333, fun hb => ⟨rfl, ?_⟩, fun p hp e => ?_⟩
  · refine ⟨_, hT, b1, ?_⟩
    rw [e1]
    refine s347 _ _ _ _ _ _ _ ⟨wt_c I, n, _, rfl, hY, fun _ => ?_, fun p hp e => ?_⟩
    · refine s343 _ _ _ _ _ _ _ ⟨rfl, ?_⟩
      refine ⟨fun _ => ?_, fun h => (h (wv_u_at _ _ _ _)).elim⟩
      refine ⟨fun _ => ?_, fun h => (h n10).elim⟩
      exact wL_fin hLg hi hm hx hT (fun j => wv_u_no _ _ (by omega)) r1
    · exfalso
      rw [e, wi_lt, wi_le, wi_on (by omega), wi_0, show (Int32.ofInt 2).toInt = 2 from rfl] at hb
      omega
  · obtain ⟨Cp, hRp, hCp, hTp⟩ := hprop p hp
    have nbad : ¬ (xs (i + 1) < 0 ∨ Int32.ofInt 1 < xs (i + 1)) := fun z => by
      rw [e, wi_lt, wi_lt, wi_on (by omega), wi_0, show (Int32.ofInt 1).toInt = 1 from rfl] at z
      omega
    have e10 : ∀ p2, xs (i + 1) = Int32.ofNat p2 → p2 ≤ 1 → p2 = p := fun p2 z z2 => by
      have := congrArg Int32.toInt (z.symm.trans e)
      rw [wi_on (by omega), wi_on (by omega)] at this
      omega
    refine ⟨Cp, hRp, hCp, hTp, fun T1 N1 I1 L1 R1 c1 s1 I2 L2 a1 a2 a3 a4 a5 => ?_⟩
    have hlc : lr_C T N I L R n C T1 N1 I1 L1 R1 c1 s1 := ⟨I2, L2, a1, a2, a3, a4⟩
    obtain ⟨q1, q2⟩ := r2 p Cp hp hRp T1 N1 I1 L1 R1 c1 s1 hlc
    have t537 : T1 536 = some (.inr (1, 1)) := by
      rw [(lr_fr (j := 0) hC hlc (by rw [h537]; simp) (by omega)).2]
      exact h537
    have tS : T1 1099511627776 = some (.inr (0, Lg)) := by
      rw [(lr_fr (j := 0) hC hlc (by rw [hT]; simp) (by omega)).2]
      exact hT
    have iS : ∀ j, I1 1099511627776 j = I 1099511627776 j := fun j => (lr_fr hC hlc (by rw [hT]; simp) (by omega)).1
    have i4 : ∀ c j, 442 ≤ c → c < 536 → I1 c j = I c j := fun c j c1 c2 => (lr_fr hC hlc (hwA c (by omega)) c1).1
    have yY : ∀ J : Nat → Nat → Int32, (∀ j, J 460 j = I1 460 j) → (∀ j, J 461 j = I1 461 j) → wp_Y T1 J (wt_c I) n := fun J j1 j2 => by
      obtain ⟨y1, y2, y3⟩ := hY
      refine ⟨⟨a2.1, ?_⟩, ?_, y3⟩
      · rw [j1, i4 _ _ (by omega) (by omega)]
        exact y1.2
      · rw [← y2]
        funext k
        unfold wt_m
        rw [j1, j2, i4 _ _ (by omega) (by omega), i4 _ _ (by omega) (by omega)]
    refine ⟨fun hne => ⟨t537, ?_⟩, fun S x o s sq d1 d2 d3 d4 => ⟨t537, ?_⟩⟩
    · refine ⟨_, tS, b1, ?_⟩
      have ex : wv_u I1 1 6 (Int32.ofInt 0) 1099511627776 (Int32.ofNat i + Int32.ofInt 1).toNatClampNeg = xs (i + 1) := by
        rw [wv_u_no _ _ (by omega), iS]
        exact e1
      rw [ex]
      refine s347 _ _ _ _ _ _ _ ⟨wt_c I, n, _, rfl, yY _ (fun j => wv_u_no _ _ (by omega)) (fun j => wv_u_no _ _ (by omega)), fun z => (nbad z).elim, fun p2 hp2 e2 => ?_⟩
      have ep := e10 p2 e2 hp2
      subst ep
      rw [ets]
      refine ⟨fun _ J f1 f2 f3 => ?_, fun S x o s sq m0 J z1 z2 => ?_⟩
      · have fin := wL_fin (Rel := Rel) (I1 := J) (T1 := T1) (N1 := N1) (R1 := R1) (L1 := wv_u L1 536 0 (wt_f (ap_t (ap_fin (cd_ts I n) n)).2).toInt64) (c1 := nc + c1) (s1 := ns + s1) (y5 := some (.int 0)) (y6 := some (.int (wt_f (ap_t (ap_fin (cd_ts I n) n)).2))) hLg hi hm hx tS (fun j => by rw [f3 _ _ (by omega) (by omega) (by omega), wv_u_no _ _ (by omega), iS]) (q1 hne J _ f1 f2 f3)
        refine s343 _ _ _ _ _ _ _ ⟨rfl, ?_⟩
        rw [f1]
        refine ⟨fun _ => ?_, fun h => (h rfl).elim⟩
        refine ⟨fun h => (h rfl).elim, fun _ => ?_⟩
        refine ⟨_, t537, ⟨by decide, by decide⟩, ?_⟩
        refine ⟨fun _ => fin, fun h => (h (lg_cmp_0.mpr (wv_u_at _ _ _ _))).elim⟩
      · exfalso
        apply hne
        rw [z1]
        exact z2
    · refine ⟨_, tS, b1, ?_⟩
      have ex : lr_i I1 1099511627776 (Int32.ofNat i + Int32.ofInt 1).toNatClampNeg = xs (i + 1) := by
        rw [lr_i_no (by omega) (by omega) (by omega) (by omega) (by omega), iS]
        exact e1
      rw [show (wv_u (wv_u (wc 0 16 345 (wv_u I1 1 6 (Int32.ofInt 0))) 325 8 (Int32.ofInt 0)) 333 8 (Int32.ofInt 0)) = lr_i I1 from rfl, ex]
      refine s347 _ _ _ _ _ _ _ ⟨wt_c I, n, _, rfl, yY _ (fun j => lr_i_no (by omega) (by omega) (by omega) (by omega) (by omega)) (fun j => lr_i_no (by omega) (by omega) (by omega) (by omega) (by omega)), fun z => (nbad z).elim, fun p2 hp2 e2 => ?_⟩
      have ep := e10 p2 e2 hp2
      subst ep
      rw [ets]
      refine ⟨fun z => (z (by rw [d1]; exact d2)).elim, fun S2 x2 o2 s2 sq2 m0 J z1 z2 z3 z4 z5 z6 z7 z8 z9 z10 z11 z12 z13 z14 => ?_⟩
      have es := d1.symm.trans z1
      cases es
      have fin := wL_fin (Rel := Rel) (I1 := J) (T1 := T1) (N1 := N1) (R1 := wv_u (wv_u R1 27 p2 (some C)) 0 13 (some Cp)) (L1 := wv_u L1 536 0 (Int32.ofInt (-1)).toInt64) (c1 := nc + c1) (s1 := ns + s1) (y5 := some (.int 0)) (y6 := some (.int (Int32.ofInt (-1)))) hLg hi hm hx tS (fun j => by rw [z14 _ _ (by omega) (by omega) (by omega) (by omega) (by omega) (by omega) (by omega) (by omega) (by omega), lr_i_no (by omega) (by omega) (by omega) (by omega) (by omega), iS]) (q2 S x o s sq m0 J _ d1 d2 d3 d4 z4 z5 z6 z7 z8 z9 z10 z11 z12 z13 z14)
      refine s343 _ _ _ _ _ _ _ ⟨rfl, ?_⟩
      rw [z7]
      refine ⟨fun _ => ?_, fun h => (h rfl).elim⟩
      refine ⟨fun h => (h rfl).elim, fun _ => ?_⟩
      refine ⟨_, t537, ⟨by decide, by decide⟩, ?_⟩
      refine ⟨fun _ => fin, fun h => (h (lg_cmp_0.mpr (wv_u_at _ _ _ _))).elim⟩
