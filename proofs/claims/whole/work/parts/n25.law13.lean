/-! ===== the law: flop ===== -/
/-- what flop's answer changes besides -/
def fo_F (I J : Nat → Nat → Int32) : Prop := ∀ c j, ¬ c = 491 → ¬ c = 495 → ¬ c = 526 → ¬ (c = 460 ∧ (j = 0 ∨ j = 49)) → J c j = I c j
def fo_L (L M : Nat → Nat → Int64) : Prop := ∀ c j, ¬ (c = 506 ∨ c = 507 ∨ c = 512 ∨ c = 513 ∨ c = 515) → ¬ (492 ≤ c ∧ c ≤ 494) → ¬ (c = 460 ∧ (j = 53 ∨ j = 54)) → ¬ c = 536 → M c j = L c j
/-- what Rel must give for flop, of property p, besides fl_p -/
def fo_p (p lk : Nat) (v : Nat → Nat) (I : Nat → Nat → Int32) (A : Nat → nt_A) (P : pd_P) (S : rn_N) (Q : Nat → Prop) (pa : Nat → Nat) : Prop := (lk = 0 → I 490 p = 0) ∧ (fw S = true → fb_Q S lk v Q ∧ (∀ y z, Q y → Q z → pa y = pa z → y = z) ∧ (∀ i, i < pd_m P → pd_k P i = 7 → pd_t P i < 10000) ∧ ∀ i, i < pd_m P → fs_b (pd_k P i) → A (pd_l P i) = pd_a P i)
def fo_H (Rel : wv_T → Nat → (Nat → Nat → Int32) → (Nat → Nat → Int64) → (Nat → Nat → Option Nat) → Nat → Nat → Nat → Prop) (T : wv_T) (N : Nat) (I : Nat → Nat → Int32) (L : Nat → Nat → Int64) (R : Nat → Nat → Option Nat) (nc ns i : Nat) : Prop := ∃ (lk : Nat) (v : Nat → Nat) (C n : Nat → Nat) (W : Nat → Nat → Nat) (nk : Nat → Nat) (A : Nat → Nat → nt_A) (w g : Nat → Nat → Nat) (P : Nat → pd_P) (S : Nat → rn_N) (m0 x : Nat → Nat) (sq : Nat → List Nat) (Q : Nat → Nat → Prop) (pa pb lo : Nat → Nat → Nat) (U : Nat → Nat → np_A) (cl : Nat → Nat → Nat → Nat) (Al : Nat → Nat → Nat → Prop), lt2_A T I L R lk v C P S m0 x sq ∧ (∀ p, p < 2 → R 27 p = some (C p) ∧ pp_D T R (C p) ∧ I (C p) 9 = Int32.ofNat (n p) ∧ n p ≤ 67 ∧ ∀ k, k < n p → I (C p + 9 + k) 2 = Int32.ofNat (W p k) ∧ W p k < 2147483648) ∧ (∀ p, p < 2 → rk_I T I p (S p) (m0 p) (x p) (sq p)) ∧ (∀ p, p < 2 → fl_p p T N I L R (C p) (n p) (W p) (nk p) (A p) (w p) (g p) (P p) (S p) (x p) (Q p) (pa p) (pb p) (lo p) (U p) (cl p) (Al p)) ∧ (∀ p, p < 2 → fo_p p lk v I (A p) (P p) (S p) (Q p) (pa p)) ∧ (∀ z, Rel T N (wv_u I 460 0 z) L R (nc + 1) (ns + 6) (i + 4)) ∧ (∀ I1, ff_0 I I1 → Rel T N I1 L R (nc + 1) (ns + 6) (i + 4)) ∧ ∀ p, p < 2 → fw (S p) = true → ∀ d T1 N1 I1 L1 R1 n1 s1, kf_R (C p) (nk p) (A p) (g p) T N I L R d T1 N1 I1 L1 R1 n1 s1 → kf_I (C p) (nk p) 9 (A p) (w p) (g p) T1 N1 I1 L1 R1 → ∀ pn kb I2 L2 I3, ff_Z p (S p) (m0 p) (x p) (P p) (Q p) (pa p) (U p) pn kb T1 I2 → ff_G p I1 I2 → fo_F I2 I3 → fo_L L1 L2 → ∀ e, e ≤ 1 → Rel T1 N1 I3 L2 R1 (nc + (n1 + e)) (ns + (s1 + 6 * e)) (i + 4)
theorem cr_bl_1 {b : Bool} : cr_bl b = if b = true then 1 else 0 := rfl
def wL_13 (Rel : wv_T → Nat → (Nat → Nat → Int32) → (Nat → Nat → Int64) → (Nat → Nat → Option Nat) → Nat → Nat → Nat → Prop) : Prop := ∀ T N I L R nc ns i, i ≤ 2044 → Rel T N I L R nc ns i → fo_H Rel T N I L R nc ns i
set_option maxRecDepth 100000 in
set_option maxHeartbeats 4000000 in
theorem wL_case13 {Rel : wv_T → Nat → (Nat → Nat → Int32) → (Nat → Nat → Int64) → (Nat → Nat → Option Nat) → Nat → Nat → Nat → Prop} {xs : Nat → Int32} {Lg : Nat} {fv : Value} {q : wv_Q} {sp : wv_K} (hLg : Lg ≤ 2048) (H : wL_13 Rel)
    (s231 : ∀ as T N I L R q, wl_c231 as T N I L R q → sp 231 as T N I L R q) (s442 : ∀ as T N I L R q, fb_c442 as T N I L R q → sp 442 as T N I L R q) (s343 : ∀ as T N I L R q, wp_c343 as T N I L R q → sp 343 as T N I L R q) :
    ∀ m lv st T N I L R nc ns, wL_P Rel xs Lg (some 13) m lv st T N I L R nc ns → wv_S wm_fx fv none sp 0 7 false (some .boolean) zt_0 q (wv wm_fx fv none sp 0 7 false (some .boolean) zt_0 (wv_h2 (wL_hd Rel xs Lg) m) q 100) (zk_at zt_0 941) lv st T N I L R nc ns := by
  rintro m lv st T N I L R nc ns ⟨i, x5, x6, rfl, rfl, hT, hx, hR, hi, hm, hop⟩
  obtain ⟨lk, v, C, n, W, nk, A, w, g, P, S, m0, x, sq, Q, pa, pb, lo, U, cl, Al, hA2, hR2, hK, hL, hO, r1, r2, r4⟩ := H T N I L R nc ns i (by omega) hR
  have e1 : I 1099511627776 (Int32.ofNat i + Int32.ofInt 1).toNatClampNeg = xs (i + 1) := (wL_x (k := 1) hx hLg hi (by omega)).1
  have b1 : 0 ≤ Int32.ofNat i + Int32.ofInt 1 ∧ (Int32.ofNat i + Int32.ofInt 1).toInt < Lg := (wL_x (k := 1) hx hLg hi (by omega)).2
  have e2 : I 1099511627776 (Int32.ofNat i + Int32.ofInt 2).toNatClampNeg = xs (i + 2) := (wL_x (k := 2) hx hLg hi (by omega)).1
  have b2 : 0 ≤ Int32.ofNat i + Int32.ofInt 2 ∧ (Int32.ofNat i + Int32.ofInt 2).toInt < Lg := (wL_x (k := 2) hx hLg hi (by omega)).2
  have n10 : ¬ (1 : Int32) = 0 := by decide
  have n20 : ¬ (2 : Int32) = 0 := by decide
  have n30 : ¬ (3 : Int32) = 0 := by decide
  obtain ⟨⟨h537, hwT, t27, t342, h342⟩, ⟨h16, h46, hlk, hlt⟩, hQ2⟩ := hA2
  refine ⟨_, hT, b1, ?_⟩
  rw [e1]
  refine ⟨_, hT, b2, ?_⟩
  rw [e2]
  refine s231 _ _ _ _ _ _ _ ⟨_, _, lk, 24, 1918, v, C, n, W, nk, A, w, g, P, rfl, h537, hwT, t27, hR2, t342, h342, h16, hlk, fun k hk => (hlt k hk).2.2, hlk, by omega, by omega, fun hb => ?_, fun p hp e => ⟨fun hs => ?_, fun hs => ?_⟩⟩
  · refine ⟨_, hT, b1, ?_⟩
    rw [e1]
    refine ⟨_, hT, b2, ?_⟩
    rw [e2]
    refine s442 _ _ _ _ _ _ _ ⟨_, _, lk, v, S, m0, x, sq, P, Q, pa, pb, lo, U, cl, Al, rfl, hK, fun _ => ?_, h46, hlk, fun k hk => (hlt k hk).2, fun p hp e => (kl_bp hp e hb).elim⟩
    refine s343 _ _ _ _ _ _ _ ⟨rfl, ?_⟩
    refine ⟨fun _ => ?_, fun h => (h (wv_u_at _ _ _ _)).elim⟩
    refine ⟨fun _ => ?_, fun h => (h n10).elim⟩
    exact wL_fin hLg hi hm hx hT (fun j => wv_u_no _ _ (by omega)) (r1 _)
  · have hfw : fw (S p) = false := by
      cases hz : fw (S p) with
      | false => rfl
      | true => exact (hs ((hL p hp).1.mp hz)).elim
    refine ⟨_, hT, b1, ?_⟩
    rw [e1]
    refine ⟨_, hT, b2, ?_⟩
    rw [e2]
    refine s442 _ _ _ _ _ _ _ ⟨_, _, lk, v, S, m0, x, sq, P, Q, pa, pb, lo, U, cl, Al, rfl, hK, fun z => (kl_bp hp e z).elim, h46, hlk, fun k hk => (hlt k hk).2, fun p2 hp2 ee => ?_⟩
    have ep := kl_p2 hp hp2 e ee
    subst ep
    refine ⟨fun z => ?_, fun _ I2 f1 f2 => ?_, fun z => ?_⟩
    · rw [hfw] at z
      cases z
    · refine s343 _ _ _ _ _ _ _ ⟨rfl, ?_⟩
      rw [f2]
      refine ⟨fun _ => ?_, fun h => (h rfl).elim⟩
      refine ⟨fun _ => ?_, fun h => (h n20).elim⟩
      exact wL_fin hLg hi hm hx hT (fun j => f1 _ _ (by omega)) (r2 I2 f1)
    · rw [hfw] at z
      cases z
  · have hfw : fw (S p) = true := (hL p hp).1.mpr hs
    obtain ⟨d1, d2, d3, d4, d5, d6⟩ := (hL p hp).2 hfw
    obtain ⟨oz, oo⟩ := hO p hp
    obtain ⟨o1, oi, o7, oA⟩ := oo hfw
    obtain ⟨hsQ, _, _, hmr, _, _, h345, hpos, _⟩ := hQ2 p hp
    obtain ⟨_, hcC, hsE, hm0, _, hsM⟩ := hsQ
    have hok := hsE.2.2.2.2.2.1
    refine ⟨d1, d2, d3, o7, hcC, by have := d2.2.1; omega, ⟨hsE.2.2.2.2.1.1, wm_t hwT rfl, fun k hk => (hlt k hk).1, fun _ => rfl⟩, fun dd ka T1 N1 I1 L1 R1 n1 s1 y1 y2 y4 yk => ?_, fun b T1 N1 I1 L1 R1 n1 s1 hV => ?_⟩
    · obtain ⟨tm, fm⟩ := kf_R_f d1.2.1 d1.2.2.1 dd T1 N1 I1 L1 R1 n1 s1 y1
      have hT1 := tm _ _ hT
      have h537b := tm _ _ h537
      have fS : ∀ j, I1 1099511627776 j = I 1099511627776 j := fun j => (fm _ j (by omega) (Or.inr ⟨_, hT, fun z => by
        cases z
        omega⟩)).1
      have fR : ∀ c j, 460 ≤ c → c ≤ 535 → I1 c j = I c j := fun c j c1 c2 => (fm c j c1 (Or.inl c2)).1
      have hK1 : ∀ p, p < 2 → rk_I T1 I1 p (S p) (m0 p) (x p) (sq p) := fun p3 hp3 => rk_I_c (hK p3 hp3) tm (fun c j c1 c2 => fR c j (by omega) (by omega))
      have e1b : I1 1099511627776 (Int32.ofNat i + Int32.ofInt 1).toNatClampNeg = xs (i + 1) := (fS _).trans e1
      have e2b : I1 1099511627776 (Int32.ofNat i + Int32.ofInt 2).toNatClampNeg = xs (i + 2) := (fS _).trans e2
      refine ⟨_, hT1, b1, ?_⟩
      rw [e1b]
      refine ⟨_, hT1, b2, ?_⟩
      rw [e2b]
      refine s442 _ _ _ _ _ _ _ ⟨_, _, lk, v, S, m0, x, sq, P, Q, pa, pb, lo, U, cl, Al, rfl, hK1, fun z => (kl_bp hp e z).elim, (fR _ _ (by omega) (by omega)).trans h46, hlk, fun k hk => ⟨(fR _ _ (by omega) (by omega)).trans (hlt k hk).2.1, (hlt k hk).2.2⟩, fun p2 hp2 ee => ?_⟩
      have ep := kl_p2 hp hp2 e ee
      subst ep
      refine ⟨fun _ => ⟨hmr, o1⟩, fun z => ?_, fun _ => ⟨d4, fp_r_c d5 (fun c j c1 c2 => fR c j (by omega) (by omega)), fun pn kb I2 L2 k1 k2 k4 e0 => ?_⟩⟩
      · rw [hfw] at z
        cases z
      have same := ff_same d4 y4 k1 d6
      have hf1 := ff_1_lt d4 k1 (fun n hn => (o1 n hn).1.2.2.2.2.2)
      have hfn := ff_n_lt hf1 _ (Nat.le_refl _)
      have hm155 := d4.2.2.2.2.2.1
      have eF : ff_n (P p2) ka (pd_m (P p2)) = ff_n (P p2) kb (pd_m (P p2)) := ff_n_c _ (fun i hi => (same i hi).2)
      rw [eF] at yk
      refine ⟨fun _ => ?_, fun z => (fd_ko (a := 0) (by omega) yk z (by omega)).elim, fun z => (fd_ko (by omega) yk z (by omega)).elim, fun bg I3 L3 _ _ _ _ k x1 bb hk hx1 z _ => ?_⟩
      · have hrel := r4 p2 hp2 hfw dd T1 N1 I1 L1 R1 n1 s1 y1 (kf_I_m y2 (by omega)) pn kb I2 L2 (wv_u I2 460 0 3) k1 k2 (fun c j _ _ _ c4 => wv_u_no _ _ (by omega)) (fun c j c1 _ _ _ => k4 c j c1) 1 (Nat.le_refl _)
        refine s343 _ _ _ _ _ _ _ ⟨rfl, ?_⟩
        refine ⟨fun _ => ?_, fun h => (h (wv_u_at _ _ _ _)).elim⟩
        refine ⟨fun _ => ?_, fun h => (h n30).elim⟩
        exact wL_fin (c1 := nc + (n1 + 1)) (s1 := ns + (s1 + 6)) hLg hi hm hx hT1 (fun j => (wv_u_no _ _ (by omega)).trans ((k2 _ _ (by omega) (by omega) (by omega) (by omega) (by omega) (by omega) (by omega) (by omega) (by omega) ).trans (fS j))) hrel
      · have := fd_lt hk hx1
        exact (fd_ko (by omega) yk z (by omega)).elim
    · obtain ⟨dd, ka, y1, y2, y4, yB⟩ := hV
      obtain ⟨tm, fm⟩ := kf_R_f d1.2.1 d1.2.2.1 dd T1 N1 I1 L1 R1 n1 s1 y1
      have hT1 := tm _ _ hT
      have h537b := tm _ _ h537
      have fS : ∀ j, I1 1099511627776 j = I 1099511627776 j := fun j => (fm _ j (by omega) (Or.inr ⟨_, hT, fun z => by
        cases z
        omega⟩)).1
      have fR : ∀ c j, 460 ≤ c → c ≤ 535 → I1 c j = I c j := fun c j c1 c2 => (fm c j c1 (Or.inl c2)).1
      have hK1 : ∀ p, p < 2 → rk_I T1 I1 p (S p) (m0 p) (x p) (sq p) := fun p3 hp3 => rk_I_c (hK p3 hp3) tm (fun c j c1 c2 => fR c j (by omega) (by omega))
      have e1b : I1 1099511627776 (Int32.ofNat i + Int32.ofInt 1).toNatClampNeg = xs (i + 1) := (fS _).trans e1
      have e2b : I1 1099511627776 (Int32.ofNat i + Int32.ofInt 2).toNatClampNeg = xs (i + 2) := (fS _).trans e2
      refine ⟨_, hT1, b1, ?_⟩
      rw [e1b]
      refine ⟨_, hT1, b2, ?_⟩
      rw [e2b]
      refine s442 _ _ _ _ _ _ _ ⟨_, _, lk, v, S, m0, x, sq, P, Q, pa, pb, lo, U, cl, Al, rfl, hK1, fun z => (kl_bp hp e z).elim, (fR _ _ (by omega) (by omega)).trans h46, hlk, fun k hk => ⟨(fR _ _ (by omega) (by omega)).trans (hlt k hk).2.1, (hlt k hk).2.2⟩, fun p2 hp2 ee => ?_⟩
      have ep := kl_p2 hp hp2 e ee
      subst ep
      refine ⟨fun _ => ⟨hmr, o1⟩, fun z => ?_, fun _ => ⟨d4, fp_r_c d5 (fun c j c1 c2 => fR c j (by omega) (by omega)), fun pn kb I2 L2 k1 k2 k4 e0 => ?_⟩⟩
      · rw [hfw] at z
        cases z
      have same := ff_same d4 y4 k1 d6
      have hf1 := ff_1_lt d4 k1 (fun n hn => (o1 n hn).1.2.2.2.2.2)
      have hfn := ff_n_lt hf1 _ (Nat.le_refl _)
      have hm155 := d4.2.2.2.2.2.1
      have eF : ff_n (P p2) ka (pd_m (P p2)) = ff_n (P p2) kb (pd_m (P p2)) := ff_n_c _ (fun i hi => (same i hi).2)
      have g490 : I2 490 p2 = I 490 p2 := (k2 _ _ (by omega) (by omega) (by omega) (by omega) (by omega) (by omega) (by omega) (by omega) (by omega) ).trans (fR _ _ (by omega) (by omega))
      have all := fun (b2 : Bool) h2 => fd_all (b2 := b2) (J := I2) (kb := kb) hm155 hf1 (fun i hi => (same i hi).2) (by rw [g490]; exact h345) (by rw [g490]; exact hpos) (fun z => by rw [g490]; exact oz z) yB h2
      refine ⟨fun yk => ?_, fun z => ?_, fun z => ?_, fun bg I3 L3 f3 g3 hS2 hbg k x1 bb hk hx1 z hfA => ?_⟩
      · rw [← eF] at yk
        exfalso
        rcases yB with ⟨z, _⟩ | ⟨z, _⟩ | ⟨_, z, _⟩ | ⟨i2, x2, _, z1, z2, z3, _⟩
        · exact fd_ko (a := 0) (by omega) yk z (by omega)
        · exact z yk
        · exact fd_ko (by omega) yk z (by omega)
        · have := fd_lt z1 z2
          exact fd_ko (by omega) yk z3 (by omega)
      · have hS3 : ∀ j, I2 1099511627776 j = I 1099511627776 j := fun j => (k2 _ _ (by omega) (by omega) (by omega) (by omega) (by omega) (by omega) (by omega) (by omega) (by omega) ).trans (fS j)
        have e03 : I2 460 0 = 0 := e0
        have hL2 : fo_L L1 L2 := fun c j c1 c2 c3 c4 => (k4 c j c1).trans (wv_u_no _ _ (by omega))
        have e5 : L2 536 0 = cr_bl b := (k4 _ _ (by omega)).trans (wv_u_at _ _ _ _)
        have hrel := r4 p2 hp2 hfw dd T1 N1 I1 L1 R1 n1 s1 y1 y2 pn kb I2 L2 I2 k1 k2 (fun _ _ _ _ _ _ => rfl) hL2 0 (by omega)
        obtain ⟨bb, hbb⟩ : ∃ bb, bb = decide (lk = 0) := ⟨_, rfl⟩
        rw [← hbb]
        have eb : b = bb := all bb (Or.inl ⟨z, by rw [hbb]; exact decide_eq_true_iff⟩)
        subst eb
        have fin := fun (y6 : Option Value) => wL_fin (c1 := nc + n1) (s1 := ns + s1) (Rel := Rel) (I1 := I2) (L1 := L2) (y5 := some (.int 0)) (y6 := y6) hLg hi hm hx hT1 (fun j => hS3 j) hrel
        refine s343 _ _ _ _ _ _ _ ⟨rfl, ?_⟩
        rw [e03]
        refine ⟨fun _ => ?_, fun h => (h rfl).elim⟩
        refine ⟨fun h => (h rfl).elim, fun _ => ?_⟩
        refine ⟨_, h537b, ⟨by decide, by decide⟩, ?_⟩
        cases b with
        | true => exact ⟨fun h => absurd h (wb_i_1.mpr rfl), fun _ => ⟨fun _ => fin _, fun h => (h (lg_cmp_0.mpr e5)).elim⟩⟩
        | false => exact ⟨fun _ => ⟨fun _ => fin _, fun h => (h (lg_cmp_0.mpr e5)).elim⟩, fun h => absurd (wb_i_0.mpr rfl) h⟩
      · have hS3 : ∀ j, I2 1099511627776 j = I 1099511627776 j := fun j => (k2 _ _ (by omega) (by omega) (by omega) (by omega) (by omega) (by omega) (by omega) (by omega) (by omega) ).trans (fS j)
        have e03 : I2 460 0 = 0 := e0
        have hL2 : fo_L L1 L2 := fun c j c1 c2 c3 c4 => (k4 c j c1).trans (wv_u_no _ _ (by omega))
        have e5 : L2 536 0 = cr_bl b := (k4 _ _ (by omega)).trans (wv_u_at _ _ _ _)
        have hrel := r4 p2 hp2 hfw dd T1 N1 I1 L1 R1 n1 s1 y1 y2 pn kb I2 L2 I2 k1 k2 (fun _ _ _ _ _ _ => rfl) hL2 0 (by omega)
        obtain ⟨bb, hbb⟩ : ∃ bb, bb = decide (0 < I2 490 p2) := ⟨_, rfl⟩
        rw [← hbb]
        have eb : b = bb := all bb (Or.inr (Or.inl ⟨z, by rw [hbb]; exact decide_eq_true_iff⟩))
        subst eb
        have fin := fun (y6 : Option Value) => wL_fin (c1 := nc + n1) (s1 := ns + s1) (Rel := Rel) (I1 := I2) (L1 := L2) (y5 := some (.int 0)) (y6 := y6) hLg hi hm hx hT1 (fun j => hS3 j) hrel
        refine s343 _ _ _ _ _ _ _ ⟨rfl, ?_⟩
        rw [e03]
        refine ⟨fun _ => ?_, fun h => (h rfl).elim⟩
        refine ⟨fun h => (h rfl).elim, fun _ => ?_⟩
        refine ⟨_, h537b, ⟨by decide, by decide⟩, ?_⟩
        cases b with
        | true => exact ⟨fun h => absurd h (wb_i_1.mpr rfl), fun _ => ⟨fun _ => fin _, fun h => (h (lg_cmp_0.mpr e5)).elim⟩⟩
        | false => exact ⟨fun _ => ⟨fun _ => fin _, fun h => (h (lg_cmp_0.mpr e5)).elim⟩, fun h => absurd (wb_i_0.mpr rfl) h⟩
      · have f3 : ∀ c j, ¬ c = 491 → ¬ c = 495 → ¬ c = 526 → ¬ (c = 460 ∧ j = 49) → I3 c j = I2 c j := f3
        have hS3 : ∀ j, I3 1099511627776 j = I 1099511627776 j := fun j => (f3 _ _ (by omega) (by omega) (by omega) (by omega)).trans ((k2 _ _ (by omega) (by omega) (by omega) (by omega) (by omega) (by omega) (by omega) (by omega) (by omega) ).trans (fS j))
        have e03 : I3 460 0 = 0 := (f3 _ _ (by omega) (by omega) (by omega) (by omega)).trans e0
        have hL2 : fo_L L1 L3 := fun c j c1 c2 c3 c4 => (g3 c j (by omega) (by omega) (by omega) c3).trans ((k4 c j c1).trans (wv_u_no _ _ (by omega)))
        have e5 : L3 536 0 = cr_bl b := (g3 _ _ (by omega) (by omega) (by omega) (by omega)).trans ((k4 _ _ (by omega)).trans (wv_u_at _ _ _ _))
        have hrel := r4 p2 hp2 hfw dd T1 N1 I1 L1 R1 n1 s1 y1 y2 pn kb I2 L3 I3 k1 k2 (fun c j c1 c2 c3 c4 => f3 c j c1 c2 c3 (by omega)) hL2 0 (by omega)
        have hH : fc_H (S p2) lk v (fb_e L3) (P p2) (Q p2) (pa p2) (pb p2) pn (x p2) := ⟨d4, k1.2.2.2.1, oi, fun k hk => (hlt k hk).2.2, fun y hy ht i1 j1 h1 h2 => fd_en hS2 hmr.2.2.2.1 hmr.2.2.2.2.1 (d4.2.1 y hy).1 (d4.2.1 y hy).2 ht h1 h2⟩
        have eb : b = bb := all bb (Or.inr (Or.inr ⟨k, x1, hk, hx1, z, fun z0 => ?_, fun z0 hcp => ?_⟩))
        rotate_left
        · subst z0
          exact fd_A0 hfA
        · obtain ⟨mJ, mX⟩ := hsM z0
          have hX := mX k hk
          rw [if_neg (Nat.not_lt_zero _), Nat.zero_add] at hX
          refine fd_P hH hk (fun t ht => ?_) hX (fun hb => ?_) hcp hfA
          · rw [hbg _ t ht, fc_same hH hlk hok mJ k hk t ht]
            show nb (L (343 + p2) (0 + k)) t = true ↔ _
            rw [Nat.zero_add]
          · obtain ⟨kQ, kpa⟩ := k1.2.2.2.1 k hk
            have hts : tr_S (rn_k (S p2) (pn k)) := by
              have f := (fs_tr (d4.1 _ kQ).1).1
              rw [kpa] at f
              exact f.mp hb
            have h6 := d6 _ kQ hts
            rw [kpa] at h6
            exact ⟨oA k hk hb, h6⟩
        subst eb
        have fin := fun (y6 : Option Value) => wL_fin (c1 := nc + n1) (s1 := ns + s1) (Rel := Rel) (I1 := I3) (L1 := L3) (y5 := some (.int 0)) (y6 := y6) hLg hi hm hx hT1 (fun j => hS3 j) hrel
        refine s343 _ _ _ _ _ _ _ ⟨rfl, ?_⟩
        rw [e03]
        refine ⟨fun _ => ?_, fun h => (h rfl).elim⟩
        refine ⟨fun h => (h rfl).elim, fun _ => ?_⟩
        refine ⟨_, h537b, ⟨by decide, by decide⟩, ?_⟩
        cases b with
        | true => exact ⟨fun h => absurd h (wb_i_1.mpr rfl), fun _ => ⟨fun _ => fin _, fun h => (h (lg_cmp_0.mpr e5)).elim⟩⟩
        | false => exact ⟨fun _ => ⟨fun _ => fin _, fun h => (h (lg_cmp_0.mpr e5)).elim⟩, fun h => absurd (wb_i_0.mpr rfl) h⟩
