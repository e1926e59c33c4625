/-! ===== the law: flops ===== -/
theorem ff_same {P : pd_P} {p m0 x : Nat} {S : rn_N} {Q : Nat → Prop} {pa pb : Nat → Nat} {U : Nat → np_A} {pn : Nat → Nat} {A : Nat → nt_A} {g : Nat → Nat} {ka kb : Nat → Nat × (Nat → Nat)} {T : wv_T} {I : Nat → Nat → Int32} (hD : fp_D S P Q pa pb x) (h1 : cf_k P A g ka (pd_m P)) (h2 : ff_Z p S m0 x P Q pa U pn kb T I) (hs : ∀ n, Q n → tr_S (rn_k S n) → np_sim (U (nq_l (rn_d S n))) (A (pd_l P (pa n))) ∧ ni_A (g (pd_l P (pa n))) (A (pd_l P (pa n))) ∧ np_n (U (nq_l (rn_d S n))) ≤ 64) : ∀ i, i < pd_m P → (fs_b (pd_k P i) → (ka i).1 = (kb i).1 ∧ ∀ c, c < (ka i).1 → (ka i).2 c = (kb i).2 c) ∧ ff_1 P ka i = ff_1 P kb i := by
  intro i hi
  obtain ⟨hQ, hpa⟩ := h2.2.2.2.1 i hi
  have key : fs_b (pd_k P i) → (ka i).1 = (kb i).1 ∧ ∀ c, c < (ka i).1 → (ka i).2 c = (kb i).2 c := fun hb => by
    obtain ⟨E, B, I2, mv, r1⟩ := h1 i hi hb
    obtain ⟨mv2, r2, _⟩ := h2.2.2.2.2.2.2 i hi hb
    have hts : tr_S (rn_k S (pn i)) := by
      have f := (fs_tr (hD.1 _ hQ).1).1
      rw [hpa] at f
      exact f.mp hb
    obtain ⟨s1, s2, s3⟩ := hs _ hQ hts
    rw [hpa] at s1 s2
    obtain ⟨e1, e2, _⟩ := rk_same r1 r2 s1 s2 s3
    exact ⟨e1, fun c hc => (e2 c hc).1⟩
  refine ⟨key, ?_⟩
  by_cases hb : fs_b (pd_k P i)
  · obtain ⟨e1, e2⟩ := key hb
    rw [cf_ff1 hb, cf_ff1 hb]
    unfold cf_1
    rw [← e1]
    split
    · exact kk_n_c _ e2
    · exact kk_n_c _ e2
  · rw [cf_ff0 hb, cf_ff0 hb]
/-- what Rel must give for flops and flop, of property p -/
def fl_p (p : Nat) (T : wv_T) (N : Nat) (I : Nat → Nat → Int32) (L : Nat → Nat → Int64) (R : Nat → Nat → Option Nat) (C n : Nat) (W : Nat → Nat) (nk : Nat) (A : Nat → nt_A) (w g : Nat → Nat) (P : pd_P) (S : rn_N) (x : Nat) (Q : Nat → Prop) (pa pb lo : Nat → Nat) (U : Nat → np_A) (cl : Nat → Nat → Nat) (Al : Nat → Nat → Prop) : Prop := (fw S = true ↔ cf_s n W n) ∧ (fw S = true → kf_I C nk 400 A w g T N I L R ∧ cf_m P C I ∧ (∀ i, i < pd_m P → fs_b (pd_k P i) → pd_l P i < nk) ∧ fp_D S P Q pa pb x ∧ fp_r p S P Q pa lo U cl Al I ∧ ∀ n, Q n → tr_S (rn_k S n) → np_sim (U (nq_l (rn_d S n))) (A (pd_l P (pa n))) ∧ ni_A (g (pd_l P (pa n))) (A (pd_l P (pa n))) ∧ np_n (U (nq_l (rn_d S n))) ≤ 64)
def fl_H (Rel : wv_T → Nat → (Nat → Nat → Int32) → (Nat → Nat → Int64) → (Nat → Nat → Option Nat) → Nat → Nat → Nat → Prop) (T : wv_T) (N : Nat) (I : Nat → Nat → Int32) (L : Nat → Nat → Int64) (R : Nat → Nat → Option Nat) (nc ns i : Nat) : Prop := ∃ (C n : Nat → Nat) (W : Nat → Nat → Nat) (nk : Nat → Nat) (A : Nat → Nat → nt_A) (w g : Nat → Nat → Nat) (P : Nat → pd_P) (S : Nat → rn_N) (m0 x : Nat → Nat) (sq : Nat → List Nat) (Q : Nat → Nat → Prop) (pa pb lo : Nat → Nat → Nat) (U : Nat → Nat → np_A) (cl : Nat → Nat → Nat → Nat) (Al : Nat → Nat → Nat → Prop), T 536 = some (.inr (1, 1)) ∧ (∃ k1, T 27 = some (.inr (k1 + 4, 2))) ∧ (∀ p, p < 2 → R 27 p = some (C p) ∧ pp_D T R (C p) ∧ I (C p) 9 = Int32.ofNat (n p) ∧ n p ≤ 67 ∧ ∀ k, k < n p → I (C p + 9 + k) 2 = Int32.ofNat (W p k) ∧ W p k < 2147483648) ∧ (∀ p, p < 2 → rk_I T I p (S p) (m0 p) (x p) (sq p)) ∧ (∀ p, p < 2 → fl_p p T N I L R (C p) (n p) (W p) (nk p) (A p) (w p) (g p) (P p) (S p) (x p) (Q p) (pa p) (pb p) (lo p) (U p) (cl p) (Al p)) ∧ (∀ z, Rel T N (wv_u I 460 0 z) L R (nc + 1) (ns + 6) (i + 4)) ∧ (∀ I1, ff_0 I I1 → Rel T N I1 L R (nc + 1) (ns + 6) (i + 4)) ∧ ∀ p, p < 2 → fw (S p) = true → ∀ d T1 N1 I1 L1 R1 n1 s1, kf_R (C p) (nk p) (A p) (g p) T N I L R d T1 N1 I1 L1 R1 n1 s1 → kf_I (C p) (nk p) 210 (A p) (w p) (g p) T1 N1 I1 L1 R1 → ∀ pn kb I2 L2, ff_Z p (S p) (m0 p) (x p) (P p) (Q p) (pa p) (U p) pn kb T1 I2 → ff_G p I1 I2 → rk_L3 L1 L2 → ∀ e, e ≤ 1 → Rel T1 N1 I2 L2 R1 (nc + (n1 + e)) (ns + (s1 + 6 * e)) (i + 4)
def wL_12 (Rel : wv_T → Nat → (Nat → Nat → Int32) → (Nat → Nat → Int64) → (Nat → Nat → Option Nat) → Nat → Nat → Nat → Prop) : Prop := ∀ T N I L R nc ns i, i ≤ 2044 → Rel T N I L R nc ns i → fl_H Rel T N I L R nc ns i
set_option maxRecDepth 100000 in
set_option maxHeartbeats 4000000 in
theorem wL_case12 {Rel : wv_T → Nat → (Nat → Nat → Int32) → (Nat → Nat → Int64) → (Nat → Nat → Option Nat) → Nat → Nat → Nat → Prop} {xs : Nat → Int32} {Lg : Nat} {fv : Value} {q : wv_Q} {sp : wv_K} (hLg : Lg ≤ 2048) (H : wL_12 Rel)
    (s224 : ∀ as T N I L R q, wl_c224 as T N I L R q → sp 224 as T N I L R q) (s437 : ∀ as T N I L R q, ff_c437 as T N I L R q → sp 437 as T N I L R q) (s343 : ∀ as T N I L R q, wp_c343 as T N I L R q → sp 343 as T N I L R q) :
    ∀ m lv st T N I L R nc ns, wL_P Rel xs Lg (some 12) m lv st T N I L R nc ns → wv_S wm_fx fv none sp 0 7 false (some .boolean) zt_0 q (wv wm_fx fv none sp 0 7 false (some .boolean) zt_0 (wv_h2 (wL_hd Rel xs Lg) m) q 100) (zk_at zt_0 885) lv st T N I L R nc ns := by
  rintro m lv st T N I L R nc ns ⟨i, x5, x6, rfl, rfl, hT, hx, hR, hi, hm, hop⟩
  obtain ⟨C, n, W, nk, A, w, g, P, S, m0, x, sq, Q, pa, pb, lo, U, cl, Al, h537, t27, hR2, hK, hL, r1, r2, r4⟩ := H T N I L R nc ns i (by omega) hR
  have e1 : I 1099511627776 (Int32.ofNat i + Int32.ofInt 1).toNatClampNeg = xs (i + 1) := (wL_x (k := 1) hx hLg hi (by omega)).1
  have b1 : 0 ≤ Int32.ofNat i + Int32.ofInt 1 ∧ (Int32.ofNat i + Int32.ofInt 1).toInt < Lg := (wL_x (k := 1) hx hLg hi (by omega)).2
  have e2 : I 1099511627776 (Int32.ofNat i + Int32.ofInt 2).toNatClampNeg = xs (i + 2) := (wL_x (k := 2) hx hLg hi (by omega)).1
  have b2 : 0 ≤ Int32.ofNat i + Int32.ofInt 2 ∧ (Int32.ofNat i + Int32.ofInt 2).toInt < Lg := (wL_x (k := 2) hx hLg hi (by omega)).2
  have n10 : ¬ (1 : Int32) = 0 := by decide
  have n20 : ¬ (2 : Int32) = 0 := by decide
  refine ⟨_, hT, b1, ?_⟩
  rw [e1]
  refine s224 _ _ _ _ _ _ _ ⟨_, C, n, W, nk, A, w, g, P, rfl, h537, t27, hR2, fun hb => ?_, fun p hp e => ⟨fun hs => ?_, fun hs => ?_⟩⟩
  · refine ⟨_, hT, b1, ?_⟩
    rw [e1]
    refine s437 _ _ _ _ _ _ _ ⟨_, S, m0, x, sq, P, Q, pa, pb, lo, U, cl, Al, rfl, hK, fun _ => ?_, fun p hp e => (kl_bp hp e hb).elim⟩
    refine s343 _ _ _ _ _ _ _ ⟨rfl, ?_⟩
    refine ⟨fun _ => ?_, fun h => (h (wv_u_at _ _ _ _)).elim⟩
    refine ⟨fun _ => ?_, fun h => (h n10).elim⟩
    exact wL_fin hLg hi hm hx hT (fun j => wv_u_no _ _ (by omega)) (r1 _)
  · have hfw : fw (S p) = false := by
      cases hz : fw (S p) with
      | false => rfl
      | true => exact (hs ((hL p hp).1.mp hz)).elim
    refine ⟨_, hT, b1, ?_⟩
    rw [e1]
    refine s437 _ _ _ _ _ _ _ ⟨_, S, m0, x, sq, P, Q, pa, pb, lo, U, cl, Al, rfl, hK, fun z => (kl_bp hp e z).elim, fun p2 hp2 e2 => ?_⟩
    have ep := kl_p2 hp hp2 e e2
    subst ep
    refine ⟨fun _ I2 f1 f2 => ?_, fun z => ?_⟩
    · refine s343 _ _ _ _ _ _ _ ⟨rfl, ?_⟩
      rw [f2]
      refine ⟨fun _ => ?_, fun h => (h rfl).elim⟩
      refine ⟨fun _ => ?_, fun h => (h n20).elim⟩
      exact wL_fin hLg hi hm hx hT (fun j => f1 _ _ (by omega)) (r2 I2 f1)
    · rw [hfw] at z
      cases z
  · have hfw : fw (S p) = true := (hL p hp).1.mpr hs
    obtain ⟨d1, d2, d3, d4, d5, d6⟩ := (hL p hp).2 hfw
    refine ⟨d1, d2, d3, fun dd ka T1 N1 I1 L1 R1 n1 s1 y1 y2 y3 y4 => ?_⟩
    obtain ⟨tm, fm⟩ := kf_R_f d1.2.1 d1.2.2.1 dd T1 N1 I1 L1 R1 n1 s1 y1
    have hT1 := tm _ _ hT
    have h537b := tm _ _ h537
    have fS : ∀ j, I1 1099511627776 j = I 1099511627776 j := fun j => (fm _ j (by omega) (Or.inr ⟨_, hT, fun z => by
      cases z
      omega⟩)).1
    have fR : ∀ c j, 460 ≤ c → c ≤ 535 → I1 c j = I c j := fun c j c1 c2 => (fm c j c1 (Or.inl c2)).1
    have hK1 : ∀ p, p < 2 → rk_I T1 I1 p (S p) (m0 p) (x p) (sq p) := fun p3 hp3 => rk_I_c (hK p3 hp3) tm (fun c j c1 c2 => fR c j (by omega) (by omega))
    have e1b : I1 1099511627776 (Int32.ofNat i + Int32.ofInt 1).toNatClampNeg = xs (i + 1) := (fS _).trans e1
    refine ⟨_, hT1, b1, ?_⟩
    rw [e1b]
    refine s437 _ _ _ _ _ _ _ ⟨_, S, m0, x, sq, P, Q, pa, pb, lo, U, cl, Al, rfl, hK1, fun z => (kl_bp hp e z).elim, fun p2 hp2 e2 => ?_⟩
    have ep := kl_p2 hp hp2 e e2
    subst ep
    refine ⟨fun z => ?_, fun _ => ?_⟩
    · rw [hfw] at z
      cases z
    refine ⟨d4, fp_r_c d5 (fun c j c1 c2 => fR c j (by omega) (by omega)), fun pn kb I2 L2 k1 k2 k4 e0 => ?_⟩
    have same := ff_same d4 y4 k1 d6
    have hL3 : rk_L3 L1 L2 := fun c j c1 c2 => (k4 c j c1).trans (wv_u_no _ _ (by omega))
    have e537 : L2 536 0 = (Int32.ofNat (2 + ff_n (P p2) ka (pd_m (P p2)))).toInt64 := (k4 _ _ (by omega)).trans (wv_u_at _ _ _ _)
    have eqv : L2 536 0 = (Int32.ofNat (2 + ff_n (P p2) kb (pd_m (P p2)))).toInt64 := by
      rw [e537, ff_n_c _ (fun i hi => (same i hi).2)]
    have fin := wL_fin (c1 := nc + n1) (s1 := ns + s1) (Rel := Rel) (I1 := I2) (L1 := L2) (y5 := some (.int 0)) (y6 := some (.int (Int32.ofNat (2 + ff_n (P p2) kb (pd_m (P p2)))))) hLg hi hm hx hT1 (fun j => (k2 _ _ (by omega) (by omega) (by omega) (by omega) (by omega) (by omega) (by omega) (by omega) (by omega) ).trans (fS j)) (r4 p2 hp2 hfw dd T1 N1 I1 L1 R1 n1 s1 y1 y2 pn kb I2 L2 k1 k2 hL3 0 (by omega))
    refine s343 _ _ _ _ _ _ _ ⟨rfl, ?_⟩
    rw [e0]
    refine ⟨fun _ => ?_, fun h => (h rfl).elim⟩
    refine ⟨fun h => (h rfl).elim, fun _ => ?_⟩
    refine ⟨_, h537b, ⟨by decide, by decide⟩, ?_⟩
    exact ⟨fun _ => fin, fun h => (h (lg_cmp_0.mpr eqv)).elim⟩
