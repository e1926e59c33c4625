/-! ===== the law: number ===== -/
/-- what Rel must give for number -/
def nu_H (Rel : wv_T → Nat → (Nat → Nat → Int32) → (Nat → Nat → Int64) → (Nat → Nat → Option Nat) → Nat → Nat → Nat → Prop) (T : wv_T) (N : Nat) (I : Nat → Nat → Int32) (L : Nat → Nat → Int64) (R : Nat → Nat → Option Nat) (nc ns i : Nat) : Prop := ∃ (C B V cap : Nat) (z : List Nat) (a b g : Nat) (nx : Nat → Nat) (fi : Nat → Bool) (sg on tw : Nat → Nat), T 536 = some (.inr (1, 1)) ∧ wm_T T ∧ T 460 = some (.inl 12) ∧ 535 < N ∧ R 0 14 = some C ∧ wr_D C B V cap z a b g nx fi sg on tw T N I R ∧ tw_M a b g nx fi sg on tw I ∧ Rel T N (wv_u I 460 0 1) L R (nc + 1) (ns + 6) (i + 4) ∧ (¬ I C 7 = 0 → ∀ x I1, tw_F (wv_u I 460 0 0) I1 → Rel T N I1 (wv_u L 536 0 x) R nc ns (i + 4)) ∧ (I C 7 = 0 → ∀ V1 cap1 T1 N1 I1 L1 R1 n1 s1, bu_D T1 I1 R1 B V1 cap1 (tw_T a b g nx fi sg on tw) → bu_G B V cap T N I L R V1 cap1 T1 N1 I1 L1 R1 n1 s1 → ∀ x I2, tw_F (wv_u (wv_u I1 C 7 1) 460 0 0) I2 → Rel T1 N1 I2 (wv_u L1 536 0 x) R1 (nc + n1) (ns + s1) (i + 4))
theorem nu_neg {ki : Int32} {k : Nat} (h : ki < 0) (hk : k < 2147483648) (e : ki = Int32.ofNat k) : False := by
  rw [e, wi_lt, wi_on hk, wi_0] at h
  omega
theorem nu_k2 {ki : Int32} {k k2 : Nat} (hk : k < 2147483648) (hk2 : k2 < 2147483648) (e : ki = Int32.ofNat k) (e2 : ki = Int32.ofNat k2) : k2 = k := fd_on hk2 hk (e2.symm.trans e)
def wL_16 (Rel : wv_T → Nat → (Nat → Nat → Int32) → (Nat → Nat → Int64) → (Nat → Nat → Option Nat) → Nat → Nat → Nat → Prop) : Prop := ∀ T N I L R nc ns i, i ≤ 2044 → Rel T N I L R nc ns i → nu_H Rel T N I L R nc ns i
set_option maxRecDepth 100000 in
set_option maxHeartbeats 4000000 in
theorem wL_case16 {Rel : wv_T → Nat → (Nat → Nat → Int32) → (Nat → Nat → Int64) → (Nat → Nat → Option Nat) → Nat → Nat → Nat → Prop} {xs : Nat → Int32} {Lg : Nat} {fv : Value} {q : wv_Q} {sp : wv_K} (hLg : Lg ≤ 2048) (H : wL_16 Rel)
    (s240 : ∀ as T N I L R q, wr_c240 as T N I L R q → sp 240 as T N I L R q) (s490 : ∀ as T N I L R q, tw_c490 as T N I L R q → sp 490 as T N I L R q) (s343 : ∀ as T N I L R q, wp_c343 as T N I L R q → sp 343 as T N I L R q) :
    ∀ m lv st T N I L R nc ns, wL_P Rel xs Lg (some 16) m lv st T N I L R nc ns → wv_S wm_fx fv none sp 0 7 false (some .boolean) zt_0 q (wv wm_fx fv none sp 0 7 false (some .boolean) zt_0 (wv_h2 (wL_hd Rel xs Lg) m) q 100) (zk_at zt_0 1042) lv st T N I L R nc ns := by
  rintro m lv st T N I L R nc ns ⟨i, x5, x6, rfl, rfl, hT, hx, hR, hi, hm, hop⟩
  obtain ⟨C, B, V, cap, z, a, b, g, nx, fi, sg, on, tw, h537, hwT, h460, hN535, hR14, hW, hM, r1, r2, r3⟩ := H T N I L R nc ns i (by omega) hR
  have e1 : I 1099511627776 (Int32.ofNat i + Int32.ofInt 1).toNatClampNeg = xs (i + 1) := (wL_x (k := 1) hx hLg hi (by omega)).1
  have b1 : 0 ≤ Int32.ofNat i + Int32.ofInt 1 ∧ (Int32.ofNat i + Int32.ofInt 1).toInt < Lg := (wL_x (k := 1) hx hLg hi (by omega)).2
  have n10 : ¬ (1 : Int32) = 0 := by decide
  refine ⟨_, hT, b1, ?_⟩
  rw [e1]
  refine s240 _ _ _ _ _ _ _ ⟨_, C, B, V, cap, z, a, b, g, nx, fi, sg, on, tw, rfl, h537, hR14, hW, fun hneg => ?_, fun k hk ek => ⟨fun y => ?_, fun y V1 cap1 T1 N1 I1 L1 R1 n1 s1 D1 G1 => ?_⟩⟩
  · refine ⟨_, hT, b1, ?_⟩
    rw [e1]
    refine s490 _ _ _ _ _ _ _ ⟨_, a, b, g, nx, fi, sg, on, tw, rfl, hwT, hW.2.1, hM, fun _ => ?_, fun k hk ek => (nu_neg hneg hk ek).elim⟩
    refine s343 _ _ _ _ _ _ _ ⟨rfl, ?_⟩
    refine ⟨fun _ => ?_, fun h => (h (wv_u_at _ _ _ _)).elim⟩
    refine ⟨fun _ => ?_, fun h => (h n10).elim⟩
    exact wL_fin hLg hi hm hx hT (fun j => wv_u_no _ _ (by omega)) r1
  · refine ⟨_, hT, b1, ?_⟩
    rw [e1]
    refine s490 _ _ _ _ _ _ _ ⟨_, a, b, g, nx, fi, sg, on, tw, rfl, hwT, hW.2.1, hM, fun hneg => (nu_neg hneg hk ek).elim, fun k2 hk2 ek2 I2 f2 => ?_⟩
    have ep := nu_k2 hk hk2 ek ek2
    subst ep
    have e0 : I2 460 0 = 0 := (f2 _ _ (by omega)).trans (wv_u_at _ _ _ _)
    refine s343 _ _ _ _ _ _ _ ⟨rfl, ?_⟩
    rw [e0]
    refine ⟨fun _ => ?_, fun h => (h rfl).elim⟩
    refine ⟨fun h => (h rfl).elim, fun _ => ?_⟩
    refine ⟨_, h537, ⟨by decide, by decide⟩, ?_⟩
    have fin := wL_fin (c1 := nc) (s1 := ns) (Rel := Rel) (I1 := I2) (L1 := wv_u L 536 0 (tw_c (tw_T a b g nx fi sg on tw) k2).toInt64) (y5 := some (.int 0)) (y6 := some (.int (tw_c (tw_T a b g nx fi sg on tw) k2))) hLg hi hm hx hT (fun j => (f2 _ _ (by omega)).trans (wv_u_no _ _ (by omega))) (r2 y _ I2 f2)
    exact ⟨fun _ => fin, fun h => (h (lg_cmp_0.mpr (wv_u_at _ _ _ _))).elim⟩
  · obtain ⟨hP, hV, hN0, hS, hD, hz⟩ := hW
    have hn1 := bu_nb G1 D1.1.2.2.2.2.2.1
    have hNb := hP.2.2.2.1
    have F1 := wr_now hP hN0 D1 G1
    obtain ⟨g1, g2, g3, g4, g5, g6, g7, g8, g9⟩ := id G1
    obtain ⟨⟨hB13, _, _, hV3, _⟩, _⟩ := id hD
    have neB : ∀ c x, T c = some (.inr x) → ¬ c = B := fun c x hc e => by
      rw [e, hB13] at hc
      cases hc
    have neV : ∀ c k n, T c = some (.inr (k, n)) → ¬ k = 3 → ¬ c = V := fun c k n hc hk3 e => by
      rw [e, hV3] at hc
      cases hc
      exact hk3 rfl
    have nC : ∀ c x, T c = some (.inr x) → ¬ c = C := fun c x hc e => by
      rw [e, hP.1.1] at hc
      cases hc
    have keep : ∀ c k n j, T c = some (.inr (k, n)) → ¬ k = 3 → (c < N ∨ N1 ≤ c) → wv_u I1 C 7 1 c j = I c j := fun c k n j hc hk3 hcN => by
      rw [wv_u_no _ _ (fun y => nC c _ hc y.1)]
      exact g6 c j (neB c _ hc) (neV c k n hc hk3) hcN
    have k460 : ∀ j, wv_u I1 C 7 1 460 j = I 460 j := fun j => by
      have c1 : ¬ (460 = C) := fun e => by
        have := hP.1.1
        rw [← e, h460] at this
        cases this
      have c2 : ¬ (460 = B) := fun e => by
        have := hB13
        rw [← e, h460] at this
        cases this
      have c3 : ¬ (460 = V) := fun e => by
        have := hV3
        rw [← e, h460] at this
        cases this
      rw [wv_u_no _ _ (fun y => c1 y.1)]
      exact g6 460 j c2 c3 (Or.inl (by omega))
    have t496 : T 496 = some (.inr (0, 60)) := wm_t hwT rfl
    have t497 : T 497 = some (.inr (0, 60)) := wm_t hwT rfl
    have t498 : T 498 = some (.inr (0, 5)) := wm_t hwT rfl
    have t499 : T 499 = some (.inr (2, 5)) := wm_t hwT rfl
    have t500 : T 500 = some (.inr (0, 6)) := wm_t hwT rfl
    have hM1 : tw_M a b g nx fi sg on tw (wv_u I1 C 7 1) := by
      obtain ⟨m1, m2, m3, m4, m5, m6⟩ := hM
      exact ⟨(k460 _).trans m1, (k460 _).trans m2, (k460 _).trans m3, fun i hi => ⟨(keep _ _ _ _ t498 (by decide) (Or.inl (by omega))).trans (m4 i hi).1, (keep _ _ _ _ t499 (by decide) (Or.inl (by omega))).trans (m4 i hi).2⟩, fun i hi => (keep _ _ _ _ t500 (by decide) (Or.inl (by omega))).trans (m5 i hi), fun i hi => ⟨(keep _ _ _ _ t496 (by decide) (Or.inl (by omega))).trans (m6 i hi).1, (keep _ _ _ _ t497 (by decide) (Or.inl (by omega))).trans (m6 i hi).2⟩⟩
    have fS : ∀ j, wv_u I1 C 7 1 1099511627776 j = I 1099511627776 j := fun j => keep _ _ _ _ hT (by decide) (Or.inr (by omega))
    have hT1 := g1 _ _ hT
    have e1b : wv_u I1 C 7 1 1099511627776 (Int32.ofNat i + Int32.ofInt 1).toNatClampNeg = xs (i + 1) := (fS _).trans e1
    refine ⟨_, hT1, b1, ?_⟩
    rw [e1b]
    refine s490 _ _ _ _ _ _ _ ⟨_, a, b, g, nx, fi, sg, on, tw, rfl, fun a x e => g1 _ _ (hwT a x e), hV, hM1, fun hneg => (nu_neg hneg hk ek).elim, fun k2 hk2 ek2 I2 f2 => ?_⟩
    have ep := nu_k2 hk hk2 ek ek2
    subst ep
    have e0 : I2 460 0 = 0 := (f2 _ _ (by omega)).trans (wv_u_at _ _ _ _)
    refine s343 _ _ _ _ _ _ _ ⟨rfl, ?_⟩
    rw [e0]
    refine ⟨fun _ => ?_, fun h => (h rfl).elim⟩
    refine ⟨fun h => (h rfl).elim, fun _ => ?_⟩
    refine ⟨_, (g1 _ _ h537), ⟨by decide, by decide⟩, ?_⟩
    have fin := wL_fin (c1 := nc + n1) (s1 := ns + s1) (Rel := Rel) (I1 := I2) (L1 := wv_u L1 536 0 (tw_c (tw_T a b g nx fi sg on tw) k2).toInt64) (y5 := some (.int 0)) (y6 := some (.int (tw_c (tw_T a b g nx fi sg on tw) k2))) hLg hi hm hx hT1 (fun j => (f2 _ _ (by omega)).trans ((wv_u_no _ _ (by omega)).trans (fS j))) (r3 y V1 cap1 T1 N1 I1 L1 R1 n1 s1 D1 G1 _ I2 f2)
    exact ⟨fun _ => fin, fun h => (h (lg_cmp_0.mpr (wv_u_at _ _ _ _))).elim⟩
