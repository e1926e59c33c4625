/-! ===== the reference: flops ===== -/
theorem fp_r_c {p : Nat} {S : rn_N} {P : pd_P} {Q : Nat → Prop} {pa lo : Nat → Nat} {U : Nat → np_A} {cl : Nat → Nat → Nat} {Al : Nat → Nat → Prop} {I J : Nat → Nat → Int32} (h : fp_r p S P Q pa lo U cl Al I) (g : ∀ c j, 520 ≤ c → c ≤ 522 → J c j = I c j) : fp_r p S P Q pa lo U cl Al J := fun n hn ht => by
  obtain ⟨h1, h2, h3⟩ := h n hn ht
  refine ⟨h1, h2, ?_⟩
  rcases h3 with h3 | ⟨K, mv, kd, k1, k2⟩
  · exact Or.inl ((g _ _ (by omega) (by omega)).trans h3)
  · exact Or.inr ⟨K, mv, kd, k1, rk_T_c k2 g⟩
/-- only the flag of an exception was told -/
def ff_0 (I I1 : Nat → Nat → Int32) : Prop := ∀ c j, ¬ (c = 460 ∧ j = 0) → I1 c j = I c j
def ff_Y (p : Nat) (S : rn_N) (m0 x : Nat) (P : pd_P) (Q : Nat → Prop) (pa pb lo : Nat → Nat) (U : Nat → np_A) (cl : Nat → Nat → Nat) (Al : Nat → Nat → Prop) (T : wv_T) (I : Nat → Nat → Int32) (L : Nat → Nat → Int64) (b2 : (Nat → Nat → Int32) → Prop) (ok : (Nat → Nat) → (Nat → Nat × (Nat → Nat)) → (Nat → Nat → Int32) → (Nat → Nat → Int64) → Prop) : Prop := (fw S = false → ∀ I1, ff_0 I I1 → b2 I1) ∧ (fw S = true → fp_D S P Q pa pb x ∧ fp_r p S P Q pa lo U cl Al I ∧ ∀ pn ka I1 L1, ff_Z p S m0 x P Q pa U pn ka T I1 → ff_G p I I1 → rk_FL L L1 → ok pn ka I1 L1)
def ff_c438 : wv_c1 := fun as T N I L R q => ∃ (pi : Int32) (S : Nat → rn_N) (m0 x : Nat → Nat) (sq : Nat → List Nat) (P : Nat → pd_P) (Q : Nat → Nat → Prop) (pa pb lo : Nat → Nat → Nat) (U : Nat → Nat → np_A) (cl : Nat → Nat → Nat → Nat) (Al : Nat → Nat → Nat → Prop), as = [.ref 460, .int pi] ∧ (∀ p, p < 2 → rk_I T I p (S p) (m0 p) (x p) (sq p)) ∧ (rw_bp pi → q (.inl (some (.int 0))) T N (wv_u I 460 0 1) L R 0 0) ∧ ∀ p, p < 2 → pi = Int32.ofNat p → ff_Y p (S p) (m0 p) (x p) (P p) (Q p) (pa p) (pb p) (lo p) (U p) (cl p) (Al p) T I L (fun I1 => I1 460 0 = 2 → q (.inl (some (.int 0))) T N I1 L R 0 0) (fun pn ka I1 L1 => I1 460 0 = 0 → q (.inl (some (.int 1))) T N I1 L1 R 0 0)
set_option maxRecDepth 100000 in
theorem wM_438 : ∃ cb ci np, pt_mt 438 = some (32, cb, 2, false, some .boolean, ci, np) := ⟨_, _, _, rfl⟩
set_option maxRecDepth 100000 in
set_option maxHeartbeats 4000000 in
theorem ff_isSmall {sc : pt_Sc} {d : Nat} : wv_C wm_fx sc (d + 1 + 1 + 1 + 1 + 1 + 1 + 1 + 1) 438 ff_c438 := by
  rintro as T N I L R q ⟨pi, S, m0, x, sq, PP, Q, pa, pb, lo, U, cl, Al, rfl, hI, hb, h⟩ w0 HR
  obtain ⟨cb, ci, np, hm⟩ := wM_438
  have hc345 : wv_C wm_fx sc (d + 1 + 1 + 1 + 1 + 1 + 1 + 1) 345 wp_c345 := wv_C_deep (by omega) (wp_refuse (d := d))
  have hc377 : wv_C wm_fx sc (d + 1 + 1 + 1 + 1 + 1 + 1 + 1) 377 mr_c377 := wv_C_deep (by omega) (mr_choose (d := d))
  have hc439 : wv_C wm_fx sc (d + 1 + 1 + 1 + 1 + 1 + 1 + 1) 439 fp_c439 := wv_C_deep (by omega) (fp_findParts (d := d))
  refine wv_meth (hh := none) rfl (sp := wv_sp [(345, wp_c345), (377, mr_c377), (439, fp_c439)]) (hd := rk_h1 [some (.ref 460), some (.int pi), none, none] pi T N I L R) (n := 300) (n1 := 300) hm zc_438 rfl (wv_sp_ok (fun q hq => by
    rcases List.mem_cons.mp hq with h | h
    · rw [h]; exact hc345
    rcases List.mem_cons.mp h with h | h
    · rw [h]; exact hc377
    rw [List.mem_singleton.mp h]; exact hc439)) ?_ ?_ HR
  · refine ⟨fun w => ?_, fun w => ?_⟩
    · exact ⟨_, true, rfl, rfl, rfl, rfl, rfl, rfl, rfl, rfl, rfl, rfl, ⟨fun _ => rw_bp_1.mpr (Or.inl w), fun _ => rfl⟩⟩
    refine ⟨fun w2 => ?_, fun w2 => ?_⟩
    · exact ⟨_, false, rfl, rfl, rfl, rfl, rfl, rfl, rfl, rfl, rfl, rfl, ⟨fun z => (by cases z), fun z => ((rw_bp_1.mp z).elim w (fun y => y w2)).elim⟩⟩
    · exact ⟨_, true, rfl, rfl, rfl, rfl, rfl, rfl, rfl, rfl, rfl, rfl, ⟨fun _ => rw_bp_1.mpr (Or.inr w2), fun _ => rfl⟩⟩
  · intro pc P hP m lv st T1 N1 I1 L1 R1 nc ns hh
    have n10 : ¬ (1 : Int32) = 0 := by decide
    unfold rk_h1 at hP
    by_cases p15 : pc = 15
    · rw [if_pos p15] at hP
      cases hP
      subst p15
      obtain ⟨f, rfl, rfl, rfl, rfl, rfl, rfl, rfl, rfl, rfl, rfl, hf⟩ := hh
      refine ⟨_, _, rfl, ?_⟩
      cases f with
      | true =>
        rw [if_neg (by decide)]
        exact ⟨fun z => (n10 z).elim, fun _ => ⟨⟨rfl, rfl⟩, hb (hf.mp rfl)⟩⟩
      | false =>
        have nf : ¬ rw_bp pi := fun z => by
          have := hf.mpr z
          cases this
        rw [if_pos (by decide), if_pos (by decide)]
        refine ⟨fun _ => ?_, fun z => (z rfl).elim⟩
        obtain ⟨p, hp, e⟩ := rw_bp_n nf
        subst e
        obtain ⟨h1, h2⟩ := h p hp rfl
        obtain ⟨hT, hK, hn5, hm0⟩ := hI p hp
        have hK0 := kp_K_F (J := wv_u I1 460 0 0) hK (fun c j c1 c2 => wv_u_no _ _ (by omega))
        have e479 : wv_u I1 460 0 0 479 p = (if fw (S p) = true then (Int8.ofInt 12).toInt32 else (Int8.ofInt 60).toInt32) := hK0.2.2.2
        have epn := wi_onn (n := p) (by omega)
        refine ⟨_, wm_t hT rfl, pp_b (c := 2) (by omega) (by omega), ?_⟩
        rw [epn, e479]
        refine ⟨fun w => ?_, fun w => ?_⟩
        · have hfw : fw (S p) = true := by
            cases hz : fw (S p) with
            | true => rfl
            | false =>
              rw [hz] at w
              exact absurd w (by decide)
          obtain ⟨d1, d2, d3⟩ := h2 hfw
          refine ⟨S p, m0 p, p, x p, sq p, rfl, hT, hp, hK0, hn5, hm0, fun I2 f1 g1 g2 g3 g4 g5 => ?_⟩
          have h520 : ∀ c j, 520 ≤ c → c ≤ 522 → I2 c j = I1 c j := fun c j z1 z2 => (f1 c j (by omega) (by omega)).trans (wv_u_no _ _ (by omega))
          refine ⟨S p, m0 p, p, x p, PP p, Q p, pa p, pb p, lo p, U p, cl p, Al p, rfl, hp, ⟨hT, hn5, hm0, g1⟩, g2, g3, d1, fp_r_c d2 h520, fun pn I3 L3 k1 k2 k3 k4 k5 k6 => ?_⟩
          obtain ⟨ka, hka⟩ := fp_k_of k4
          refine ⟨⟨rfl, rfl⟩, d3 pn ka I3 L3 ⟨fp_X ⟨hT, hn5, hm0, g1⟩ (fun c j c1 c2 => k5 c j (by omega) (by omega) (by omega) (by omega) (by omega) (by omega) (by omega) (by omega)), ⟨?_, ?_⟩, ?_, k1, k2, k3, hka⟩ (fun c j z1 z2 z3 z4 z5 z6 z7 z8 z9 => ?_) k6 ?_⟩
          · rw [k5 _ _ (by omega) (by omega) (by omega) (by omega) (by omega) (by omega) (by omega) (by omega)]
            exact g2
          · rw [k5 _ _ (by omega) (by omega) (by omega) (by omega) (by omega) (by omega) (by omega) (by omega)]
            exact g5
          · rw [k5 _ _ (by omega) (by omega) (by omega) (by omega) (by omega) (by omega) (by omega) (by omega)]
            exact g3
          · rw [k5 c j z2 z3 z4 z5 (by omega) z7 z8 z9, f1 c j z1 (by omega), wv_u_no _ _ (by omega)]
          · rw [k5 _ _ (by omega) (by omega) (by omega) (by omega) (by omega) (by omega) (by omega) (by omega), f1 _ _ (by omega) (by omega), wv_u_at]
        · have hfw : fw (S p) = false := by
            cases hz : fw (S p) with
            | false => rfl
            | true =>
              rw [hz] at w
              exact absurd rfl w
          refine ⟨⟨rfl, rfl⟩, h1 hfw _ (fun c j z1 => ?_) (wv_u_at _ _ _ _)⟩
          rw [wv_u_no _ _ (by omega), wv_u_no _ _ (by omega)]
    rw [if_neg p15] at hP
    cases hP
def ff_l37 (pi : Int32) (m k : Nat) : List (Option Value) := [some (.ref 460), some (.int pi), some (.int (Int32.ofNat m)), some (.int (Int32.ofNat k)), none, none]
def ff_h437 (pi : Int32) (S : Nat → rn_N) (m0 x : Nat → Nat) (sq : Nat → List Nat) (PP : Nat → pd_P) (Q : Nat → Nat → Prop) (pa pb lo : Nat → Nat → Nat) (U : Nat → Nat → np_A) (cl : Nat → Nat → Nat → Nat) (Al : Nat → Nat → Nat → Prop) (T : wv_T) (N : Nat) (I : Nat → Nat → Int32) (L : Nat → Nat → Int64) (R : Nat → Nat → Option Nat) : Nat → Option (Nat → wv_P) := fun pc =>
  if pc = 14 then some (fun mm lv st T1 N1 I1 L1 R1 nc ns => ∃ (p k : Nat) (pn : Nat → Nat) (ka : Nat → Nat × (Nat → Nat)), lv = ff_l37 pi (2 + ff_n (PP p) ka k) k ∧ st = [] ∧ T1 = T ∧ N1 = N ∧ R1 = R ∧ nc = 0 ∧ ns = 0 ∧ p < 2 ∧ pi = Int32.ofNat p ∧ fw (S p) = true ∧ ff_Z p (S p) (m0 p) (x p) (PP p) (Q p) (pa p) (U p) pn ka T I1 ∧ ff_G p I I1 ∧ rk_FL L L1 ∧ I1 460 0 = 0 ∧ k ≤ pd_m (PP p) ∧ mm = 1000 - k)
  else none
def ff_c437 : wv_c1 := fun as T N I L R q => ∃ (pi : Int32) (S : Nat → rn_N) (m0 x : Nat → Nat) (sq : Nat → List Nat) (P : Nat → pd_P) (Q : Nat → Nat → Prop) (pa pb lo : Nat → Nat → Nat) (U : Nat → Nat → np_A) (cl : Nat → Nat → Nat → Nat) (Al : Nat → Nat → Nat → Prop), as = [.ref 460, .int pi] ∧ (∀ p, p < 2 → rk_I T I p (S p) (m0 p) (x p) (sq p)) ∧ (rw_bp pi → q (.inl (some (.int 0))) T N (wv_u I 460 0 1) L R 0 0) ∧ ∀ p, p < 2 → pi = Int32.ofNat p → ff_Y p (S p) (m0 p) (x p) (P p) (Q p) (pa p) (pb p) (lo p) (U p) (cl p) (Al p) T I L (fun I1 => I1 460 0 = 2 → q (.inl (some (.int 0))) T N I1 L R 0 0) (fun pn ka I1 L1 => I1 460 0 = 0 → q (.inl (some (.int (Int32.ofNat (2 + ff_n (P p) ka (pd_m (P p))))))) T N I1 L1 R 0 0)
set_option maxRecDepth 100000 in
theorem wM_437 : ∃ cb ci np, pt_mt 437 = some (32, cb, 4, false, some .int, ci, np) := ⟨_, _, _, rfl⟩
set_option maxRecDepth 100000 in
set_option maxHeartbeats 4000000 in
theorem ff_mflops {sc : pt_Sc} {d : Nat} : wv_C wm_fx sc (d + 1 + 1 + 1 + 1 + 1 + 1 + 1 + 1 + 1) 437 ff_c437 := by
  rintro as T N I L R q ⟨pi, S, m0, x, sq, PP, Q, pa, pb, lo, U, cl, Al, rfl, hI, hb, h⟩ w0 HR
  obtain ⟨cb, ci, np, hm⟩ := wM_437
  have hc438 : wv_C wm_fx sc (d + 1 + 1 + 1 + 1 + 1 + 1 + 1 + 1) 438 ff_c438 := wv_C_deep (by omega) (ff_isSmall (d := d))
  have hc440 : wv_C wm_fx sc (d + 1 + 1 + 1 + 1 + 1 + 1 + 1 + 1) 440 ff_c440 := wv_C_deep (by omega) (ff_mflopsOf (d := d))
  refine wv_meth (hh := none) rfl (sp := wv_sp [(438, ff_c438), (440, ff_c440)]) (hd := ff_h437 pi S m0 x sq PP Q pa pb lo U cl Al T N I L R) (n := 300) (n1 := 300) hm zc_437 rfl (wv_sp_ok (fun q hq => by
    rcases List.mem_cons.mp hq with h | h
    · rw [h]; exact hc438
    rw [List.mem_singleton.mp h]; exact hc440)) ?_ ?_ HR
  · refine ⟨pi, S, m0, x, sq, PP, Q, pa, pb, lo, U, cl, Al, rfl, hI, fun z => ⟨fun y => absurd rfl y, fun _ => hb z⟩, fun p hp e => ?_⟩
    obtain ⟨h1, h2⟩ := h p hp e
    refine ⟨fun z I1 f1 f2 => ⟨fun y => absurd rfl y, fun _ => h1 z I1 f1 f2⟩, fun z => ?_⟩
    obtain ⟨d1, d2, d3⟩ := h2 z
    refine ⟨d1, d2, fun pn ka I1 L1 k1 k2 k3 k4 => ⟨fun _ => ?_, fun y => absurd y (by decide)⟩⟩
    exact ⟨1000 - 0, p, 0, pn, ka, rfl, rfl, rfl, rfl, rfl, rfl, rfl, hp, e, z, k1, k2, k3, k4, Nat.zero_le _, rfl⟩
  · intro pc P hP m lv st T1 N1 I1 L1 R1 nc ns hh
    unfold ff_h437 at hP
    by_cases p14 : pc = 14
    · rw [if_pos p14] at hP
      cases hP
      subst p14
      obtain ⟨p, k, pn, ka, rfl, rfl, rfl, rfl, rfl, rfl, rfl, hp, e, hfw, hZ, hG, hL, h0, hk, rfl⟩ := hh
      obtain ⟨d1, d2, d3⟩ := (h p hp e).2 hfw
      have hm155 := d1.2.2.2.2.2.1
      have ek := wi_on (n := k) (by omega)
      have em := wi_on (n := pd_m (PP p)) (by omega)
      refine ⟨fun w => ?_, fun w => ?_⟩
      · rw [hZ.2.2.2.2.2.1, wi_le, em, ek] at w
        have e2 : k = pd_m (PP p) := by omega
        subst e2
        exact d3 pn ka _ _ hZ hG hL h0
      · rw [hZ.2.2.2.2.2.1, wi_le, em, ek] at w
        refine ⟨S p, m0 p, p, x p, k, PP p, Q p, pa p, pb p, U p, pn, ka, rfl, hp, by omega, d1, hZ, ?_⟩
        refine ⟨1000 - (k + 1), by omega, p, k + 1, pn, ka, ?_, rfl, rfl, rfl, rfl, rfl, rfl, hp, e, hfw, hZ, hG, hL, h0, by omega, rfl⟩
        unfold ff_l37
        rw [show 2 + ff_n (PP p) ka (k + 1) = 2 + ff_n (PP p) ka k + ff_1 (PP p) ka k from (Nat.add_assoc 2 (ff_n (PP p) ka k) (ff_1 (PP p) ka k)).symm, ← wi_ona (2 + ff_n (PP p) ka k), ← wq_4s k]
        rfl
    rw [if_neg p14] at hP
    cases hP
