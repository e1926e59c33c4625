/-! ===== the law: flop of the class ===== -/
theorem kc_same {E B E2 B2 g K1 K2 : Nat} {A : nt_A} {I I2 : Nat → Nat → Int32} {mv1 mv2 : Nat → Nat → Nat} {kd1 kd2 : Nat → Nat} (h1 : kc_r E B g A I K1 mv1 kd1) (h2 : kc_r E2 B2 g A I2 K2 mv2 kd2) : K1 = K2 ∧ ∀ c, c < K1 → kd1 c = kd2 c ∧ ∀ v, v < 64 → mv1 c v = mv2 c v := by
  obtain ⟨_, _, _, _, _, _, o1, b1, m1, z1⟩ := h1
  obtain ⟨_, _, _, _, _, _, o2, b2, m2, z2⟩ := h2
  have h0 : df_eq mv1 kd1 mv2 kd2 0 0 := fun z hz => kc_z_u (z1 z hz) (z2 z hz)
  exact df_same o1 o2 b1 b2 m1 m2 h0
theorem cf_k_s {P : pd_P} {A : Nat → nt_A} {g : Nat → Nat} {ka kb : Nat → Nat × (Nat → Nat)} {m1 m2 : Nat} (h1 : cf_k P A g ka m1) (h2 : cf_k P A g kb m2) : ∀ i, i < m1 → i < m2 → ff_1 P ka i = ff_1 P kb i := by
  intro i i1 i2
  by_cases hb : fs_b (pd_k P i)
  · obtain ⟨E, B, I2, mv, r1⟩ := h1 i i1 hb
    obtain ⟨E2, B2, I3, mv2, r2⟩ := h2 i i2 hb
    obtain ⟨e1, e2⟩ := kc_same r1 r2
    rw [cf_ff1 hb, cf_ff1 hb]
    unfold cf_1
    rw [← e1]
    split
    · exact kk_n_c _ (fun c hc => (e2 c hc).1)
    · exact kk_n_c _ (fun c hc => (e2 c hc).1)
  · rw [cf_ff0 hb, cf_ff0 hb]
theorem cf_fn_lt {P : pd_P} {A : Nat → nt_A} {g : Nat → Nat} {ka : Nat → Nat × (Nat → Nat)} {m : Nat} (h : cf_k P A g ka m) (h7 : ∀ i, i < m → pd_k P i = 7 → pd_t P i < 10000) : ∀ k, k ≤ m → ff_n P ka k ≤ 10000 * k
  | 0, _ => Nat.le_refl _
  | k + 1, hk => by
    have h1 := cf_fn_lt h h7 k (by omega)
    have e : ff_n P ka (k + 1) = ff_n P ka k + ff_1 P ka k := rfl
    have h2 : ff_1 P ka k ≤ 10000 := by
      by_cases hb : fs_b (pd_k P k)
      · obtain ⟨E, B, I2, mv, r1⟩ := h k (by omega) hb
        have h65 := r1.1
        rw [cf_ff1 hb]
        unfold cf_1
        split
        · have := kk_n_le (kd := (ka k).2) (a := 2) (b := 2) (ka k).1
          first | omega | exact Nat.le_trans (kk_n_le _) (by omega)
        · exact Nat.le_trans (kk_n_le _) (by omega)
      · have h3 := h7 k (by omega)
        rw [cf_ff0 hb]
        unfold cf_0
        split
        · omega
        · split
          · have := h3 (by assumption)
            omega
          · omega
    omega
/-- flip-flop x of part i is b, as the class tells it -/
def cr_P (i x n Bk : Nat) (A : Nat → nt_A) (g : Nat → Nat) (PP : pd_P) (v : Nat → Nat) (L0 : Nat → Nat → Int64) (b : Bool) : Prop :=
  (fs_b (pd_k PP i) ∧ ∃ E B K mv kd I2 c, kc_r E B (g (pd_l PP i)) (A (pd_l PP i)) I2 K mv kd ∧ c < K ∧ kk_x kd 2 (cr_b (pd_k PP i)) x c ∧ (b = true ↔ cr_s (pd_k PP i) n (fun t => nb (L0 Bk i) t) v mv kd c)) ∨
  (pd_k PP i = 5 ∧ (b = true ↔ ∃ t, t < n ∧ nb (L0 Bk i) t = true)) ∨
  (pd_k PP i = 7 ∧ (b = true ↔ x < n ∧ nb (L0 Bk i) (n - 1 - x) = true)) ∨
  ((pd_k PP i = 8 ∨ pd_k PP i = 9) ∧ (b = true ↔ ¬ L0 Bk (pd_m PP + i) = 0))
/-- flip-flop ki is b -/
def cr_B (ki : Int32) (p lk : Nat) (A : Nat → nt_A) (g : Nat → Nat) (P : pd_P) (v : Nat → Nat) (ka : Nat → Nat × (Nat → Nat)) (I : Nat → Nat → Int32) (L : Nat → Nat → Int64) (b : Bool) : Prop :=
  (ki = 0 ∧ (b = true ↔ lk = 0)) ∨
  (¬ fb_ko ki (2 + ff_n P ka (pd_m P)) ∧ ¬ ki = 0 ∧ lk = 0 ∧ b = false) ∨
  (0 < lk ∧ ki = Int32.ofNat (1 + ff_n P ka (pd_m P)) ∧ (b = true ↔ ¬ I 345 p = 0)) ∨
  (∃ i x, 0 < lk ∧ i < pd_m P ∧ x < ff_1 P ka i ∧ ki = Int32.ofNat (1 + (x + ff_n P ka i)) ∧ cr_P i x lk (343 + p) A g P v L b)
def cr_V (ki : Int32) (p C nk lk : Nat) (A : Nat → nt_A) (w g : Nat → Nat) (P : pd_P) (v : Nat → Nat) (T : wv_T) (N : Nat) (I : Nat → Nat → Int32) (L : Nat → Nat → Int64) (R : Nat → Nat → Option Nat) (b : Bool) (T1 : wv_T) (N1 : Nat) (I1 : Nat → Nat → Int32) (L1 : Nat → Nat → Int64) (R1 : Nat → Nat → Option Nat) (n1 s1 : Nat) : Prop := ∃ d ka, kf_R C nk A g T N I L R d T1 N1 I1 L1 R1 n1 s1 ∧ kf_I C nk 9 A w g T1 N1 I1 L1 R1 ∧ cf_k P A g ka (pd_m P) ∧ cr_B ki p lk A g P v ka I L b
theorem kf_I_m {C nk b b2 : Nat} {A : Nat → nt_A} {w g : Nat → Nat} {T : wv_T} {N : Nat} {I : Nat → Nat → Int32} {L : Nat → Nat → Int64} {R : Nat → Nat → Option Nat} (h : kf_I C nk b A w g T N I L R) (hb : b2 ≤ b) : kf_I C nk b2 A w g T N I L R := ⟨h.1, h.2.1, h.2.2.1, h.2.2.2.1, by have := h.2.2.2.2.1; omega, h.2.2.2.2.2⟩
theorem cr_32_of {X : Nat} {ki : Int32} {p C nk lk : Nat} {A : Nat → nt_A} {w g : Nat → Nat} {P : pd_P} {v : Nat → Nat} {ka : Nat → Nat × (Nat → Nat)} {T0 : wv_T} {N0 : Nat} {I0 : Nat → Nat → Int32} {L0 : Nat → Nat → Int64} {R0 : Nat → Nat → Option Nat} {T : wv_T} {N : Nat} {I : Nat → Nat → Int32} {L : Nat → Nat → Int64} {R : Nat → Nat → Option Nat} {e nc ns : Nat} {q : wv_Q} (h0 : kf_I C nk 400 A w g T0 N0 I0 L0 R0) (hC : cr_C C) (hp : p < 2) (h7 : ∀ i, i < pd_m P → pd_k P i = 7 → pd_t P i < 10000) (hl : ∀ i, i < pd_m P → fs_b (pd_k P i) → pd_l P i < nk) (y1 : kf_R C nk A g T0 N0 I0 L0 R0 e T N I L R nc ns) (y2 : kf_I C nk 210 A w g T N I L R) (y3 : cf_m P C I) (y4 : cf_k P A g ka (pd_m P)) (q1 : fb_ko ki (2 + ff_n P ka (pd_m P)) → q (.inr X) T N I L R (nc + 1) (ns + 6)) (q2 : ∀ b T1 N1 I1 L1 R1 n1 s1, cr_V ki p C nk lk A w g P v T0 N0 I0 L0 R0 b T1 N1 I1 L1 R1 n1 s1 → q (.inl (some (.int (wb_i b)))) T1 N1 I1 L1 R1 n1 s1) : cr_32 X ki p C nk lk A w g P v L0 ka T N I L R nc ns q := by
  have hlt := cf_fn_lt y4 h7 _ (Nat.le_refl _)
  have hm := y3.2.1
  have hb2 : ∀ z : Prop, ∀ [Decidable z], decide z = true ↔ z := fun z _ => decide_eq_true_iff
  unfold cr_C at hC
  have e345 : I 345 p = I0 345 p := ((kf_R_g h0.2.2.2.1 h0.2.2.1 e T N I L R nc ns y1).2 345 p (by omega) (by omega)).1
  refine ⟨by omega, q1, fun z => q2 _ _ _ _ _ _ _ _ ⟨e, ka, y1, kf_I_m y2 (by omega), y4, Or.inl ⟨z, hb2 _⟩⟩, fun z1 z2 z3 => q2 _ _ _ _ _ _ _ _ ⟨e, ka, y1, kf_I_m y2 (by omega), y4, Or.inr (Or.inl ⟨z1, z2, z3, rfl⟩)⟩, fun z1 z2 => q2 _ _ _ _ _ _ _ _ ⟨e, ka, y1, kf_I_m y2 (by omega), y4, Or.inr (Or.inr (Or.inl ⟨z1, z2, by rw [← e345]; exact hb2 _⟩))⟩, fun y z1 z2 z3 => ⟨fun d kb T1 N1 I1 L1 R1 n1 s1 a1 a2 a3 a4 a5 => ?_, fun d kb i T1 N1 I1 L1 R1 n1 s1 a1 a2 a3 a4 a5 a6 a7 => ?_⟩⟩
  · have := ff_n_c (P := P) (ka := ka) (kb := kb) (pd_m P) (fun i hi => cf_k_s y4 a4 i hi hi)
    omega
  have ei : ff_1 P ka i = ff_1 P kb i := cf_k_s y4 a5 i a4 (by omega)
  have en : ff_n P ka i = ff_n P kb i := ff_n_c (P := P) (ka := ka) (kb := kb) i (fun j hj => cf_k_s y4 a5 j (by omega) (by omega))
  have ek : ki = Int32.ofNat (1 + (y - ff_n P kb i + ff_n P ka i)) := by
    rw [z2]
    congr 1
    omega
  have ex : y - ff_n P kb i < ff_1 P ka i := by omega
  have r1 := kf_R_a y1 d T1 N1 I1 L1 R1 n1 s1 a1
  have fin : ∀ b T2 N2 I2 L2 R2 n2 s2 dd, kf_R C nk A g T0 N0 I0 L0 R0 dd T2 N2 I2 L2 R2 n2 s2 → kf_I C nk 9 A w g T2 N2 I2 L2 R2 → cr_P i (y - ff_n P kb i) lk (343 + p) A g P v L0 b → q (.inl (some (.int (wb_i b)))) T2 N2 I2 L2 R2 n2 s2 := fun b T2 N2 I2 L2 R2 n2 s2 dd c1 c2 c3 => q2 _ _ _ _ _ _ _ _ ⟨dd, ka, c1, c2, y4, Or.inr (Or.inr (Or.inr ⟨i, y - ff_n P kb i, z1, a4, ex, ek, c3⟩))⟩
  refine ⟨fun hb T2 N2 I2 L2 R2 n2 s2 hA E B K mv kd hr => ⟨?_, fun c b hc hx hcb => ?_⟩, fun hk b hb => ?_, fun hk b hb => ?_, fun hk b hb => ?_⟩
  · obtain ⟨E2, B2, I3, mv2, hr2⟩ := a5 i (by omega) hb
    obtain ⟨k1, k2⟩ := kc_same hr hr2
    have e1 : ff_1 P kb i = kk_n kd 2 (cr_b (pd_k P i)) K := by
      rw [cf_ff1 hb]
      unfold cf_1 cr_b
      rw [← k1]
      split
      · exact (kk_n_c _ (fun c hc => (k2 c hc).1)).symm
      · exact (kk_n_c _ (fun c hc => (k2 c hc).1)).symm
    omega
  · exact fin b T2 N2 I2 L2 R2 _ _ (e + d + 1) ⟨T1, N1, I1, L1, R1, _, _, _, n2, s2, r1, hl i a4 hb, hA, rfl, rfl⟩ (kf_step a2 (hl i a4 hb) hA) (Or.inl ⟨hb, E, B, K, mv, kd, I2, c, hr, hc, hx, hcb⟩)
  · exact fin b T1 N1 I1 L1 R1 _ _ (e + d) r1 (kf_I_m a2 (by omega)) (Or.inr (Or.inl ⟨hk, hb⟩))
  · exact fin b T1 N1 I1 L1 R1 _ _ (e + d) r1 (kf_I_m a2 (by omega)) (Or.inr (Or.inr (Or.inl ⟨hk, hb⟩)))
  · exact fin b T1 N1 I1 L1 R1 _ _ (e + d) r1 (kf_I_m a2 (by omega)) (Or.inr (Or.inr (Or.inr ⟨hk, hb⟩)))
def cr_bl (b : Bool) : Int64 := if b = true then 1 else 0
def wl_c231 : wv_c1 := fun as T N I L R q => ∃ (pi ki : Int32) (lk len lenB : Nat) (v : Nat → Nat) (C n : Nat → Nat) (W : Nat → Nat → Nat) (nk : Nat → Nat) (A : Nat → Nat → nt_A) (w g : Nat → Nat → Nat) (P : Nat → pd_P), as = [.ref 0, .int pi, .int ki, .ref 536] ∧ T 536 = some (.inr (1, 1)) ∧ wm_T T ∧ (∃ k1, T 27 = some (.inr (k1 + 4, 2))) ∧ (∀ p, p < 2 → R 27 p = some (C p) ∧ pp_D T R (C p) ∧ I (C p) 9 = Int32.ofNat (n p) ∧ n p ≤ 67 ∧ ∀ k, k < n p → I (C p + 9 + k) 2 = Int32.ofNat (W p k) ∧ W p k < 2147483648) ∧ (∃ k2, T 342 = some (.inr (k2 + 4, 2))) ∧ (∀ p, p < 2 → R 342 p = some (343 + p)) ∧ I 0 16 = Int32.ofNat lk ∧ lk ≤ 24 ∧ (∀ k, k < lk → v k < 64) ∧ lk ≤ len ∧ len < 1000000 ∧ lenB < 1000000 ∧ (rw_bp pi → q (.inl (some (.int 1))) T N I L R 1 6) ∧ ∀ p, p < 2 → pi = Int32.ofNat p → (¬ cf_s (n p) (W p) (n p) → q (.inl (some (.int 2))) T N I L R 1 6) ∧ (cf_s (n p) (W p) (n p) → kf_I (C p) (nk p) 400 (A p) (w p) (g p) T N I L R ∧ cf_m (P p) (C p) I ∧ (∀ i, i < pd_m (P p) → fs_b (pd_k (P p) i) → pd_l (P p) i < nk p) ∧ (∀ i, i < pd_m (P p) → pd_k (P p) i = 7 → pd_t (P p) i < 10000) ∧ cr_C (C p) ∧ 2 * pd_m (P p) ≤ lenB ∧ cr_m lk len (343 + p) lenB v L T I L ∧ (∀ d ka T1 N1 I1 L1 R1 n1 s1, kf_R (C p) (nk p) (A p) (g p) T N I L R d T1 N1 I1 L1 R1 n1 s1 → kf_I (C p) (nk p) 210 (A p) (w p) (g p) T1 N1 I1 L1 R1 → cf_k (P p) (A p) (g p) ka (pd_m (P p)) → fb_ko ki (2 + ff_n (P p) ka (pd_m (P p))) → q (.inl (some (.int 3))) T1 N1 I1 L1 R1 (n1 + 1) (s1 + 6)) ∧ ∀ b T1 N1 I1 L1 R1 n1 s1, cr_V ki p (C p) (nk p) lk (A p) (w p) (g p) (P p) v T N I L R b T1 N1 I1 L1 R1 n1 s1 → q (.inl (some (.int 0))) T1 N1 I1 (wv_u L1 536 0 (cr_bl b)) R1 n1 s1)
set_option maxRecDepth 100000 in
theorem wM_231 : ∃ cb ci np, pt_mt 231 = some (0, cb, 5, false, some .int, ci, np) := ⟨_, _, _, rfl⟩
set_option maxRecDepth 100000 in
theorem wl_231 : wl_ok 231 5 [(2, 1), (1, 2), (4, 3)] = true := by decide +kernel
set_option maxRecDepth 100000 in
set_option maxHeartbeats 4000000 in
theorem wl_flop {sc : pt_Sc} {d : Nat} : wv_C wm_fx sc (d + 1 + 1 + 1 + 1 + 1 + 1 + 1 + 1 + 1) 231 wl_c231 := by
  rintro as T N I L R q ⟨pi, ki, lk, len, lenB, v, C, n, W, nk, A, w, g, P, rfl, h537, hwT, t27, hR, t342, h342, h16, hlk, hv64, hll, hlen, hlenB, hb, h⟩ w0 HR
  obtain ⟨cb, ci, np, hm⟩ := wM_231
  have hc232 : wv_C wm_fx sc (d + 1 + 1 + 1 + 1 + 1 + 1 + 1 + 1) 232 cr_c232 := wv_C_deep (by omega) (cr_flop (d := d))
  refine wv_meth (hh := some (wl_f 5 [(2, 1), (1, 2), (4, 3)])) rfl (sp := wv_sp [(232, cr_c232)]) (hd := fun _ => none) (n := 0) (n1 := 300) hm zc_231 (wl_HH hm wl_231) (wv_sp_ok (fun q hq => by rw [List.mem_singleton.mp hq]; exact hc232)) ?_ (fun pc P h => by cases h) HR
  refine ⟨pi, ki, lk, len, lenB, v, C, n, W, nk, A, w, g, P, rfl, hwT, t27, hR, t342, h342, h16, hlk, hv64, hll, hlen, hlenB, fun z => ⟨Or.inl rfl, hb z⟩, fun p hp e => ?_⟩
  obtain ⟨h1, h2⟩ := h p hp e
  refine ⟨fun z => ⟨Or.inl rfl, h1 z⟩, fun z => ?_⟩
  obtain ⟨d1, d2, d3, d7, d8, d9, d10, d4, d5⟩ := h2 z
  refine ⟨d1, d2, d3, d7, d8, d9, d10, fun dd ka T1 N1 I1 L1 R1 n1 s1 y1 y2 y3 y4 => ?_⟩
  refine cr_32_of d1 d8 hp d7 d3 y1 y2 y3 y4 (fun w1 => ⟨Or.inl rfl, ?_⟩) (fun b T2 N2 I2 L2 R2 n2 s2 hV => ?_)
  · have hq := d4 dd ka T1 N1 I1 L1 R1 n1 s1 y1 y2 y4 w1
    first
      | exact hq
      | (rw [← Nat.zero_add (n1 + 1), ← Nat.zero_add (s1 + 6)] at hq; exact hq)
      | (rw [← Nat.zero_add n1, ← Nat.zero_add s1] at hq; exact hq)
  obtain ⟨d0, kb, v1, v2, v3, v4⟩ := hV
  have h5 := (kf_R_f d1.2.1 d1.2.2.1 d0 T2 N2 I2 L2 R2 n2 s2 v1).1 _ _ h537
  have hq := d5 b T2 N2 I2 L2 R2 n2 s2 ⟨d0, kb, v1, v2, v3, v4⟩
  rw [← Nat.zero_add n2, ← Nat.zero_add s2] at hq
  cases b with
  | true => exact ⟨fun w1 => absurd w1 (wb_i_1.mpr rfl), fun _ => ⟨_, h5, ⟨by decide, by decide⟩, by decide, hq⟩⟩
  | false => exact ⟨fun _ => ⟨_, h5, ⟨by decide, by decide⟩, by decide, hq⟩, fun w1 => absurd (wb_i_0.mpr rfl) w1⟩
