/-! ===== the class: flops ===== -/
/-- states behind d calls for classes -/
def kf_R (C nk : Nat) (A : Nat → nt_A) (g : Nat → Nat) (T : wv_T) (N : Nat) (I : Nat → Nat → Int32) (L : Nat → Nat → Int64) (R : Nat → Nat → Option Nat) : Nat → wv_T → Nat → (Nat → Nat → Int32) → (Nat → Nat → Int64) → (Nat → Nat → Option Nat) → Nat → Nat → Prop
  | 0 => fun T1 N1 I1 L1 R1 n1 s1 => T1 = T ∧ N1 = N ∧ I1 = I ∧ L1 = L ∧ R1 = R ∧ n1 = 0 ∧ s1 = 0
  | d + 1 => fun T1 N1 I1 L1 R1 n1 s1 => ∃ T2 N2 I2 L2 R2 n2 s2 k n3 s3, kf_R C nk A g T N I L R d T2 N2 I2 L2 R2 n2 s2 ∧ k < nk ∧ kc_A C k (A k) (g k) T2 N2 I2 L2 R2 T1 N1 I1 L1 R1 n3 s3 ∧ n1 = n2 + n3 ∧ s1 = s2 + s3
theorem kf_R_f {C nk : Nat} {A : Nat → nt_A} {g : Nat → Nat} {T : wv_T} {N : Nat} {I : Nat → Nat → Int32} {L : Nat → Nat → Int64} {R : Nat → Nat → Option Nat} (hC : C + 100 < 460) (hn : nk ≤ 4) : ∀ d T1 N1 I1 L1 R1 n1 s1, kf_R C nk A g T N I L R d T1 N1 I1 L1 R1 n1 s1 → (∀ y v, T y = some v → T1 y = some v) ∧ (∀ c j, 460 ≤ c → (c ≤ 535 ∨ ∃ x, T c = some x ∧ ¬ x = .inr (0, 4224)) → I1 c j = I c j ∧ L1 c j = L c j) := by
  intro d
  induction d with
  | zero =>
    rintro T1 N1 I1 L1 R1 n1 s1 ⟨rfl, rfl, rfl, rfl, rfl, rfl, rfl⟩
    exact ⟨fun _ _ e => e, fun _ _ _ _ => ⟨rfl, rfl⟩⟩
  | succ d ih =>
    rintro T1 N1 I1 L1 R1 n1 s1 ⟨T2, N2, I2, L2, R2, n2, s2, k, n3, s3, h1, h2, h3, _, _⟩
    obtain ⟨a1, a2⟩ := ih T2 N2 I2 L2 R2 n2 s2 h1
    obtain ⟨b1, b2⟩ := kc_A_f (by omega) h3
    refine ⟨fun y v e => b1 y v (a1 y v e), fun c j hc hx => ?_⟩
    have hx2 : c ≤ 535 ∨ ∃ x, T2 c = some x ∧ ¬ x = .inr (0, 4224) := by
      rcases hx with hx | ⟨x, x1, x2⟩
      · exact Or.inl hx
      · exact Or.inr ⟨x, a1 _ _ x1, x2⟩
    exact ⟨(b2 c j hc hx2).1.trans (a2 c j hc hx).1, (b2 c j hc hx2).2.trans (a2 c j hc hx).2⟩
theorem cf_m_A {C nk b k : Nat} {A : Nat → nt_A} {w g : Nat → Nat} {P : pd_P} {T : wv_T} {N : Nat} {I : Nat → Nat → Int32} {L : Nat → Nat → Int64} {R : Nat → Nat → Option Nat} {T1 : wv_T} {N1 : Nat} {I1 : Nat → Nat → Int32} {L1 : Nat → Nat → Int64} {R1 : Nat → Nat → Option Nat} {n1 s1 : Nat} (h : kf_I C nk b A w g T N I L R) (hA : kc_A C k (A k) (g k) T N I L R T1 N1 I1 L1 R1 n1 s1) (hm : cf_m P C I) : cf_m P C I1 := by
  obtain ⟨hP, hC, hn4, hN, hNb, hS, hd⟩ := h
  obtain ⟨B, b1, b2, fT, fR, fI, fL, _⟩ := kc_A_g hN hA
  have b3 := b1.2.2.1
  obtain ⟨m1, m2, m3⟩ := hm
  refine ⟨(fI _ _ (by omega) (by omega) (by omega) (Or.inl (by omega))).trans m1, m2, fun i hi => ?_⟩
  obtain ⟨a1, a2, a3, a4⟩ := m3 i hi
  exact ⟨(fI _ _ (by omega) (by omega) (by omega) (Or.inl (by omega))).trans a1, a2, (fI _ _ (by omega) (by omega) (by omega) (Or.inl (by omega))).trans a3, (fI _ _ (by omega) (by omega) (by omega) (Or.inl (by omega))).trans a4⟩
/-- what the class's classes told of the parts below m -/
def cf_k (P : pd_P) (A : Nat → nt_A) (g : Nat → Nat) (ka : Nat → Nat × (Nat → Nat)) (m : Nat) : Prop := ∀ i, i < m → fs_b (pd_k P i) → ∃ E B I mv, kc_r E B (g (pd_l P i)) (A (pd_l P i)) I (ka i).1 mv (ka i).2
def cf_u (ka : Nat → Nat × (Nat → Nat)) (k : Nat) (z : Nat × (Nat → Nat)) : Nat → Nat × (Nat → Nat) := fun j => if j = k then z else ka j
theorem ff_n_c {P : pd_P} {ka kb : Nat → Nat × (Nat → Nat)} : ∀ m, (∀ i, i < m → ff_1 P ka i = ff_1 P kb i) → ff_n P ka m = ff_n P kb m
  | 0, _ => rfl
  | m + 1, h => by
    show ff_n P ka m + ff_1 P ka m = ff_n P kb m + ff_1 P kb m
    rw [ff_n_c m (fun i hi => h i (by omega)), h m (by omega)]
theorem cf_u_n {P : pd_P} {ka : Nat → Nat × (Nat → Nat)} {k : Nat} {z : Nat × (Nat → Nat)} : ff_n P (cf_u ka k z) k = ff_n P ka k := ff_n_c k (fun i hi => by
  have e : cf_u ka k z i = ka i := if_neg (by omega)
  unfold ff_1
  rw [e])
def cf_l28 (C m k : Nat) : List (Option Value) := [some (.ref C), some (.int (Int32.ofNat m)), some (.int (Int32.ofNat k)), none]
def cf_h228 (C nk : Nat) (A : Nat → nt_A) (w g : Nat → Nat) (P : pd_P) (T : wv_T) (N : Nat) (I : Nat → Nat → Int32) (L : Nat → Nat → Int64) (R : Nat → Nat → Option Nat) : Nat → Option (Nat → wv_P) := fun pc =>
  if pc = 4 then some (fun mm lv st T1 N1 I1 L1 R1 nc ns => ∃ (k d : Nat) (ka : Nat → Nat × (Nat → Nat)), lv = cf_l28 C (2 + ff_n P ka k) k ∧ st = [] ∧ kf_R C nk A g T N I L R d T1 N1 I1 L1 R1 nc ns ∧ kf_I C nk (400 - k) A w g T1 N1 I1 L1 R1 ∧ cf_m P C I1 ∧ cf_k P A g ka k ∧ k ≤ pd_m P ∧ mm = 400 - k)
  else none
def cf_c228 : wv_c1 := fun as T N I L R q => ∃ (C nk : Nat) (A : Nat → nt_A) (w g : Nat → Nat) (P : pd_P), as = [.ref C] ∧ kf_I C nk 400 A w g T N I L R ∧ cf_m P C I ∧ (∀ i, i < pd_m P → fs_b (pd_k P i) → pd_l P i < nk) ∧ ∀ d ka T1 N1 I1 L1 R1 n1 s1, kf_R C nk A g T N I L R d T1 N1 I1 L1 R1 n1 s1 → kf_I C nk 210 A w g T1 N1 I1 L1 R1 → cf_m P C I1 → cf_k P A g ka (pd_m P) → q (.inl (some (.int (Int32.ofNat (2 + ff_n P ka (pd_m P)))))) T1 N1 I1 L1 R1 n1 s1
set_option maxRecDepth 100000 in
theorem wM_228 : ∃ cb ci np, pt_mt 228 = some (8, cb, 3, false, some .int, ci, np) := ⟨_, _, _, rfl⟩
set_option maxRecDepth 100000 in
set_option maxHeartbeats 4000000 in
theorem cf_flopCount {sc : pt_Sc} {d : Nat} : wv_C wm_fx sc (d + 1 + 1 + 1 + 1 + 1 + 1) 228 cf_c228 := by
  rintro as T N I L R q ⟨C, nk, A, w, g, P, rfl, hK, hm2, hl, h⟩ w0 HR
  obtain ⟨cb, ci, np, hm⟩ := wM_228
  have hc229 : wv_C wm_fx sc (d + 1 + 1 + 1 + 1 + 1) 229 cf_c229 := wv_C_deep (by omega) (cf_flopsOf (d := d))
  refine wv_meth (hh := none) rfl (sp := wv_sp [(229, cf_c229)]) (hd := cf_h228 C nk A w g P T N I L R) (n := 300) (n1 := 300) hm zc_228 rfl (wv_sp_ok (fun q hq => by rw [List.mem_singleton.mp hq]; exact hc229)) ?_ ?_ HR
  · exact ⟨_, 0, 0, fun _ => (0, fun _ => 0), rfl, rfl, ⟨rfl, rfl, rfl, rfl, rfl, rfl, rfl⟩, hK, hm2, fun i hi => by omega, Nat.zero_le _, rfl⟩
  · intro pc P hP m lv st T1 N1 I1 L1 R1 nc ns hh
    unfold cf_h228 at hP
    by_cases p4 : pc = 4
    · rw [if_pos p4] at hP
      cases hP
      subst p4
      obtain ⟨k, d1, ka, rfl, rfl, hR, hK1, hm1, hk1, hk, rfl⟩ := hh
      have h155 := hm1.2.1
      have ek := wi_on (n := k) (by omega)
      have em := wi_on (n := pd_m P) (by omega)
      refine ⟨hK1.1.1, fun w1 => ?_, fun w1 => ?_⟩
      · rw [hm1.1, wi_le, em, ek] at w1
        have e : k = pd_m P := by omega
        subst e
        refine h d1 ka _ _ _ _ _ _ _ hR ?_ hm1 hk1
        obtain ⟨q1, q2, q3, q4, q5, q6⟩ := hK1
        exact ⟨q1, q2, q3, q4, by omega, q6⟩
      · rw [hm1.1, wi_le, em, ek] at w1
        obtain ⟨b, hb400⟩ : ∃ b, 400 - k = b + 1 := ⟨399 - k, by omega⟩
        rw [hb400] at hK1
        refine ⟨hK1.1.1, C, nk, b, k, A, w, g, P, rfl, hK1, hm1, by omega, hl k (by omega), fun hb T3 N3 I3 L3 R3 n3 s3 hA E B K mv kd hr => ?_, fun hb => ?_⟩
        · have hlk := hl k (by omega) hb
          have e1 : ff_n P (cf_u ka k (K, kd)) (k + 1) = ff_n P ka k + cf_1 P k K kd := by
            show ff_n P (cf_u ka k (K, kd)) k + ff_1 P (cf_u ka k (K, kd)) k = _
            rw [cf_u_n, cf_ff1 hb, show cf_u ka k (K, kd) k = (K, kd) from if_pos rfl]
          refine ⟨400 - (k + 1), by omega, k + 1, d1 + 1, cf_u ka k (K, kd), ?_, rfl, ⟨_, _, _, _, _, _, _, pd_l P k, n3, s3, hR, hlk, hA, rfl, rfl⟩, ?_, cf_m_A hK1 hA hm1, fun i hi hbi => ?_, by omega, rfl⟩
          · unfold cf_l28
            rw [e1, show 2 + (ff_n P ka k + cf_1 P k K kd) = 2 + ff_n P ka k + cf_1 P k K kd from (Nat.add_assoc _ _ _).symm, ← wi_ona (2 + ff_n P ka k), ← wq_4s k]
            rfl
          · rw [show 400 - (k + 1) = b by omega]
            exact kf_step hK1 hlk hA
          · by_cases e : i = k
            · subst e
              rw [show cf_u ka i (K, kd) i = (K, kd) from if_pos rfl]
              exact ⟨E, B, I3, mv, hr⟩
            · rw [show cf_u ka k (K, kd) i = ka i from if_neg e]
              exact hk1 i (by omega) hbi
        · have e1 : ff_n P ka (k + 1) = ff_n P ka k + cf_0 P k := by
            show ff_n P ka k + ff_1 P ka k = _
            rw [cf_ff0 hb]
          refine ⟨400 - (k + 1), by omega, k + 1, d1, ka, ?_, rfl, hR, ?_, hm1, fun i hi hbi => ?_, by omega, rfl⟩
          · unfold cf_l28
            rw [e1, show 2 + (ff_n P ka k + cf_0 P k) = 2 + ff_n P ka k + cf_0 P k from (Nat.add_assoc _ _ _).symm, ← wi_ona (2 + ff_n P ka k), ← wq_4s k]
            rfl
          · obtain ⟨q1, q2, q3, q4, q5, q6⟩ := hK1
            exact ⟨q1, q2, q3, q4, by omega, q6⟩
          · have : ¬ i = k := fun z => by
              subst z
              exact hb hbi
            exact hk1 i (by omega) hbi
    rw [if_neg p4] at hP
    cases hP
def cf_c225 : wv_c1 := fun as T N I L R q => ∃ (pi : Int32) (C n : Nat → Nat) (W : Nat → Nat → Nat) (nk : Nat → Nat) (A : Nat → Nat → nt_A) (w g : Nat → Nat → Nat) (P : Nat → pd_P), as = [.ref 0, .int pi] ∧ (∃ k1, T 27 = some (.inr (k1 + 4, 2))) ∧ (∀ p, p < 2 → R 27 p = some (C p) ∧ pp_D T R (C p) ∧ I (C p) 9 = Int32.ofNat (n p) ∧ n p ≤ 67 ∧ ∀ k, k < n p → I (C p + 9 + k) 2 = Int32.ofNat (W p k) ∧ W p k < 2147483648) ∧ (rw_bp pi → q (.inr 2) T N I L R 1 6) ∧ ∀ p, p < 2 → pi = Int32.ofNat p → (¬ cf_s (n p) (W p) (n p) → q (.inr 1) T N I L R 1 6) ∧ (cf_s (n p) (W p) (n p) → kf_I (C p) (nk p) 400 (A p) (w p) (g p) T N I L R ∧ cf_m (P p) (C p) I ∧ (∀ i, i < pd_m (P p) → fs_b (pd_k (P p) i) → pd_l (P p) i < nk p) ∧ ∀ d ka T1 N1 I1 L1 R1 n1 s1, kf_R (C p) (nk p) (A p) (g p) T N I L R d T1 N1 I1 L1 R1 n1 s1 → kf_I (C p) (nk p) 210 (A p) (w p) (g p) T1 N1 I1 L1 R1 → cf_m (P p) (C p) I1 → cf_k (P p) (A p) (g p) ka (pd_m (P p)) → q (.inl (some (.int (Int32.ofNat (2 + ff_n (P p) ka (pd_m (P p))))))) T1 N1 I1 L1 R1 n1 s1)
set_option maxRecDepth 100000 in
theorem wM_225 : ∃ cb ci np, pt_mt 225 = some (1, cb, 2, false, some .int, ci, np) := ⟨_, _, _, rfl⟩
set_option maxRecDepth 100000 in
set_option maxHeartbeats 4000000 in
theorem cf_flops {sc : pt_Sc} {d : Nat} : wv_C wm_fx sc (d + 1 + 1 + 1 + 1 + 1 + 1 + 1) 225 cf_c225 := by
  rintro as T N I L R q ⟨pi, C, n, W, nk, A, w, g, P, rfl, t27, hR, hb, h⟩ w0 HR
  obtain ⟨cb, ci, np, hm⟩ := wM_225
  have hc226 : wv_C wm_fx sc (d + 1 + 1 + 1 + 1 + 1 + 1) 226 cf_c226 := wv_C_deep (by omega) (cf_checkSmall (d := d))
  have hc228 : wv_C wm_fx sc (d + 1 + 1 + 1 + 1 + 1 + 1) 228 cf_c228 := wv_C_deep (by omega) (cf_flopCount (d := d))
  refine wv_meth (hh := none) rfl (sp := wv_sp [(226, cf_c226), (228, cf_c228)]) (hd := fun _ => none) (n := 0) (n1 := 300) hm zc_225 rfl (wv_sp_ok (fun q hq => by
    rcases List.mem_cons.mp hq with h | h
    · rw [h]; exact hc226
    rw [List.mem_singleton.mp h]; exact hc228)) ?_ (fun pc P h => by cases h) HR
  refine ⟨pi, C, n, W, rfl, t27, hR, fun z => ⟨Or.inl rfl, hb z⟩, fun p hp e => ?_⟩
  obtain ⟨h1, h2⟩ := h p hp e
  refine ⟨fun z => ⟨Or.inl rfl, h1 z⟩, fun z => ?_⟩
  obtain ⟨d1, d2, d3, d4⟩ := h2 z
  obtain ⟨q1, q2, _⟩ := hR p hp
  obtain ⟨k1, t27⟩ := t27
  refine ⟨_, _, _, t27, by rw [e]; exact pp_b (c := 2) hp (by omega), by rw [e, wi_onn (by omega)]; exact q1, ?_⟩
  refine ⟨q2.1, C p, nk p, A p, w p, g p, P p, rfl, d1, d2, d3, fun dd ka T1 N1 I1 L1 R1 n1 s1 y1 y2 y3 y4 => ?_⟩
  have hq := d4 dd ka T1 N1 I1 L1 R1 n1 s1 y1 y2 y3 y4
  show q (.inl (some (.int (Int32.ofNat (2 + ff_n (P p) ka (pd_m (P p))))))) T1 N1 I1 L1 R1 (0 + 0 + n1) (0 + 0 + s1)
  rw [show 0 + 0 + n1 = n1 by omega, show 0 + 0 + s1 = s1 by omega]
  exact hq
def wl_c224 : wv_c1 := fun as T N I L R q => ∃ (pi : Int32) (C n : Nat → Nat) (W : Nat → Nat → Nat) (nk : Nat → Nat) (A : Nat → Nat → nt_A) (w g : Nat → Nat → Nat) (P : Nat → pd_P), as = [.ref 0, .int pi, .ref 536] ∧ T 536 = some (.inr (1, 1)) ∧ (∃ k1, T 27 = some (.inr (k1 + 4, 2))) ∧ (∀ p, p < 2 → R 27 p = some (C p) ∧ pp_D T R (C p) ∧ I (C p) 9 = Int32.ofNat (n p) ∧ n p ≤ 67 ∧ ∀ k, k < n p → I (C p + 9 + k) 2 = Int32.ofNat (W p k) ∧ W p k < 2147483648) ∧ (rw_bp pi → q (.inl (some (.int 1))) T N I L R 1 6) ∧ ∀ p, p < 2 → pi = Int32.ofNat p → (¬ cf_s (n p) (W p) (n p) → q (.inl (some (.int 2))) T N I L R 1 6) ∧ (cf_s (n p) (W p) (n p) → kf_I (C p) (nk p) 400 (A p) (w p) (g p) T N I L R ∧ cf_m (P p) (C p) I ∧ (∀ i, i < pd_m (P p) → fs_b (pd_k (P p) i) → pd_l (P p) i < nk p) ∧ ∀ d ka T1 N1 I1 L1 R1 n1 s1, kf_R (C p) (nk p) (A p) (g p) T N I L R d T1 N1 I1 L1 R1 n1 s1 → kf_I (C p) (nk p) 210 (A p) (w p) (g p) T1 N1 I1 L1 R1 → cf_m (P p) (C p) I1 → cf_k (P p) (A p) (g p) ka (pd_m (P p)) → q (.inl (some (.int 0))) T1 N1 I1 (wv_u L1 536 0 (Int32.ofNat (2 + ff_n (P p) ka (pd_m (P p)))).toInt64) R1 n1 s1)
set_option maxRecDepth 100000 in
theorem wM_224 : ∃ cb ci np, pt_mt 224 = some (0, cb, 4, false, some .int, ci, np) := ⟨_, _, _, rfl⟩
set_option maxRecDepth 100000 in
theorem wl_224 : wl_ok 224 4 [(2, 1), (1, 2)] = true := by decide +kernel
set_option maxRecDepth 100000 in
set_option maxHeartbeats 4000000 in
theorem wl_flops {sc : pt_Sc} {d : Nat} : wv_C wm_fx sc (d + 1 + 1 + 1 + 1 + 1 + 1 + 1 + 1) 224 wl_c224 := by
  rintro as T N I L R q ⟨pi, C, n, W, nk, A, w, g, P, rfl, h537, t27, hR, hb, h⟩ w0 HR
  obtain ⟨cb, ci, np, hm⟩ := wM_224
  have hc225 : wv_C wm_fx sc (d + 1 + 1 + 1 + 1 + 1 + 1 + 1) 225 cf_c225 := wv_C_deep (by omega) (cf_flops (d := d))
  refine wv_meth (hh := some (wl_f 4 [(2, 1), (1, 2)])) rfl (sp := wv_sp [(225, cf_c225)]) (hd := fun _ => none) (n := 0) (n1 := 300) hm zc_224 (wl_HH hm wl_224) (wv_sp_ok (fun q hq => by rw [List.mem_singleton.mp hq]; exact hc225)) ?_ (fun pc P h => by cases h) HR
  refine ⟨pi, C, n, W, nk, A, w, g, P, rfl, t27, hR, fun z => ⟨Or.inl rfl, hb z⟩, fun p hp e => ?_⟩
  obtain ⟨h1, h2⟩ := h p hp e
  refine ⟨fun z => ⟨Or.inl rfl, h1 z⟩, fun z => ?_⟩
  obtain ⟨d1, d2, d3, d4⟩ := h2 z
  refine ⟨d1, d2, d3, fun dd ka T1 N1 I1 L1 R1 n1 s1 y1 y2 y3 y4 => ?_⟩
  have hq := d4 dd ka T1 N1 I1 L1 R1 n1 s1 y1 y2 y3 y4
  have h5 := (kf_R_f d1.2.1 d1.2.2.1 dd T1 N1 I1 L1 R1 n1 s1 y1).1 _ _ h537
  refine ⟨_, h5, ⟨by decide, by decide⟩, by decide, ?_⟩
  show q (.inl (some (.int 0))) T1 N1 I1 (wv_u L1 536 0 (Int32.ofNat (2 + ff_n (P p) ka (pd_m (P p)))).toInt64) R1 (0 + n1) (0 + s1)
  rw [show 0 + n1 = n1 by omega, show 0 + s1 = s1 by omega]
  exact hq
