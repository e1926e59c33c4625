/-! ===== the class: a flip-flop of the parts ===== -/
/-- letters and begun places in memory -/
def cr_m (n len Bk lenB : Nat) (v : Nat → Nat) (L0 : Nat → Nat → Int64) (T : wv_T) (I : Nat → Nat → Int32) (L : Nat → Nat → Int64) : Prop := T Bk = some (.inr (1, lenB)) ∧ T 341 = some (.inr (0, len)) ∧ (∀ k, k < n → I 341 k = Int32.ofNat (v k)) ∧ ∀ j, L Bk j = L0 Bk j
theorem cr_m_A {C nk b k n len Bk lenB : Nat} {v : Nat → Nat} {L0 : Nat → Nat → Int64} {A : Nat → nt_A} {w g : Nat → Nat} {T : wv_T} {N : Nat} {I : Nat → Nat → Int32} {L : Nat → Nat → Int64} {R : Nat → Nat → Option Nat} {T1 : wv_T} {N1 : Nat} {I1 : Nat → Nat → Int32} {L1 : Nat → Nat → Int64} {R1 : Nat → Nat → Option Nat} {n1 s1 : Nat} (h : kf_I C nk b A w g T N I L R) (hC : cr_C C) (hB : Bk = 343 ∨ Bk = 344) (hk : k < nk) (hA : kc_A C k (A k) (g k) T N I L R T1 N1 I1 L1 R1 n1 s1) (hm : cr_m n len Bk lenB v L0 T I L) : cr_m n len Bk lenB v L0 T1 I1 L1 := by
  obtain ⟨hP, hC1, hn4, hN, hNb, hS, hd⟩ := h
  obtain ⟨B, b1, b2, fT, fR, fI, fL, _⟩ := kc_A_g hN hA
  have b3 := b1.2.2.1
  obtain ⟨m1, m2, m3, m4⟩ := hm
  unfold cr_C at hC
  refine ⟨?_, ?_, fun a ha => ?_, fun j => ?_⟩
  · rw [fT Bk (by rw [m1]; simp)]
    exact m1
  · rw [fT 341 (by rw [m2]; simp)]
    exact m2
  · rw [fI 341 a (by omega) (by omega) (by omega) (Or.inl (by omega))]
    exact m3 a ha
  · rw [fL Bk j (by omega) (Or.inl (by omega))]
    exact m4 j
def cr_l34 (C x0 Bk n a i : Nat) (x7 : Option Value) : List (Option Value) := [some (.ref C), some (.int (Int32.ofNat x0)), some (.ref Bk), some (.ref 341), some (.int (Int32.ofNat n)), some (.int (Int32.ofNat a)), some (.int (Int32.ofNat i)), x7, none, none, none, none, none]
def cr_h234 (C nk x0 n len Bk lenB : Nat) (A : Nat → nt_A) (w g : Nat → Nat) (PP : pd_P) (v : Nat → Nat) (T : wv_T) (N : Nat) (I : Nat → Nat → Int32) (L : Nat → Nat → Int64) (R : Nat → Nat → Option Nat) : Nat → Option (Nat → wv_P) := fun pc =>
  if pc = 6 then some (fun mm lv st T1 N1 I1 L1 R1 nc ns => ∃ (i d : Nat) (ka : Nat → Nat × (Nat → Nat)) (x7 : Option Value), lv = cr_l34 C x0 Bk n (ff_n PP ka i) i x7 ∧ st = [] ∧ kf_R C nk A g T N I L R d T1 N1 I1 L1 R1 nc ns ∧ kf_I C nk (200 - i) A w g T1 N1 I1 L1 R1 ∧ cf_m PP C I1 ∧ cr_m n len Bk lenB v L T1 I1 L1 ∧ cf_k PP A g ka i ∧ i ≤ pd_m PP ∧ ff_n PP ka i ≤ x0 ∧ mm = 200 - i)
  else none
/-- what the caller of the x-th flip-flop of part i must answer for -/
def cr_O (C i x n Bk : Nat) (A : Nat → nt_A) (g : Nat → Nat) (PP : pd_P) (v : Nat → Nat) (L0 : Nat → Nat → Int64) (T : wv_T) (N : Nat) (I : Nat → Nat → Int32) (L : Nat → Nat → Int64) (R : Nat → Nat → Option Nat) (nc ns : Nat) (q : wv_Q) : Prop :=
  (fs_b (pd_k PP i) → ∀ T1 N1 I1 L1 R1 n1 s1, kc_A C (pd_l PP i) (A (pd_l PP i)) (g (pd_l PP i)) T N I L R T1 N1 I1 L1 R1 n1 s1 → ∀ E B K mv kd, kc_r E B (g (pd_l PP i)) (A (pd_l PP i)) I1 K mv kd → x < kk_n kd 2 (cr_b (pd_k PP i)) K ∧ ∀ (c : Nat) (b : Bool), c < K → kk_x kd 2 (cr_b (pd_k PP i)) x c → (b = true ↔ cr_s (pd_k PP i) n (fun t => nb (L0 Bk i) t) v mv kd c) → q (.inl (some (.int (wb_i b)))) T1 N1 I1 L1 R1 (nc + n1) (ns + s1)) ∧
  (pd_k PP i = 5 → ∀ b : Bool, (b = true ↔ ∃ t, t < n ∧ nb (L0 Bk i) t = true) → q (.inl (some (.int (wb_i b)))) T N I L R nc ns) ∧
  (pd_k PP i = 7 → ∀ b : Bool, (b = true ↔ x < n ∧ nb (L0 Bk i) (n - 1 - x) = true) → q (.inl (some (.int (wb_i b)))) T N I L R nc ns) ∧
  (pd_k PP i = 8 ∨ pd_k PP i = 9 → ∀ b : Bool, (b = true ↔ ¬ L0 Bk (pd_m PP + i) = 0) → q (.inl (some (.int (wb_i b)))) T N I L R nc ns)
def cr_c234 : wv_c1 := fun as T N I L R q => ∃ (C nk x0 n len Bk lenB : Nat) (A : Nat → nt_A) (w g : Nat → Nat) (PP : pd_P) (v : Nat → Nat), as = [.ref C, .int (Int32.ofNat x0), .ref Bk, .ref 341, .int (Int32.ofNat n)] ∧ kf_I C nk 200 A w g T N I L R ∧ cr_C C ∧ cf_m PP C I ∧ (∀ i, i < pd_m PP → fs_b (pd_k PP i) → pd_l PP i < nk) ∧ (∀ i, i < pd_m PP → pd_k PP i = 7 → pd_t PP i < 10000) ∧ (Bk = 343 ∨ Bk = 344) ∧ cr_m n len Bk lenB v L T I L ∧ 2 * pd_m PP ≤ lenB ∧ lenB < 1000000 ∧ len < 1000000 ∧ n ≤ len ∧ n ≤ 24 ∧ (∀ k, k < n → v k < 64) ∧ x0 < 100000000 ∧ (∀ d ka T1 N1 I1 L1 R1 n1 s1, kf_R C nk A g T N I L R d T1 N1 I1 L1 R1 n1 s1 → kf_I C nk 10 A w g T1 N1 I1 L1 R1 → cf_m PP C I1 → cf_k PP A g ka (pd_m PP) → ff_n PP ka (pd_m PP) ≤ x0 → q (.inl (some (.int 0))) T1 N1 I1 L1 R1 n1 s1) ∧ ∀ d ka i T1 N1 I1 L1 R1 n1 s1, kf_R C nk A g T N I L R d T1 N1 I1 L1 R1 n1 s1 → kf_I C nk 10 A w g T1 N1 I1 L1 R1 → cf_m PP C I1 → i < pd_m PP → cf_k PP A g ka (i + 1) → ff_n PP ka i ≤ x0 → x0 - ff_n PP ka i < ff_1 PP ka i → cr_O C i (x0 - ff_n PP ka i) n Bk A g PP v L T1 N1 I1 L1 R1 n1 s1 q
set_option maxRecDepth 100000 in
theorem wM_234 : ∃ cb ci np, pt_mt 234 = some (8, cb, 8, false, some .boolean, ci, np) := ⟨_, _, _, rfl⟩
set_option maxRecDepth 100000 in
set_option maxHeartbeats 4000000 in
theorem cr_partFlop {sc : pt_Sc} {d : Nat} : wv_C wm_fx sc (d + 1 + 1 + 1 + 1 + 1 + 1 + 1) 234 cr_c234 := by
  rintro as T N I L R q ⟨C, nk, x0, n, len, Bk, lenB, A, w, g, PP, v, rfl, hK, hC4, hm2, hl, h7t, hBk, hmm, hlB, hlenB, hlen, hnl, hn24, hv64, hx0, h1, h2⟩ w0 HR
  obtain ⟨cb, ci, np, hm⟩ := wM_234
  have hc229 : wv_C wm_fx sc (d + 1 + 1 + 1 + 1 + 1 + 1) 229 cf_c229 := wv_C_deep (by omega) (cf_flopsOf (d := d))
  have hc235 : wv_C wm_fx sc (d + 1 + 1 + 1 + 1 + 1 + 1) 235 cr_c235 := wv_C_deep (by omega) (cr_flopOf (d := d))
  refine wv_meth (hh := none) rfl (sp := wv_sp [(229, cf_c229), (235, cr_c235)]) (hd := cr_h234 C nk x0 n len Bk lenB A w g PP v T N I L R) (n := 300) (n1 := 300) hm zc_234 rfl (wv_sp_ok (fun q hq => by
    rcases List.mem_cons.mp hq with h | h
    · rw [h]; exact hc229
    rw [List.mem_singleton.mp h]; exact hc235)) ?_ ?_ HR
  · exact ⟨_, 0, 0, fun _ => (0, fun _ => 0), none, rfl, rfl, ⟨rfl, rfl, rfl, rfl, rfl, rfl, rfl⟩, hK, hm2, hmm, fun i hi => by omega, Nat.zero_le _, Nat.zero_le _, rfl⟩
  · intro pc P hP m lv st T1 N1 I1 L1 R1 nc ns hh
    have ex0 := wi_on (n := x0) (by omega)
    unfold cr_h234 at hP
    by_cases p6 : pc = 6
    · rw [if_pos p6] at hP
      cases hP
      subst p6
      obtain ⟨i, d1, ka, x7, rfl, rfl, hR, hK1, hm1, hm3, hk1, hi, hsum, rfl⟩ := hh
      have h155 := hm1.2.1
      have ei := wi_on (n := i) (by omega)
      have em := wi_on (n := pd_m PP) (by omega)
      have k10 : ∀ {T2 N2 I2 L2 R2 b2}, 10 ≤ b2 → kf_I C nk b2 A w g T2 N2 I2 L2 R2 → kf_I C nk 10 A w g T2 N2 I2 L2 R2 := fun hb2 ⟨q1, q2, q3, q4, q5, q6⟩ => ⟨q1, q2, q3, q4, by omega, q6⟩
      have esub : ∀ kb : Nat → Nat × (Nat → Nat), ff_n PP kb i = ff_n PP ka i → Int32.ofNat x0 - Int32.ofNat (ff_n PP ka i) = Int32.ofNat (x0 - ff_n PP kb i) := fun kb e => by
        rw [e, mr_sub hsum (by omega)]
      have exs := wi_on (n := x0 - ff_n PP ka i) (by omega)
      refine ⟨hK1.1.1, fun w1 => ⟨⟨rfl, rfl⟩, ?_⟩, fun w1 => ?_⟩
      · rw [hm1.1, wi_le, em, ei] at w1
        have e : i = pd_m PP := by omega
        subst e
        exact h1 d1 ka _ _ _ _ _ _ _ hR (k10 (by omega) hK1) hm1 hk1 hsum
      rw [hm1.1, wi_le, em, ei] at w1
      have hil : i < pd_m PP := by omega
      obtain ⟨b, hb200⟩ : ∃ b, 200 - i = b + 1 := ⟨199 - i, by omega⟩
      rw [hb200] at hK1
      obtain ⟨b', hb199⟩ : ∃ b', b = b' + 1 := ⟨b - 1, by omega⟩
      refine ⟨hK1.1.1, C, nk, b, i, A, w, g, PP, rfl, hK1, hm1, hil, hl i hil, fun hb T3 N3 I3 L3 R3 n3 s3 hA E B K mv kd hr => ?_, fun hb => ?_⟩
      · have hlk := hl i hil hb
        have hK3 := kf_step hK1 hlk hA
        have hm4 := cf_m_A hK1 hA hm1
        have hm5 := cr_m_A hK1 hC4 hBk hlk hA hm3
        have hK65 := hr.1
        have eu : ff_n PP (cf_u ka i (K, kd)) i = ff_n PP ka i := cf_u_n
        have e0 : ff_1 PP (cf_u ka i (K, kd)) i = cf_1 PP i K kd := by
          rw [cf_ff1 hb, show cf_u ka i (K, kd) i = (K, kd) from if_pos rfl]
        have e1 : ff_n PP (cf_u ka i (K, kd)) (i + 1) = ff_n PP ka i + cf_1 PP i K kd := by
          show ff_n PP (cf_u ka i (K, kd)) i + ff_1 PP (cf_u ka i (K, kd)) i = _
          rw [eu, e0]
        have c65 : cf_1 PP i K kd ≤ 65 := by
          unfold cf_1
          split
          · exact Nat.le_trans (kk_n_le K) hK65
          · exact Nat.le_trans (kk_n_le K) hK65
        have ec := wi_on (n := cf_1 PP i K kd) (by omega)
        have hka : cf_k PP A g (cf_u ka i (K, kd)) (i + 1) := fun j hj hbj => by
          by_cases e : j = i
          · subst e
            rw [show cf_u ka j (K, kd) j = (K, kd) from if_pos rfl]
            exact ⟨E, B, I3, mv, hr⟩
          · rw [show cf_u ka i (K, kd) j = ka j from if_neg e]
            exact hk1 j (by omega) hbj
        have hR3 : kf_R C nk A g T N I L R (d1 + 1) T3 N3 I3 L3 R3 (nc + n3) (ns + s3) := ⟨_, _, _, _, _, _, _, pd_l PP i, n3, s3, hR, hlk, hA, rfl, rfl⟩
        refine ⟨fun w2 => ?_, fun w2 => ?_⟩
        · rw [mr_sub hsum (by omega), wi_le, ec, exs] at w2
          refine ⟨200 - (i + 1), by omega, i + 1, d1 + 1, cf_u ka i (K, kd), some (.int (Int32.ofNat (cf_1 PP i K kd))), ?_, rfl, hR3, ?_, hm4, hm5, hka, by omega, by omega, rfl⟩
          · unfold cr_l34
            rw [e1, ← wi_ona (ff_n PP ka i), ← wq_4s i]
            rfl
          · rw [show 200 - (i + 1) = b by omega]
            exact hK3
        · rw [mr_sub hsum (by omega), wi_le, ec, exs] at w2
          have hO := h2 (d1 + 1) (cf_u ka i (K, kd)) i T3 N3 I3 L3 R3 (nc + n3) (ns + s3) hR3 (k10 (by omega) hK3) hm4 hil hka (by omega) (by omega)
          rw [eu] at hO
          obtain ⟨o1, o5, o7, o8⟩ := hO
          rw [hb199] at hK3
          have hbb := hb
          unfold fs_b at hbb
          refine ⟨hK3.1.1, C, nk, b', i, x0 - ff_n PP ka i, n, len, Bk, lenB, A, w, g, PP, v, (by first | rfl | (rw [mr_sub hsum (by omega)]; rfl)), hK3, hC4, hm4, hil, hl i hil, by omega, hm5.1, hlB, hlenB, hm5.2.1, hlen, hnl, hn24, hm5.2.2.1, hv64, by omega, fun _ => by omega, fun hb2 T4 N4 I4 L4 R4 n4 s4 hA4 E4 B4 K4 mv4 kd4 hr4 => ⟨(o1 hb T4 N4 I4 L4 R4 n4 s4 hA4 E4 B4 K4 mv4 kd4 hr4).1, fun c bb hc hcx hcb => ?_⟩, fun z => by omega, fun z => by omega, fun z => by omega⟩
          rw [hm5.2.2.2 i] at hcb
          have hq := (o1 hb T4 N4 I4 L4 R4 n4 s4 hA4 E4 B4 K4 mv4 kd4 hr4).2 c bb hc hcx hcb
          cases bb with
          | true => exact ⟨⟨rfl, rfl⟩, hq⟩
          | false => exact ⟨⟨rfl, rfl⟩, hq⟩
      · have e0 : ff_1 PP ka i = cf_0 PP i := cf_ff0 hb
        have e1 : ff_n PP ka (i + 1) = ff_n PP ka i + cf_0 PP i := by
          show ff_n PP ka i + ff_1 PP ka i = _
          rw [e0]
        have c4 : cf_0 PP i ≤ 10000 := by
          have := h7t i hil
          unfold cf_0
          split
          · omega
          · split
            · have := this (by assumption)
              omega
            · omega
        have ec := wi_on (n := cf_0 PP i) (by omega)
        have hka : cf_k PP A g ka (i + 1) := fun j hj hbj => by
          have : ¬ j = i := fun z => by
            subst z
            exact hb hbj
          exact hk1 j (by omega) hbj
        refine ⟨fun w2 => ?_, fun w2 => ?_⟩
        · rw [mr_sub hsum (by omega), wi_le, ec, exs] at w2
          refine ⟨200 - (i + 1), by omega, i + 1, d1, ka, some (.int (Int32.ofNat (cf_0 PP i))), ?_, rfl, hR, ?_, hm1, hm3, hka, by omega, by omega, rfl⟩
          · unfold cr_l34
            rw [e1, ← wi_ona (ff_n PP ka i), ← wq_4s i]
            rfl
          · obtain ⟨q1, q2, q3, q4, q5, q6⟩ := hK1
            exact ⟨q1, q2, q3, q4, by omega, q6⟩
        · rw [mr_sub hsum (by omega), wi_le, ec, exs] at w2
          have hO := h2 d1 ka i _ _ _ _ _ _ _ hR (k10 (by omega) hK1) hm1 hil hka hsum (by omega)
          obtain ⟨o1, o5, o7, o8⟩ := hO
          have hnz : 0 < cf_0 PP i := by omega
          have hkk : pd_k PP i = 5 ∨ pd_k PP i = 7 ∨ pd_k PP i = 8 ∨ pd_k PP i = 9 := by
            unfold cf_0 at hnz
            split at hnz
            · omega
            · split at hnz
              · omega
              · omega
          have hx1 : ¬ pd_k PP i = 7 → x0 - ff_n PP ka i < 1000 := fun z => by
            have : cf_0 PP i = 1 := by
              unfold cf_0
              exact if_pos (by omega)
            omega
          refine ⟨hK1.1.1, C, nk, b, i, x0 - ff_n PP ka i, n, len, Bk, lenB, A, w, g, PP, v, (by first | rfl | (rw [mr_sub hsum (by omega)]; rfl)), hK1, hC4, hm1, hil, hl i hil, by omega, hm3.1, hlB, hlenB, hm3.2.1, hlen, hnl, hn24, hm3.2.2.1, hv64, by omega, hx1, fun z => (hb z).elim, fun z bb hbb => ?_, fun z bb hbb => ?_, fun z bb hbb => ?_⟩
          · rw [hm3.2.2.2 i] at hbb
            have hq := o5 z bb hbb
            cases bb with
            | true => exact ⟨⟨rfl, rfl⟩, hq⟩
            | false => exact ⟨⟨rfl, rfl⟩, hq⟩
          · rw [hm3.2.2.2 i] at hbb
            have hq := o7 z bb hbb
            cases bb with
            | true => exact ⟨⟨rfl, rfl⟩, hq⟩
            | false => exact ⟨⟨rfl, rfl⟩, hq⟩
          · rw [hm3.2.2.2 _] at hbb
            have hq := o8 z bb hbb
            cases bb with
            | true => exact ⟨⟨rfl, rfl⟩, hq⟩
            | false => exact ⟨⟨rfl, rfl⟩, hq⟩
    rw [if_neg p6] at hP
    cases hP
