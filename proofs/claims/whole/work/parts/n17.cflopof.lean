/-! ===== the class: a flip-flop of a part ===== -/
theorem cm_mk : ∀ (n : Fin 40) (k : Fin 64), nb ((Int64.ofNat 1 <<< ((Int32.ofNat n.1).toInt64 &&& 63)) - Int64.ofNat 1) k.1 = decide (k.1 < n.1) := by decide +kernel
def cm_M (z : Int64) (n : Nat) : Int64 := z &&& ((Int64.ofNat 1 <<< ((Int32.ofNat n).toInt64 &&& 63)) - Int64.ofNat 1)
theorem cm_M_i {z : Int64} {n : Nat} (hn : n < 40) (t : Nat) : nb (cm_M z n) t = true ↔ t < n ∧ nb z t = true := by
  unfold cm_M
  by_cases h : t < 64
  · rw [nb_and, cm_mk ⟨n, hn⟩ ⟨t, h⟩, Bool.and_eq_true, decide_eq_true_iff]
    exact And.comm
  · rw [nb_hi (by omega)]
    exact ⟨fun z => (by cases z), fun z => by omega⟩
theorem cm_or {z : Int64} {t : Nat} (ht : t < 64) : nb (z ||| -z) t = true ↔ ∃ u, u ≤ t ∧ nb z u = true := by
  have e : nb (-z) t = (nb z t ^^ decide (t < 64) && decide (∃ j, j < t ∧ nb z j = true)) := by
    unfold nb
    rw [Int64.toBitVec_neg, BitVec.getLsbD_neg]
  rw [nb_or, e, decide_eq_true ht, Bool.true_and]
  constructor
  · intro h
    by_cases c : nb z t = true
    · exact ⟨t, Nat.le_refl _, c⟩
    · rw [Bool.eq_false_iff.mpr c, Bool.false_or, Bool.false_xor, decide_eq_true_iff] at h
      obtain ⟨u, u1, u2⟩ := h
      exact ⟨u, by omega, u2⟩
  · rintro ⟨u, u1, u2⟩
    by_cases c : nb z t = true
    · rw [c, Bool.true_or]
    · rw [Bool.eq_false_iff.mpr c, Bool.false_or, Bool.false_xor, decide_eq_true_iff]
      refine ⟨u, ?_, u2⟩
      rcases Nat.lt_or_ge u t with y | y
      · exact y
      · have e2 : u = t := by omega
        rw [e2] at u2
        exact (c u2).elim
def cr_b (k : Nat) : Nat := if k = 1 then 2 else 3
/-- flip-flop of class c of a part of kind k -/
def cr_s (k n : Nat) (W : Nat → Bool) (v : Nat → Nat) (mv : Nat → Nat → Nat) (kd : Nat → Nat) (c : Nat) : Prop :=
  (k = 1 ∧ ∃ t, t < n ∧ W t = true ∧ df_run mv 0 (kz v t (n - t)) = c ∧ ¬ ∃ d, t + d ≤ n ∧ kd (df_run mv 0 (kz v t d)) = 3) ∨
  ((k = 2 ∨ k = 3) ∧ ∃ t, t < n ∧ W t = true ∧ df_run mv 0 (kz v t (n - t)) = c) ∨
  (k = 6 ∧ ∃ t, t ≤ n ∧ (∃ u, u ≤ t ∧ u < n ∧ W u = true) ∧ df_run mv 0 (kz v t (n - t)) = c)
def cr_c235 : wv_c1 := fun as T N I L R q => ∃ (C nk b0 i x n len Bk lenB : Nat) (A : Nat → nt_A) (w g : Nat → Nat) (PP : pd_P) (v : Nat → Nat), as = [.ref C, .int (Int32.ofNat i), .int (Int32.ofNat x), .ref Bk, .ref 341, .int (Int32.ofNat n)] ∧ kf_I C nk (b0 + 1) A w g T N I L R ∧ cr_C C ∧ cf_m PP C I ∧ i < pd_m PP ∧ (fs_b (pd_k PP i) → pd_l PP i < nk) ∧ (1 ≤ pd_k PP i ∧ pd_k PP i ≤ 9 ∧ ¬ pd_k PP i = 4) ∧ T Bk = some (.inr (1, lenB)) ∧ 2 * pd_m PP ≤ lenB ∧ lenB < 1000000 ∧ T 341 = some (.inr (0, len)) ∧ len < 1000000 ∧ n ≤ len ∧ n ≤ 24 ∧ (∀ k, k < n → I 341 k = Int32.ofNat (v k)) ∧ (∀ k, k < n → v k < 64) ∧ x < 10000 ∧ (¬ pd_k PP i = 7 → x < 1000) ∧ (fs_b (pd_k PP i) → ∀ T1 N1 I1 L1 R1 n1 s1, kc_A C (pd_l PP i) (A (pd_l PP i)) (g (pd_l PP i)) T N I L R T1 N1 I1 L1 R1 n1 s1 → ∀ E B K mv kd, kc_r E B (g (pd_l PP i)) (A (pd_l PP i)) I1 K mv kd → x < kk_n kd 2 (cr_b (pd_k PP i)) K ∧ ∀ (c : Nat) (b : Bool), c < K → kk_x kd 2 (cr_b (pd_k PP i)) x c → (b = true ↔ cr_s (pd_k PP i) n (fun t => nb (L Bk i) t) v mv kd c) → q (.inl (some (.int (wb_i b)))) T1 N1 I1 L1 R1 n1 s1) ∧ (pd_k PP i = 5 → ∀ b : Bool, (b = true ↔ ∃ t, t < n ∧ nb (L Bk i) t = true) → q (.inl (some (.int (wb_i b)))) T N I L R 0 0) ∧ (pd_k PP i = 7 → ∀ b : Bool, (b = true ↔ x < n ∧ nb (L Bk i) (n - 1 - x) = true) → q (.inl (some (.int (wb_i b)))) T N I L R 0 0) ∧ (pd_k PP i = 8 ∨ pd_k PP i = 9 → ∀ b : Bool, (b = true ↔ ¬ L Bk (pd_m PP + i) = 0) → q (.inl (some (.int (wb_i b)))) T N I L R 0 0)
set_option maxRecDepth 100000 in
theorem wM_235 : ∃ cb ci np, pt_mt 235 = some (8, cb, 8, false, some .boolean, ci, np) := ⟨_, _, _, rfl⟩
set_option maxRecDepth 100000 in
set_option maxHeartbeats 4000000 in
theorem cr_flopOf {sc : pt_Sc} {d : Nat} : wv_C wm_fx sc (d + 1 + 1 + 1 + 1 + 1 + 1) 235 cr_c235 := by
  rintro as T N I L R q ⟨C, nk, b0, i, x, n, len, Bk, lenB, A, w, g, PP, v, rfl, hK, hC4, ⟨m1, m2, mm⟩, hi, hl, hk, hBk, hlB, hlenB, hX, hlen, hnl, hn24, hv, hv64, hx, hx1, hA0, h5, h7, h8⟩ w0 HR
  obtain ⟨cb, ci, np, hm⟩ := wM_235
  have hc178 : wv_C wm_fx sc (d + 1 + 1 + 1 + 1 + 1) 178 sc_c178 := wv_C_deep (by omega) (sc_isIn (d := d))
  have hc236 : wv_C wm_fx sc (d + 1 + 1 + 1 + 1 + 1) 236 cr_c236 := wv_C_deep (by omega) (cr_m236 (d := d))
  have hc239 : wv_C wm_fx sc (d + 1 + 1 + 1 + 1 + 1) 239 cr_c239 := wv_C_deep (by omega) (cr_m239 (d := d))
  refine wv_meth (hh := none) rfl (sp := wv_sp [(178, sc_c178), (236, cr_c236), (239, cr_c239)]) (hd := fun _ => none) (n := 0) (n1 := 300) hm zc_235 rfl (wv_sp_ok (fun q hq => by
    rcases List.mem_cons.mp hq with h | h
    · rw [h]; exact hc178
    rcases List.mem_cons.mp h with h | h
    · rw [h]; exact hc236
    rw [List.mem_singleton.mp h]; exact hc239)) ?_ (fun pc P h => by cases h) HR
  obtain ⟨hD, hC, hn4, hN, hNb, hS, hd⟩ := id hK
  obtain ⟨m3, m4, m5, m6⟩ := mm i hi
  have ein := wi_onn (n := i) (by omega)
  have ek := wi_on (n := pd_k PP i) (by omega)
  have en := wi_on (n := n) (by omega)
  have ex := wi_on (n := x) (by omega)
  refine ⟨_, hBk, pp_b (by omega) hlenB, ?_⟩
  refine ⟨hD.1, _, hD.2.1.1, _, hD.2.2.1.1, pp_b (c := 155) (by omega) (by omega), ?_⟩
  rw [ein, m3]
  refine ⟨fun w1 => ?_, fun k1 => ⟨fun w1 => ?_, fun k2 => ⟨fun w1 => ?_, fun k3 => ⟨fun w1 => ?_, fun k4 => ⟨fun w1 => ?_, fun k5 => ⟨fun w1 => ?_, fun k6 => ⟨fun w1 => ?_, fun k7 => ⟨fun w1 => ?_, fun k8 => ⟨fun w1 => ?_, fun k9 => ?_⟩⟩⟩⟩⟩⟩⟩⟩⟩
  · rw [ek] at w1
    have hlk := hl (by unfold fs_b; omega)
    have kb : cr_b (pd_k PP i) = 2 := if_pos (by omega)
    rw [kb] at hA0
    refine ⟨hD.1, C, nk, b0, i, x, n, len, pd_l PP i, cm_M (L Bk i) n, A, w, g, PP, v, (by first | rfl | (unfold cm_M; rw [ein])), hK, hC4, ⟨m1, m2, mm⟩, hi, rfl, hlk, hX, hlen, hnl, hn24, hv, hv64, by have := hx1 (by omega); omega, fun T1 N1 I1 L1 R1 n1 s1 hA E B K mv kd hr => ⟨(hA0 (by unfold fs_b; omega) T1 N1 I1 L1 R1 n1 s1 hA E B K mv kd hr).1, fun c b hc hcx hb => ?_⟩⟩
    have hq := (hA0 (by unfold fs_b; omega) T1 N1 I1 L1 R1 n1 s1 hA E B K mv kd hr).2 c b hc hcx (hb.trans ⟨fun ⟨t, t1, ⟨t2, t3⟩, t4⟩ => Or.inl ⟨by omega, t, t1, ((cm_M_i (by omega) t).mp t2).2, t3, t4⟩, fun z => (by
      rcases z with ⟨_, t, t1, t2, t3, t4⟩ | z | z
      · exact ⟨t, t1, ⟨(cm_M_i (by omega) t).mpr ⟨t1, t2⟩, t3⟩, t4⟩
      · omega
      · omega)⟩)
    cases b with
    | true =>
      refine ⟨⟨rfl, rfl⟩, ?_⟩
      show q _ T1 N1 I1 L1 R1 (0 + n1) (0 + s1)
      rw [Nat.zero_add, Nat.zero_add]
      exact hq
    | false =>
      refine ⟨⟨rfl, rfl⟩, ?_⟩
      show q _ T1 N1 I1 L1 R1 (0 + n1) (0 + s1)
      rw [Nat.zero_add, Nat.zero_add]
      exact hq
  · rw [ek] at w1
    have hlk := hl (by unfold fs_b; omega)
    have kb : cr_b (pd_k PP i) = 3 := if_neg (by omega)
    rw [kb] at hA0
    refine ⟨hD.1, C, nk, b0, i, x, n, len, pd_l PP i, cm_M (L Bk i) n, A, w, g, PP, v, (by first | rfl | (unfold cm_M; rw [ein])), hK, hC4, ⟨m1, m2, mm⟩, hi, rfl, hlk, hX, hlen, hnl, hn24, hv, hv64, by have := hx1 (by omega); omega, fun T1 N1 I1 L1 R1 n1 s1 hA E B K mv kd hr => ⟨(hA0 (by unfold fs_b; omega) T1 N1 I1 L1 R1 n1 s1 hA E B K mv kd hr).1, fun c b hc hcx hb => ?_⟩⟩
    have hq := (hA0 (by unfold fs_b; omega) T1 N1 I1 L1 R1 n1 s1 hA E B K mv kd hr).2 c b hc hcx (hb.trans ⟨fun ⟨t, t1, t2, t3⟩ => Or.inr (Or.inl ⟨by omega, t, ((cm_M_i (by omega) t).mp t2).1, ((cm_M_i (by omega) t).mp t2).2, t3⟩), fun z => (by
      rcases z with z | ⟨_, t, t1, t2, t3⟩ | z
      · omega
      · exact ⟨t, by omega, (cm_M_i (by omega) t).mpr ⟨t1, t2⟩, t3⟩
      · omega)⟩)
    cases b with
    | true =>
      refine ⟨⟨rfl, rfl⟩, ?_⟩
      show q _ T1 N1 I1 L1 R1 (0 + n1) (0 + s1)
      rw [Nat.zero_add, Nat.zero_add]
      exact hq
    | false =>
      refine ⟨⟨rfl, rfl⟩, ?_⟩
      show q _ T1 N1 I1 L1 R1 (0 + n1) (0 + s1)
      rw [Nat.zero_add, Nat.zero_add]
      exact hq
  · rw [ek] at w1
    have hlk := hl (by unfold fs_b; omega)
    have kb : cr_b (pd_k PP i) = 3 := if_neg (by omega)
    rw [kb] at hA0
    refine ⟨hD.1, C, nk, b0, i, x, n, len, pd_l PP i, cm_M (L Bk i) n, A, w, g, PP, v, (by first | rfl | (unfold cm_M; rw [ein])), hK, hC4, ⟨m1, m2, mm⟩, hi, rfl, hlk, hX, hlen, hnl, hn24, hv, hv64, by have := hx1 (by omega); omega, fun T1 N1 I1 L1 R1 n1 s1 hA E B K mv kd hr => ⟨(hA0 (by unfold fs_b; omega) T1 N1 I1 L1 R1 n1 s1 hA E B K mv kd hr).1, fun c b hc hcx hb => ?_⟩⟩
    have hq := (hA0 (by unfold fs_b; omega) T1 N1 I1 L1 R1 n1 s1 hA E B K mv kd hr).2 c b hc hcx (hb.trans ⟨fun ⟨t, t1, t2, t3⟩ => Or.inr (Or.inl ⟨by omega, t, ((cm_M_i (by omega) t).mp t2).1, ((cm_M_i (by omega) t).mp t2).2, t3⟩), fun z => (by
      rcases z with z | ⟨_, t, t1, t2, t3⟩ | z
      · omega
      · exact ⟨t, by omega, (cm_M_i (by omega) t).mpr ⟨t1, t2⟩, t3⟩
      · omega)⟩)
    cases b with
    | true =>
      refine ⟨⟨rfl, rfl⟩, ?_⟩
      show q _ T1 N1 I1 L1 R1 (0 + n1) (0 + s1)
      rw [Nat.zero_add, Nat.zero_add]
      exact hq
    | false =>
      refine ⟨⟨rfl, rfl⟩, ?_⟩
      show q _ T1 N1 I1 L1 R1 (0 + n1) (0 + s1)
      rw [Nat.zero_add, Nat.zero_add]
      exact hq
  · rw [ek] at w1
    omega
  · rw [ek] at w1
    have hz : cm_M (L Bk i) n = 0 ↔ ¬ ∃ t, t < n ∧ nb (L Bk i) t = true := by
      rw [nb_z]
      constructor
      · rintro y ⟨t, t1, t2⟩
        have := y t (by omega)
        rw [(cm_M_i (by omega) t).mpr ⟨t1, t2⟩] at this
        cases this
      · intro y t _
        refine Bool.eq_false_iff.mpr (fun y2 => y ⟨t, (cm_M_i (by omega) t).mp y2⟩)
    refine ⟨fun w2 => ⟨⟨rfl, rfl⟩, ?_⟩, fun w2 => ⟨⟨rfl, rfl⟩, ?_⟩⟩
    · have w2 := lg_cmp_0.mp w2
      try rw [ein] at w2
      exact h5 (by omega) false ⟨fun y => (by cases y), fun y => (hz.mp w2 y).elim⟩
    · have w2 := fun y => w2 (lg_cmp_0.mpr y)
      try rw [ein] at w2
      exact h5 (by omega) true ⟨fun _ => Classical.not_not.mp (fun y => w2 (hz.mpr y)), fun _ => rfl⟩
  · rw [ek] at w1
    have hlk := hl (by unfold fs_b; omega)
    have kb : cr_b (pd_k PP i) = 3 := if_neg (by omega)
    rw [kb] at hA0
    refine ⟨hD.1, C, nk, b0, i, x, n, len, pd_l PP i, cm_M (L Bk i) n ||| -cm_M (L Bk i) n, A, w, g, PP, v, (by first | rfl | (unfold cm_M; rw [ein])), hK, hC4, ⟨m1, m2, mm⟩, hi, rfl, hlk, hX, hlen, hnl, hn24, hv, hv64, by have := hx1 (by omega); omega, fun T1 N1 I1 L1 R1 n1 s1 hA E B K mv kd hr => ⟨(hA0 (by unfold fs_b; omega) T1 N1 I1 L1 R1 n1 s1 hA E B K mv kd hr).1, fun c b hc hcx hb => ?_⟩⟩
    have hq := (hA0 (by unfold fs_b; omega) T1 N1 I1 L1 R1 n1 s1 hA E B K mv kd hr).2 c b hc hcx (hb.trans ⟨fun ⟨t, t1, t2, t3⟩ => Or.inr (Or.inr ⟨by omega, t, by omega, (by
      obtain ⟨u, u1, u2⟩ := (cm_or (by omega)).mp t2
      exact ⟨u, u1, (cm_M_i (by omega) u).mp u2⟩), t3⟩), fun z => (by
      rcases z with z | z | ⟨_, t, t1, ⟨u, u1, u2, u3⟩, t3⟩
      · omega
      · omega
      · exact ⟨t, by omega, (cm_or (by omega)).mpr ⟨u, u1, (cm_M_i (by omega) u).mpr ⟨u2, u3⟩⟩, t3⟩)⟩)
    cases b with
    | true =>
      refine ⟨⟨rfl, rfl⟩, ?_⟩
      show q _ T1 N1 I1 L1 R1 (0 + n1) (0 + s1)
      rw [Nat.zero_add, Nat.zero_add]
      exact hq
    | false =>
      refine ⟨⟨rfl, rfl⟩, ?_⟩
      show q _ T1 N1 I1 L1 R1 (0 + n1) (0 + s1)
      rw [Nat.zero_add, Nat.zero_add]
      exact hq
  · rw [ek] at w1
    refine ⟨fun w2 => ⟨⟨rfl, rfl⟩, ?_⟩, fun w2 => ?_⟩
    · rw [wi_le, en, ex] at w2
      exact h7 (by omega) false ⟨fun y => (by cases y), fun y => by omega⟩
    · rw [wi_le, en, ex] at w2
      have ea : Int32.ofNat n - Int32.ofInt 1 - Int32.ofNat x = Int32.ofNat (n - 1 - x) := by
        rw [show Int32.ofInt 1 = Int32.ofNat 1 from rfl, mr_sub (by omega) (by omega), mr_sub (by omega) (by omega)]
      refine ⟨cm_M (L Bk i) n, n - 1 - x, (by first | (rw [ea]; rfl) | (rw [ea]; unfold cm_M; rw [ein]) | (unfold cm_M; rw [← ea, ein])), by omega, ?_⟩
      refine ⟨fun w3 => ⟨⟨rfl, rfl⟩, ?_⟩, fun w3 => ⟨⟨rfl, rfl⟩, ?_⟩⟩
      · have w3 : nb (cm_M (L Bk i) n) (n - 1 - x) = false := wb_i_0.mp w3
        refine h7 (by omega) false ⟨fun y => (by cases y), fun y => ?_⟩
        rw [(cm_M_i (by omega) _).mpr ⟨by omega, y.2⟩] at w3
        cases w3
      · have w3 : nb (cm_M (L Bk i) n) (n - 1 - x) = true := wb_i_1.mp w3
        exact h7 (by omega) true ⟨fun _ => ⟨by omega, ((cm_M_i (by omega) _).mp w3).2⟩, fun _ => rfl⟩
  · rw [ek] at w1
    refine ⟨hD.1, ?_⟩
    have ea : I C 8 + Int32.ofNat i = Int32.ofNat (pd_m PP + i) := by
      rw [m1, wi_ona]
    refine ⟨_, hBk, by rw [ea]; exact pp_b (by omega) hlenB, ?_⟩
    rw [ea, wi_onn (n := pd_m PP + i) (by omega)]
    refine ⟨fun w2 => ⟨⟨rfl, rfl⟩, ?_⟩, fun w2 => ⟨⟨rfl, rfl⟩, ?_⟩⟩
    · have w2 : L Bk (pd_m PP + i) = 0 := lg_cmp_0.mp w2
      exact h8 (by omega) false ⟨fun y => (by cases y), fun y => (y w2).elim⟩
    · have w2 : ¬ L Bk (pd_m PP + i) = 0 := fun y => w2 (lg_cmp_0.mpr y)
      exact h8 (by omega) true ⟨fun _ => w2, fun _ => rfl⟩
  · rw [ek] at w1
    refine ⟨hD.1, ?_⟩
    have ea : I C 8 + Int32.ofNat i = Int32.ofNat (pd_m PP + i) := by
      rw [m1, wi_ona]
    refine ⟨_, hBk, by rw [ea]; exact pp_b (by omega) hlenB, ?_⟩
    rw [ea, wi_onn (n := pd_m PP + i) (by omega)]
    refine ⟨fun w2 => ⟨⟨rfl, rfl⟩, ?_⟩, fun w2 => ⟨⟨rfl, rfl⟩, ?_⟩⟩
    · have w2 : L Bk (pd_m PP + i) = 0 := lg_cmp_0.mp w2
      exact h8 (by omega) false ⟨fun y => (by cases y), fun y => (y w2).elim⟩
    · have w2 : ¬ L Bk (pd_m PP + i) = 0 := fun y => w2 (lg_cmp_0.mpr y)
      exact h8 (by omega) true ⟨fun _ => w2, fun _ => rfl⟩
  · rw [ek] at k1 k2 k3 k4 k5 k6 k7 k8 k9
    omega
