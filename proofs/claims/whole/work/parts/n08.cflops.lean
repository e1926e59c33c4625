/-! ===== the class: small properties, flip-flops of a part ===== -/
def cf_l27 (C : Nat) (b : Bool) (k : Nat) : List (Option Value) := [some (.ref C), some (.int (wb_i b)), some (.int (Int32.ofNat k)), none]
def cf_s (n : Nat) (W : Nat → Nat) (k : Nat) : Prop := n ≤ 4 ∧ ∀ j, j < k → W j ≤ 6
def cf_h227 (C n : Nat) (W : Nat → Nat) (T : wv_T) (N : Nat) (I : Nat → Nat → Int32) (L : Nat → Nat → Int64) (R : Nat → Nat → Option Nat) : Nat → Option (Nat → wv_P) := fun pc =>
  if pc = 16 then some (fun mm lv st T1 N1 I1 L1 R1 nc ns => ∃ (b : Bool) (k : Nat), lv = cf_l27 C b k ∧ st = [] ∧ T1 = T ∧ N1 = N ∧ R1 = R ∧ nc = 0 ∧ ns = 0 ∧ I1 = I ∧ L1 = L ∧ k ≤ n ∧ (b = true ↔ cf_s n W k) ∧ mm = 100 - k)
  else none
def cf_c227 : wv_c1 := fun as T N I L R q => ∃ (C n : Nat) (W : Nat → Nat), as = [.ref C] ∧ pp_D T R C ∧ I C 9 = Int32.ofNat n ∧ n ≤ 67 ∧ (∀ k, k < n → I (C + 9 + k) 2 = Int32.ofNat (W k) ∧ W k < 2147483648) ∧ ∀ b : Bool, (b = true ↔ cf_s n W n) → q (.inl (some (.int (wb_i b)))) T N I L R 0 0
set_option maxRecDepth 100000 in
theorem wM_227 : ∃ cb ci np, pt_mt 227 = some (8, cb, 3, false, some .boolean, ci, np) := ⟨_, _, _, rfl⟩
set_option maxRecDepth 100000 in
set_option maxHeartbeats 4000000 in
theorem cf_isSmall {sc : pt_Sc} {d : Nat} : wv_C wm_fx sc (d + 1 + 1) 227 cf_c227 := by
  rintro as T N I L R q ⟨C, n, W, rfl, hD, h9, hn, hW, h⟩ w0 HR
  obtain ⟨cb, ci, np, hm⟩ := wM_227
  have hc202 : wv_C wm_fx sc (d + 1) 202 sq_c202 := wv_C_deep (by omega) (sq_weight (d := d))
  refine wv_meth (hh := none) rfl (sp := wv_sp [(202, sq_c202)]) (hd := cf_h227 C n W T N I L R) (n := 300) (n1 := 300) hm zc_227 rfl (wv_sp_ok (fun q hq => by rw [List.mem_singleton.mp hq]; exact hc202)) ?_ ?_ HR
  · have en := wi_on (n := n) (by omega)
    have e4 : (Int32.ofInt 4).toInt = 4 := rfl
    refine ⟨hD.1, fun w => ?_, fun w => ?_⟩
    · rw [h9, wi_lt, en, e4] at w
      exact ⟨_, false, 0, rfl, rfl, rfl, rfl, rfl, rfl, rfl, rfl, rfl, Nat.zero_le _, ⟨fun z => (by cases z), fun z => by have := z.1; omega⟩, rfl⟩
    · rw [h9, wi_lt, en, e4] at w
      exact ⟨_, true, 0, rfl, rfl, rfl, rfl, rfl, rfl, rfl, rfl, rfl, Nat.zero_le _, ⟨fun _ => ⟨by omega, fun j hj => by omega⟩, fun _ => rfl⟩, rfl⟩
  · intro pc P hP m lv st T1 N1 I1 L1 R1 nc ns hh
    have en := wi_on (n := n) (by omega)
    have e6 : ((Int8.ofInt 6).toInt32).toInt = 6 := rfl
    unfold cf_h227 at hP
    by_cases p16 : pc = 16
    · rw [if_pos p16] at hP
      cases hP
      subst p16
      obtain ⟨b, k, rfl, rfl, rfl, rfl, rfl, rfl, rfl, rfl, rfl, hk, hb, rfl⟩ := hh
      have ek := wi_on (n := k) (by omega)
      have ekn := wi_onn (n := k) (by omega)
      refine ⟨hD.1, fun w => ?_, fun w => ?_⟩
      · rw [h9, wi_le, en, ek] at w
        have e : k = n := by omega
        subst e
        have hq := h b hb
        cases b with
        | true => exact ⟨⟨rfl, rfl⟩, hq⟩
        | false => exact ⟨⟨rfl, rfl⟩, hq⟩
      · rw [h9, wi_le, en, ek] at w
        have lst : ∀ b2 : Bool, cf_l27 C b2 (k + 1) = [some (.ref C), some (.int (wb_i b2)), some (.int (Int32.ofNat k + Int32.ofInt 1)), none] := fun b2 => by
          rw [wq_4s]
          rfl
        refine ⟨fun w1 => ?_, fun w1 => ?_⟩
        · have w1 : b = false := wb_i_2.mp (fun z => z w1)
          subst w1
          exact ⟨⟨rfl, rfl⟩, h false ⟨fun z => (by cases z), fun z => hb.mpr ⟨z.1, fun j hj => z.2 j (by omega)⟩⟩⟩
        have w1 : b = true := wb_i_1.mp w1
        obtain ⟨s1, s2⟩ := hb.mp w1
        obtain ⟨w2, w3⟩ := hW k (by omega)
        have ew := wi_on w3
        obtain ⟨k7, t7⟩ := hD.2.2.2.1
        obtain ⟨r7, tq⟩ := hD.2.2.2.2.2.1 k (by omega)
        refine ⟨hD.1, _, hD.2.1.2.2.2.2.2.2.1, _, _, _, t7, pp_b (c := 67) (by omega) (by omega), by rw [ekn]; exact r7, ?_⟩
        refine ⟨tq, C + 9 + k, rfl, tq, ?_⟩
        rw [w2]
        refine ⟨fun w4 => ?_, fun w4 => ?_⟩
        · rw [wi_lt, ew, e6] at w4
          exact ⟨100 - (k + 1), by omega, false, k + 1, (lst false).symm, rfl, rfl, rfl, rfl, rfl, rfl, rfl, rfl, by omega, ⟨fun z => (by cases z), fun z => by have := z.2 k (by omega); omega⟩, rfl⟩
        · rw [wi_lt, ew, e6] at w4
          exact ⟨100 - (k + 1), by omega, true, k + 1, (lst true).symm, rfl, rfl, rfl, rfl, rfl, rfl, rfl, rfl, by omega, ⟨fun _ => ⟨s1, fun j hj => by
            by_cases e : j = k
            · subst e
              omega
            · exact s2 j (by omega)⟩, fun _ => rfl⟩, rfl⟩
    rw [if_neg p16] at hP
    cases hP
def cf_c226 : wv_c1 := fun as T N I L R q => ∃ (pi : Int32) (C n : Nat → Nat) (W : Nat → Nat → Nat), as = [.ref 0, .int pi] ∧ (∃ k1, T 27 = some (.inr (k1 + 4, 2))) ∧ (∀ p, p < 2 → R 27 p = some (C p) ∧ pp_D T R (C p) ∧ I (C p) 9 = Int32.ofNat (n p) ∧ n p ≤ 67 ∧ ∀ k, k < n p → I (C p + 9 + k) 2 = Int32.ofNat (W p k) ∧ W p k < 2147483648) ∧ (rw_bp pi → q (.inr 2) T N I L R 1 6) ∧ ∀ p, p < 2 → pi = Int32.ofNat p → (¬ cf_s (n p) (W p) (n p) → q (.inr 1) T N I L R 1 6) ∧ (cf_s (n p) (W p) (n p) → q (.inl none) T N I L R 0 0)
set_option maxRecDepth 100000 in
theorem wM_226 : ∃ cb ci np, pt_mt 226 = some (1, cb, 2, false, none, ci, np) := ⟨_, _, _, rfl⟩
set_option maxRecDepth 100000 in
set_option maxHeartbeats 4000000 in
theorem cf_checkSmall {sc : pt_Sc} {d : Nat} : wv_C wm_fx sc (d + 1 + 1 + 1) 226 cf_c226 := by
  rintro as T N I L R q ⟨pi, C, n, W, rfl, t27, hR, hb, h⟩ w0 HR
  obtain ⟨cb, ci, np, hm⟩ := wM_226
  have hc101 : wv_C wm_fx sc (d + 1 + 1) 101 wq_c101 := wv_C_deep (by omega) (wq_checkP (d := d))
  have hc227 : wv_C wm_fx sc (d + 1 + 1) 227 cf_c227 := wv_C_deep (by omega) (cf_isSmall (d := d))
  refine wv_meth (hh := none) rfl (sp := wv_sp [(101, wq_c101), (227, cf_c227)]) (hd := fun _ => none) (n := 0) (n1 := 300) hm zc_226 rfl (wv_sp_ok (fun q hq => by
    rcases List.mem_cons.mp hq with h | h
    · rw [h]; exact hc101
    rw [List.mem_singleton.mp h]; exact hc227)) ?_ (fun pc P h => by cases h) HR
  refine ⟨pi, rfl, fun z => ⟨Or.inr rfl, hb z⟩, fun z => ?_⟩
  obtain ⟨p, hp, e⟩ := rw_bp_n z
  obtain ⟨h1, h2⟩ := h p hp e
  obtain ⟨q1, q2, q3, q4, q5⟩ := hR p hp
  obtain ⟨k1, t27⟩ := t27
  refine ⟨_, _, _, t27, by rw [e]; exact pp_b (c := 2) hp (by omega), by rw [e, wi_onn (by omega)]; exact q1, ?_⟩
  refine ⟨q2.1, C p, n p, W p, rfl, q2, q3, q4, q5, fun b hbb => ?_⟩
  refine ⟨fun w => ?_, fun w => ?_⟩
  · exact h2 (hbb.mp (wb_i_1.mp w))
  · have w : b = false := wb_i_2.mp w
    exact h1 (fun y => by rw [hbb.mpr y] at w; cases w)
/-- a part's kind, count and link in memory -/
def cf_m (P : pd_P) (C : Nat) (I : Nat → Nat → Int32) : Prop := I C 8 = Int32.ofNat (pd_m P) ∧ pd_m P ≤ 155 ∧ ∀ i, i < pd_m P → I (C + 1) i = Int32.ofNat (pd_k P i) ∧ pd_k P i ≤ 10 ∧ I (C + 4) i = Int32.ofNat (pd_t P i) ∧ I (C + 5) i = Int32.ofNat (pd_l P i)
def cf_1 (P : pd_P) (i K : Nat) (kd : Nat → Nat) : Nat := if pd_k P i = 1 then kk_n kd 2 2 K else kk_n kd 2 3 K
def cf_0 (P : pd_P) (i : Nat) : Nat := if pd_k P i = 5 ∨ pd_k P i = 8 ∨ pd_k P i = 9 then 1 else if pd_k P i = 7 then pd_t P i else 0
theorem cf_ff1 {P : pd_P} {ka : Nat → Nat × (Nat → Nat)} {i : Nat} (h : fs_b (pd_k P i)) : ff_1 P ka i = cf_1 P i (ka i).1 (ka i).2 := by
  unfold ff_1 cf_1
  unfold fs_b at h
  by_cases c : pd_k P i = 1
  · rw [if_pos c, if_pos c]
  · rw [if_neg c, if_neg c, if_pos (by omega)]
theorem cf_ff0 {P : pd_P} {ka : Nat → Nat × (Nat → Nat)} {i : Nat} (h : ¬ fs_b (pd_k P i)) : ff_1 P ka i = cf_0 P i := by
  unfold ff_1 cf_0
  unfold fs_b at h
  rw [if_neg (by omega), if_neg (by omega)]
def cf_c229 : wv_c1 := fun as T N I L R q => ∃ (C nk b i : Nat) (A : Nat → nt_A) (w g : Nat → Nat) (P : pd_P), as = [.ref C, .int (Int32.ofNat i)] ∧ kf_I C nk (b + 1) A w g T N I L R ∧ cf_m P C I ∧ i < pd_m P ∧ (fs_b (pd_k P i) → pd_l P i < nk) ∧ (fs_b (pd_k P i) → ∀ T1 N1 I1 L1 R1 n1 s1, kc_A C (pd_l P i) (A (pd_l P i)) (g (pd_l P i)) T N I L R T1 N1 I1 L1 R1 n1 s1 → ∀ E B K mv kd, kc_r E B (g (pd_l P i)) (A (pd_l P i)) I1 K mv kd → q (.inl (some (.int (Int32.ofNat (cf_1 P i K kd))))) T1 N1 I1 L1 R1 n1 s1) ∧ (¬ fs_b (pd_k P i) → q (.inl (some (.int (Int32.ofNat (cf_0 P i))))) T N I L R 0 0)
set_option maxRecDepth 100000 in
theorem wM_229 : ∃ cb ci np, pt_mt 229 = some (8, cb, 2, false, some .int, ci, np) := ⟨_, _, _, rfl⟩
set_option maxRecDepth 100000 in
set_option maxHeartbeats 4000000 in
theorem cf_flopsOf {sc : pt_Sc} {d : Nat} : wv_C wm_fx sc (d + 1 + 1 + 1 + 1 + 1) 229 cf_c229 := by
  rintro as T N I L R q ⟨C, nk, b, i, A, w, g, P, rfl, hK, ⟨m0, m1, mm⟩, hi, hl, h1, h0⟩ w0 HR
  obtain ⟨cb, ci, np, hm⟩ := wM_229
  have hc203 : wv_C wm_fx sc (d + 1 + 1 + 1 + 1) 203 kc_c203 := wv_C_deep (by omega) (kc_classesOf (d := d))
  have hc230 : wv_C wm_fx sc (d + 1 + 1 + 1 + 1) 230 kk_c230 := wv_C_deep (by omega) (kk_countKinds (d := d))
  refine wv_meth (hh := none) rfl (sp := wv_sp [(203, kc_c203), (230, kk_c230)]) (hd := fun _ => none) (n := 0) (n1 := 300) hm zc_229 rfl (wv_sp_ok (fun q hq => by
    rcases List.mem_cons.mp hq with h | h
    · rw [h]; exact hc203
    rw [List.mem_singleton.mp h]; exact hc230)) ?_ (fun pc P h => by cases h) HR
  obtain ⟨hD, hC, hn4, hN, hNb, hS, hd⟩ := id hK
  obtain ⟨m2, m3, m5, m4⟩ := mm i hi
  have ein := wi_onn (n := i) (by omega)
  have ek := wi_on (n := pd_k P i) (by omega)
  refine ⟨hD.1, _, hD.2.1.1, _, hD.2.2.1.1, pp_b (c := 155) (by omega) (by omega), ?_⟩
  rw [ein, m2]
  refine ⟨fun w1 => ?_, fun k1 => ⟨fun w1 => ?_, fun k2 => ⟨fun w1 => ?_, fun k3 => ⟨fun w1 => ?_, fun k4 => ⟨fun w1 => ?_, fun k5 => ⟨fun w1 => ?_, fun k6 => ⟨fun w1 => ?_, fun k7 => ⟨fun w1 => ?_, fun k8 => ⟨fun w1 => ?_, fun k9 => ?_⟩⟩⟩⟩⟩⟩⟩⟩⟩
  · rw [ek] at w1
    have hb : fs_b (pd_k P i) := by
      unfold fs_b
      omega
    have hlk := hl hb
    obtain ⟨s1, s2, s3, s4, s5⟩ := hS _ hlk
    refine ⟨hD.1, _, hD.2.1.2.2.2.2.1, _, hD.2.2.1.2.2.2.2.1, pp_b (c := 155) (by omega) (by omega), ?_⟩
    rw [ein, m4]
    refine ⟨hD.1, C, pd_l P i, w (pd_l P i), g (pd_l P i), A (pd_l P i), rfl, hD, hC, by omega, s1, s2, s3, kc_S_of s4 (fun T1 N1 I1 L1 R1 n1 s1x hA => ?_)⟩
    obtain ⟨B1, hB1, ⟨K1, mv1, kd1, hr1⟩, _⟩ := id hA
    have hr1 : kc_r (C + 76 + 5 * pd_l P i) B1 (g (pd_l P i)) (A (pd_l P i)) I1 K1 mv1 kd1 := hr1
    have hD1 := ((kf_step hK hlk hA).2.2.2.2.2.1 _ hlk).1
    refine ⟨hD1.1, C + 76 + 5 * pd_l P i, B1, g (pd_l P i), K1, 2, 2, A (pd_l P i), mv1, kd1, rfl, hD1, hr1, by omega, by omega, ?_⟩
    have hq := h1 hb T1 N1 I1 L1 R1 n1 s1x hA _ _ K1 mv1 kd1 hr1
    have ec : cf_1 P i K1 kd1 = kk_n kd1 2 2 K1 := by
      unfold cf_1
      rw [if_pos (by omega)]
    rw [ec] at hq
    show q (.inl (some (.int (Int32.ofNat (kk_n kd1 2 2 K1))))) T1 N1 I1 L1 R1 (0 + n1 + 0) (0 + s1x + 0)
    rw [show 0 + n1 + 0 = n1 by omega, show 0 + s1x + 0 = s1x by omega]
    exact hq
  · rw [ek] at w1
    have hb : fs_b (pd_k P i) := by
      unfold fs_b
      omega
    have hlk := hl hb
    obtain ⟨s1, s2, s3, s4, s5⟩ := hS _ hlk
    refine ⟨hD.1, _, hD.2.1.2.2.2.2.1, _, hD.2.2.1.2.2.2.2.1, pp_b (c := 155) (by omega) (by omega), ?_⟩
    rw [ein, m4]
    refine ⟨hD.1, C, pd_l P i, w (pd_l P i), g (pd_l P i), A (pd_l P i), rfl, hD, hC, by omega, s1, s2, s3, kc_S_of s4 (fun T1 N1 I1 L1 R1 n1 s1x hA => ?_)⟩
    obtain ⟨B1, hB1, ⟨K1, mv1, kd1, hr1⟩, _⟩ := id hA
    have hr1 : kc_r (C + 76 + 5 * pd_l P i) B1 (g (pd_l P i)) (A (pd_l P i)) I1 K1 mv1 kd1 := hr1
    have hD1 := ((kf_step hK hlk hA).2.2.2.2.2.1 _ hlk).1
    refine ⟨hD1.1, C + 76 + 5 * pd_l P i, B1, g (pd_l P i), K1, 2, 3, A (pd_l P i), mv1, kd1, rfl, hD1, hr1, by omega, by omega, ?_⟩
    have hq := h1 hb T1 N1 I1 L1 R1 n1 s1x hA _ _ K1 mv1 kd1 hr1
    have ec : cf_1 P i K1 kd1 = kk_n kd1 2 3 K1 := by
      unfold cf_1
      rw [if_neg (by omega)]
    rw [ec] at hq
    show q (.inl (some (.int (Int32.ofNat (kk_n kd1 2 3 K1))))) T1 N1 I1 L1 R1 (0 + n1 + 0) (0 + s1x + 0)
    rw [show 0 + n1 + 0 = n1 by omega, show 0 + s1x + 0 = s1x by omega]
    exact hq
  · rw [ek] at w1
    have hb : fs_b (pd_k P i) := by
      unfold fs_b
      omega
    have hlk := hl hb
    obtain ⟨s1, s2, s3, s4, s5⟩ := hS _ hlk
    refine ⟨hD.1, _, hD.2.1.2.2.2.2.1, _, hD.2.2.1.2.2.2.2.1, pp_b (c := 155) (by omega) (by omega), ?_⟩
    rw [ein, m4]
    refine ⟨hD.1, C, pd_l P i, w (pd_l P i), g (pd_l P i), A (pd_l P i), rfl, hD, hC, by omega, s1, s2, s3, kc_S_of s4 (fun T1 N1 I1 L1 R1 n1 s1x hA => ?_)⟩
    obtain ⟨B1, hB1, ⟨K1, mv1, kd1, hr1⟩, _⟩ := id hA
    have hr1 : kc_r (C + 76 + 5 * pd_l P i) B1 (g (pd_l P i)) (A (pd_l P i)) I1 K1 mv1 kd1 := hr1
    have hD1 := ((kf_step hK hlk hA).2.2.2.2.2.1 _ hlk).1
    refine ⟨hD1.1, C + 76 + 5 * pd_l P i, B1, g (pd_l P i), K1, 2, 3, A (pd_l P i), mv1, kd1, rfl, hD1, hr1, by omega, by omega, ?_⟩
    have hq := h1 hb T1 N1 I1 L1 R1 n1 s1x hA _ _ K1 mv1 kd1 hr1
    have ec : cf_1 P i K1 kd1 = kk_n kd1 2 3 K1 := by
      unfold cf_1
      rw [if_neg (by omega)]
    rw [ec] at hq
    show q (.inl (some (.int (Int32.ofNat (kk_n kd1 2 3 K1))))) T1 N1 I1 L1 R1 (0 + n1 + 0) (0 + s1x + 0)
    rw [show 0 + n1 + 0 = n1 by omega, show 0 + s1x + 0 = s1x by omega]
    exact hq
  · rw [ek] at w1
    have hb : ¬ fs_b (pd_k P i) := by
      unfold fs_b
      omega
    have hq := h0 hb
    have ec : cf_0 P i = 0 := by
      unfold cf_0
      rw [if_neg (by omega), if_neg (by omega)]
    rw [ec] at hq
    exact hq
  · rw [ek] at w1
    have hb : ¬ fs_b (pd_k P i) := by
      unfold fs_b
      omega
    have hq := h0 hb
    have ec : cf_0 P i = 1 := by
      unfold cf_0
      rw [if_pos (by omega)]
    rw [ec] at hq
    exact hq
  · rw [ek] at w1
    have hb : fs_b (pd_k P i) := by
      unfold fs_b
      omega
    have hlk := hl hb
    obtain ⟨s1, s2, s3, s4, s5⟩ := hS _ hlk
    refine ⟨hD.1, _, hD.2.1.2.2.2.2.1, _, hD.2.2.1.2.2.2.2.1, pp_b (c := 155) (by omega) (by omega), ?_⟩
    rw [ein, m4]
    refine ⟨hD.1, C, pd_l P i, w (pd_l P i), g (pd_l P i), A (pd_l P i), rfl, hD, hC, by omega, s1, s2, s3, kc_S_of s4 (fun T1 N1 I1 L1 R1 n1 s1x hA => ?_)⟩
    obtain ⟨B1, hB1, ⟨K1, mv1, kd1, hr1⟩, _⟩ := id hA
    have hr1 : kc_r (C + 76 + 5 * pd_l P i) B1 (g (pd_l P i)) (A (pd_l P i)) I1 K1 mv1 kd1 := hr1
    have hD1 := ((kf_step hK hlk hA).2.2.2.2.2.1 _ hlk).1
    refine ⟨hD1.1, C + 76 + 5 * pd_l P i, B1, g (pd_l P i), K1, 2, 3, A (pd_l P i), mv1, kd1, rfl, hD1, hr1, by omega, by omega, ?_⟩
    have hq := h1 hb T1 N1 I1 L1 R1 n1 s1x hA _ _ K1 mv1 kd1 hr1
    have ec : cf_1 P i K1 kd1 = kk_n kd1 2 3 K1 := by
      unfold cf_1
      rw [if_neg (by omega)]
    rw [ec] at hq
    show q (.inl (some (.int (Int32.ofNat (kk_n kd1 2 3 K1))))) T1 N1 I1 L1 R1 (0 + n1 + 0) (0 + s1x + 0)
    rw [show 0 + n1 + 0 = n1 by omega, show 0 + s1x + 0 = s1x by omega]
    exact hq
  · rw [ek] at w1
    have hb : ¬ fs_b (pd_k P i) := by
      unfold fs_b
      omega
    have hq := h0 hb
    have ec : cf_0 P i = pd_t P i := by
      unfold cf_0
      rw [if_neg (by omega), if_pos (by omega)]
    rw [ec] at hq
    refine ⟨hD.1, _, hD.2.1.2.2.2.1, _, hD.2.2.1.2.2.2.1, pp_b (c := 155) (by omega) (by omega), ?_⟩
    rw [ein, m5]
    exact hq
  · rw [ek] at w1
    have hb : ¬ fs_b (pd_k P i) := by
      unfold fs_b
      omega
    have hq := h0 hb
    have ec : cf_0 P i = 1 := by
      unfold cf_0
      rw [if_pos (by omega)]
    rw [ec] at hq
    exact hq
  · rw [ek] at w1
    have hb : ¬ fs_b (pd_k P i) := by
      unfold fs_b
      omega
    have hq := h0 hb
    have ec : cf_0 P i = 1 := by
      unfold cf_0
      rw [if_pos (by omega)]
    rw [ec] at hq
    exact hq
  · rw [ek] at k1 k2 k3 k4 k5 k6 k7 k8 k9
    have hb : ¬ fs_b (pd_k P i) := by
      unfold fs_b
      omega
    have hq := h0 hb
    have ec : cf_0 P i = 0 := by
      unfold cf_0
      rw [if_neg (by omega), if_neg (by omega)]
    rw [ec] at hq
    exact hq
