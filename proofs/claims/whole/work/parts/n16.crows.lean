/-! ===== the class: rows of a class ===== -/
/-- a row of class c that began where mask says -/
def cr_9 (mask : Int64) (v : Nat → Nat) (mv : Nat → Nat → Nat) (kd : Nat → Nat) (n c t : Nat) : Prop := nb mask t = true ∧ df_run mv 0 (kz v t (n - t)) = c
def cr_6 (mask : Int64) (v : Nat → Nat) (mv : Nat → Nat → Nat) (kd : Nat → Nat) (n c t : Nat) : Prop := cr_9 mask v mv kd n c t ∧ ¬ ∃ k, t + k ≤ n ∧ kd (df_run mv 0 (kz v t k)) = 3
def cr_l (C i x : Nat) (mask : Int64) (n E : Nat) (c : Nat) (t : Nat) : List (Option Value) := [some (.ref C), some (.int (Int32.ofNat i)), some (.int (Int32.ofNat x)), some (.long mask), none, some (.ref 341), some (.int (Int32.ofNat n)), some (.ref E), some (.int (Int32.ofNat c)), some (.int (Int32.ofNat t)), none, none, none, none, none, none, none]
def cr_C (C : Nat) : Prop := C = 28 ∨ C = 124 ∨ C = 220 ∨ C = 346
def cr_h239 (C i x n len l : Nat) (mask : Int64) (v : Nat → Nat) (A : nt_A) (g : Nat) (T : wv_T) (N : Nat) (I : Nat → Nat → Int32) (L : Nat → Nat → Int64) (R : Nat → Nat → Option Nat) : Nat → Option (Nat → wv_P) := fun pc =>
  if pc = 25 then some (fun mm lv st T1 N1 I1 L1 R1 nc ns => ∃ (c t B K : Nat) (mv : Nat → Nat → Nat) (kd : Nat → Nat), lv = cr_l C i x mask n (C + 76 + 5 * l) c t ∧ st = [] ∧ kc_A C l A g T N I L R T1 N1 I1 L1 R1 nc ns ∧ kc_D T1 R1 (C + 76 + 5 * l) ∧ kc_B T1 R1 (C + 76 + 5 * l) B ∧ kc_r (C + 76 + 5 * l) B g A I1 K mv kd ∧ T1 341 = some (.inr (0, len)) ∧ (∀ k, k < n → I1 341 k = Int32.ofNat (v k)) ∧ c < K ∧ kk_x kd 2 3 x c ∧ t ≤ n + 1 ∧ (∀ u, u < t → ¬ cr_9 mask v mv kd n c u) ∧ mm = n + 1 - t)
  else none
def cr_c239 : wv_c1 := fun as T N I L R q => ∃ (C nk b0 i x n len l : Nat) (mask : Int64) (A : Nat → nt_A) (w g : Nat → Nat) (PP : pd_P) (v : Nat → Nat), as = [.ref C, .int (Int32.ofNat i), .int (Int32.ofNat x), .long mask, .ref 341, .int (Int32.ofNat n)] ∧ kf_I C nk (b0 + 1) A w g T N I L R ∧ cr_C C ∧ cf_m PP C I ∧ i < pd_m PP ∧ l = pd_l PP i ∧ l < nk ∧ T 341 = some (.inr (0, len)) ∧ len < 1000000 ∧ n ≤ len ∧ n ≤ 24 ∧ (∀ k, k < n → I 341 k = Int32.ofNat (v k)) ∧ (∀ k, k < n → v k < 64) ∧ x < 1000 ∧ ∀ T1 N1 I1 L1 R1 n1 s1, kc_A C l (A l) (g l) T N I L R T1 N1 I1 L1 R1 n1 s1 → ∀ E B K mv kd, kc_r E B (g l) (A l) I1 K mv kd → x < kk_n kd 2 3 K ∧ ∀ (c : Nat) (b : Bool), c < K → kk_x kd 2 3 x c → (b = true ↔ ∃ t, t < n + 1 ∧ cr_9 mask v mv kd n c t) → q (.inl (some (.int (wb_i b)))) T1 N1 I1 L1 R1 n1 s1
set_option maxRecDepth 100000 in
theorem wM_239 : ∃ cb ci np, pt_mt 239 = some (8, cb, 10, false, some .boolean, ci, np) := ⟨_, _, _, rfl⟩
set_option maxRecDepth 100000 in
set_option maxHeartbeats 4000000 in
theorem cr_m239 {sc : pt_Sc} {d : Nat} : wv_C wm_fx sc (d + 1 + 1 + 1 + 1 + 1) 239 cr_c239 := by
  rintro as T N I L R q ⟨C, nk, b0, i, x, n, len, l, mask, A, w, g, PP, v, rfl, hK, hC4, ⟨m1, m2, mm⟩, hi, hl, hlk, hX, hlen, hnl, hn24, hv, hv64, hx, h⟩ w0 HR
  obtain ⟨cb, ci, np, hm⟩ := wM_239
  have hc203 : wv_C wm_fx sc (d + 1 + 1 + 1 + 1) 203 kc_c203 := wv_C_deep (by omega) (kc_classesOf (d := d))
  have hc237 : wv_C wm_fx sc (d + 1 + 1 + 1 + 1) 237 kk_c237 := wv_C_deep (by omega) (kk_ofKinds (d := d))
  have hc178 : wv_C wm_fx sc (d + 1 + 1 + 1 + 1) 178 sc_c178 := wv_C_deep (by omega) (sc_isIn (d := d))
  have hc217 : wv_C wm_fx sc (d + 1 + 1 + 1 + 1) 217 kc_c217 := wv_C_deep (by omega) (kc_ofRow (d := d))
  refine wv_meth (hh := none) rfl (sp := wv_sp [(203, kc_c203), (237, kk_c237), (178, sc_c178), (217, kc_c217)]) (hd := cr_h239 C i x n len l mask v (A l) (g l) T N I L R) (n := 300) (n1 := 300) hm zc_239 rfl (wv_sp_ok (fun q hq => by
    rcases List.mem_cons.mp hq with h | h
    · rw [h]; exact hc203
    rcases List.mem_cons.mp h with h | h
    · rw [h]; exact hc237
    rcases List.mem_cons.mp h with h | h
    · rw [h]; exact hc178
    rw [List.mem_singleton.mp h]; exact hc217)) ?_ ?_ HR
  · obtain ⟨hD, hC, hn4, hN, hNb, hS, hd⟩ := id hK
    obtain ⟨m3, m4, m5, m6⟩ := mm i hi
    rw [← hl] at m6
    have ein := wi_onn (n := i) (by omega)
    obtain ⟨s1, s2, s3, s4, s5⟩ := hS _ hlk
    refine ⟨hD.1, _, hD.2.1.2.2.2.2.1, _, hD.2.2.1.2.2.2.2.1, pp_b (c := 155) (by omega) (by omega), ?_⟩
    rw [ein, m6]
    refine ⟨hD.1, C, l, w l, g l, A l, rfl, hD, hC, by omega, s1, s2, s3, kc_S_of s4 (fun T1 N1 I1 L1 R1 n1 s1x hA => ?_)⟩
    obtain ⟨B1, hB1, ⟨K1, mv1, kd1, hr1⟩, _⟩ := id hA
    have hr1 : kc_r (C + 76 + 5 * l) B1 (g l) (A l) I1 K1 mv1 kd1 := hr1
    have hD1 := ((kf_step hK hlk hA).2.2.2.2.2.1 _ hlk).1
    obtain ⟨B2, b1, b2, fT, fR, fI, fL, _⟩ := kc_A_g hN hA
    have b3 := b1.2.2.1
    unfold cr_C at hC4
    obtain ⟨hxk, hq⟩ := h T1 N1 I1 L1 R1 n1 s1x hA _ _ K1 mv1 kd1 hr1
    refine ⟨hD1.1, C + 76 + 5 * l, B1, g l, K1, 2, 3, x, A l, mv1, kd1, rfl, hD1, hr1, by omega, by omega, hx, fun c hc hcx => ?_, fun z => by omega⟩
    refine ⟨n + 1 - 0, c, 0, B1, K1, mv1, kd1, rfl, rfl, ?_, hD1, hB1, hr1, ?_, fun k hk => ?_, hc, hcx, Nat.zero_le _, fun u hu => by omega, rfl⟩
    · rw [show 0 + n1 + 0 = n1 by omega, show 0 + s1x + 0 = s1x by omega]
      exact hA
    · rw [fT 341 (by rw [hX]; simp)]
      exact hX
    · rw [fI 341 k (by omega) (by omega) (by omega) (Or.inl (by omega))]
      exact hv k hk
  · intro pc P hP m lv st T1 N1 I1 L1 R1 nc ns hh
    have en := wi_on (n := n) (by omega)
    unfold cr_h239 at hP
    by_cases p25 : pc = 25
    · rw [if_pos p25] at hP
      cases hP
      subst p25
      obtain ⟨c, t, B, K, mv, kd, rfl, rfl, hA, hD1, hB1, hr, hX1, hv1, hc, hcx, ht, hno, rfl⟩ := hh
      have hK65 := hr.1
      have et := wi_on (n := t) (by omega)
      have ec := wi_on (n := c) (by omega)
      have lst : cr_l C i x mask n (C + 76 + 5 * l) c (t + 1) = [some (.ref C), some (.int (Int32.ofNat i)), some (.int (Int32.ofNat x)), some (.long mask), none, some (.ref 341), some (.int (Int32.ofNat n)), some (.ref (C + 76 + 5 * l)), some (.int (Int32.ofNat c)), some (.int (Int32.ofNat t + Int32.ofInt 1)), none, none, none, none, none, none, none] := by
        rw [wq_4s]
        rfl
      refine ⟨fun w => ⟨⟨rfl, rfl⟩, ?_⟩, fun w => ?_⟩
      · rw [wi_lt, en, et] at w
        exact (h _ _ _ _ _ _ _ hA _ B K mv kd hr).2 c false hc hcx ⟨fun z => (by cases z), fun ⟨u, u1, u2⟩ => (hno u (by omega) u2).elim⟩
      rw [wi_lt, en, et] at w
      refine ⟨mask, t, rfl, by omega, ?_⟩
      refine ⟨fun w1 => ?_, fun w1 => ?_⟩
      · have w1 : nb mask t = false := wb_i_0.mp w1
        refine ⟨n + 1 - (t + 1), by omega, c, t + 1, B, K, mv, kd, lst.symm, rfl, hA, hD1, hB1, hr, hX1, hv1, hc, hcx, by omega, fun u hu => ?_, rfl⟩
        by_cases e : u = t
        · subst e
          exact fun z => by have := z.1; rw [w1] at this; cases this
        · exact hno u (by omega)
      have w1 : nb mask t = true := wb_i_1.mp w1
      refine ⟨hD1.1, C + 76 + 5 * l, B, g l, K, 341, len, t, n, mv, v, rfl, hD1, hB1, hr.2.1, hr.2.2.1, hK65, hr.2.2.2.2.2.1, hr.2.2.2.2.2.2.1, hX1, by omega, by omega, by omega, fun k k1 k2 => ⟨hv1 k k2, hv64 k k2⟩, ?_⟩
      have hlt := df_run_lt hr.2.2.2.2.2.2.1 _ (kz_w (v := v) (i := t) (n - t) (fun k k1 k2 => hv64 k (by omega))) 0 hr.2.2.2.2.2.2.1.1
      have er := wi_on (n := df_run mv 0 (kz v t (n - t))) (by omega)
      refine ⟨fun w2 => ?_, fun w2 => ?_⟩
      · rw [wi_eq, er, ec] at w2
        refine ⟨n + 1 - (t + 1), by omega, c, t + 1, B, K, mv, kd, lst.symm, rfl, hA, hD1, hB1, hr, hX1, hv1, hc, hcx, by omega, fun u hu => ?_, rfl⟩
        by_cases e : u = t
        · subst e
          exact fun z => by have := z.2; omega
        · exact hno u (by omega)
      · rw [wi_eq, er, ec] at w2
        exact ⟨⟨rfl, rfl⟩, (h _ _ _ _ _ _ _ hA _ B K mv kd hr).2 c true hc hcx ⟨fun _ => ⟨t, by omega, w1, by omega⟩, fun _ => rfl⟩⟩
    rw [if_neg p25] at hP
    cases hP
def cr_h236 (C i x n len l : Nat) (mask : Int64) (v : Nat → Nat) (A : nt_A) (g : Nat) (T : wv_T) (N : Nat) (I : Nat → Nat → Int32) (L : Nat → Nat → Int64) (R : Nat → Nat → Option Nat) : Nat → Option (Nat → wv_P) := fun pc =>
  if pc = 25 then some (fun mm lv st T1 N1 I1 L1 R1 nc ns => ∃ (c t B K : Nat) (mv : Nat → Nat → Nat) (kd : Nat → Nat), lv = cr_l C i x mask n (C + 76 + 5 * l) c t ∧ st = [] ∧ kc_A C l A g T N I L R T1 N1 I1 L1 R1 nc ns ∧ kc_D T1 R1 (C + 76 + 5 * l) ∧ kc_B T1 R1 (C + 76 + 5 * l) B ∧ kc_r (C + 76 + 5 * l) B g A I1 K mv kd ∧ T1 341 = some (.inr (0, len)) ∧ (∀ k, k < n → I1 341 k = Int32.ofNat (v k)) ∧ c < K ∧ kk_x kd 2 2 x c ∧ t ≤ n ∧ (∀ u, u < t → ¬ cr_6 mask v mv kd n c u) ∧ mm = n - t)
  else none
def cr_c236 : wv_c1 := fun as T N I L R q => ∃ (C nk b0 i x n len l : Nat) (mask : Int64) (A : Nat → nt_A) (w g : Nat → Nat) (PP : pd_P) (v : Nat → Nat), as = [.ref C, .int (Int32.ofNat i), .int (Int32.ofNat x), .long mask, .ref 341, .int (Int32.ofNat n)] ∧ kf_I C nk (b0 + 1) A w g T N I L R ∧ cr_C C ∧ cf_m PP C I ∧ i < pd_m PP ∧ l = pd_l PP i ∧ l < nk ∧ T 341 = some (.inr (0, len)) ∧ len < 1000000 ∧ n ≤ len ∧ n ≤ 24 ∧ (∀ k, k < n → I 341 k = Int32.ofNat (v k)) ∧ (∀ k, k < n → v k < 64) ∧ x < 1000 ∧ ∀ T1 N1 I1 L1 R1 n1 s1, kc_A C l (A l) (g l) T N I L R T1 N1 I1 L1 R1 n1 s1 → ∀ E B K mv kd, kc_r E B (g l) (A l) I1 K mv kd → x < kk_n kd 2 2 K ∧ ∀ (c : Nat) (b : Bool), c < K → kk_x kd 2 2 x c → (b = true ↔ ∃ t, t < n ∧ cr_6 mask v mv kd n c t) → q (.inl (some (.int (wb_i b)))) T1 N1 I1 L1 R1 n1 s1
set_option maxRecDepth 100000 in
theorem wM_236 : ∃ cb ci np, pt_mt 236 = some (8, cb, 10, false, some .boolean, ci, np) := ⟨_, _, _, rfl⟩
set_option maxRecDepth 100000 in
set_option maxHeartbeats 4000000 in
theorem cr_m236 {sc : pt_Sc} {d : Nat} : wv_C wm_fx sc (d + 1 + 1 + 1 + 1 + 1) 236 cr_c236 := by
  rintro as T N I L R q ⟨C, nk, b0, i, x, n, len, l, mask, A, w, g, PP, v, rfl, hK, hC4, ⟨m1, m2, mm⟩, hi, hl, hlk, hX, hlen, hnl, hn24, hv, hv64, hx, h⟩ w0 HR
  obtain ⟨cb, ci, np, hm⟩ := wM_236
  have hc203 : wv_C wm_fx sc (d + 1 + 1 + 1 + 1) 203 kc_c203 := wv_C_deep (by omega) (kc_classesOf (d := d))
  have hc237 : wv_C wm_fx sc (d + 1 + 1 + 1 + 1) 237 kk_c237 := wv_C_deep (by omega) (kk_ofKinds (d := d))
  have hc178 : wv_C wm_fx sc (d + 1 + 1 + 1 + 1) 178 sc_c178 := wv_C_deep (by omega) (sc_isIn (d := d))
  have hc217 : wv_C wm_fx sc (d + 1 + 1 + 1 + 1) 217 kc_c217 := wv_C_deep (by omega) (kc_ofRow (d := d))
  have hc238 : wv_C wm_fx sc (d + 1 + 1 + 1 + 1) 238 fb_c238 := wv_C_deep (by omega) (fb_hasRow (d := d))
  refine wv_meth (hh := none) rfl (sp := wv_sp [(203, kc_c203), (237, kk_c237), (178, sc_c178), (217, kc_c217), (238, fb_c238)]) (hd := cr_h236 C i x n len l mask v (A l) (g l) T N I L R) (n := 300) (n1 := 300) hm zc_236 rfl (wv_sp_ok (fun q hq => by
    rcases List.mem_cons.mp hq with h | h
    · rw [h]; exact hc203
    rcases List.mem_cons.mp h with h | h
    · rw [h]; exact hc237
    rcases List.mem_cons.mp h with h | h
    · rw [h]; exact hc178
    rcases List.mem_cons.mp h with h | h
    · rw [h]; exact hc217
    rw [List.mem_singleton.mp h]; exact hc238)) ?_ ?_ HR
  · obtain ⟨hD, hC, hn4, hN, hNb, hS, hd⟩ := id hK
    obtain ⟨m3, m4, m5, m6⟩ := mm i hi
    rw [← hl] at m6
    have ein := wi_onn (n := i) (by omega)
    obtain ⟨s1, s2, s3, s4, s5⟩ := hS _ hlk
    refine ⟨hD.1, _, hD.2.1.2.2.2.2.1, _, hD.2.2.1.2.2.2.2.1, pp_b (c := 155) (by omega) (by omega), ?_⟩
    rw [ein, m6]
    refine ⟨hD.1, C, l, w l, g l, A l, rfl, hD, hC, by omega, s1, s2, s3, kc_S_of s4 (fun T1 N1 I1 L1 R1 n1 s1x hA => ?_)⟩
    obtain ⟨B1, hB1, ⟨K1, mv1, kd1, hr1⟩, _⟩ := id hA
    have hr1 : kc_r (C + 76 + 5 * l) B1 (g l) (A l) I1 K1 mv1 kd1 := hr1
    have hD1 := ((kf_step hK hlk hA).2.2.2.2.2.1 _ hlk).1
    obtain ⟨B2, b1, b2, fT, fR, fI, fL, _⟩ := kc_A_g hN hA
    have b3 := b1.2.2.1
    unfold cr_C at hC4
    obtain ⟨hxk, hq⟩ := h T1 N1 I1 L1 R1 n1 s1x hA _ _ K1 mv1 kd1 hr1
    refine ⟨hD1.1, C + 76 + 5 * l, B1, g l, K1, 2, 2, x, A l, mv1, kd1, rfl, hD1, hr1, by omega, by omega, hx, fun c hc hcx => ?_, fun z => by omega⟩
    refine ⟨n - 0, c, 0, B1, K1, mv1, kd1, rfl, rfl, ?_, hD1, hB1, hr1, ?_, fun k hk => ?_, hc, hcx, Nat.zero_le _, fun u hu => by omega, rfl⟩
    · rw [show 0 + n1 + 0 = n1 by omega, show 0 + s1x + 0 = s1x by omega]
      exact hA
    · rw [fT 341 (by rw [hX]; simp)]
      exact hX
    · rw [fI 341 k (by omega) (by omega) (by omega) (Or.inl (by omega))]
      exact hv k hk
  · intro pc P hP m lv st T1 N1 I1 L1 R1 nc ns hh
    have en := wi_on (n := n) (by omega)
    unfold cr_h236 at hP
    by_cases p25 : pc = 25
    · rw [if_pos p25] at hP
      cases hP
      subst p25
      obtain ⟨c, t, B, K, mv, kd, rfl, rfl, hA, hD1, hB1, hr, hX1, hv1, hc, hcx, ht, hno, rfl⟩ := hh
      have hK65 := hr.1
      have et := wi_on (n := t) (by omega)
      have ec := wi_on (n := c) (by omega)
      have lst : cr_l C i x mask n (C + 76 + 5 * l) c (t + 1) = [some (.ref C), some (.int (Int32.ofNat i)), some (.int (Int32.ofNat x)), some (.long mask), none, some (.ref 341), some (.int (Int32.ofNat n)), some (.ref (C + 76 + 5 * l)), some (.int (Int32.ofNat c)), some (.int (Int32.ofNat t + Int32.ofInt 1)), none, none, none, none, none, none, none] := by
        rw [wq_4s]
        rfl
      refine ⟨fun w => ⟨⟨rfl, rfl⟩, ?_⟩, fun w => ?_⟩
      · rw [wi_le, en, et] at w
        exact (h _ _ _ _ _ _ _ hA _ B K mv kd hr).2 c false hc hcx ⟨fun z => (by cases z), fun ⟨u, u1, u2⟩ => (hno u (by omega) u2).elim⟩
      rw [wi_le, en, et] at w
      refine ⟨mask, t, rfl, by omega, ?_⟩
      refine ⟨fun w1 => ?_, fun w1 => ?_⟩
      · have w1 : nb mask t = false := wb_i_0.mp w1
        refine ⟨n - (t + 1), by omega, c, t + 1, B, K, mv, kd, lst.symm, rfl, hA, hD1, hB1, hr, hX1, hv1, hc, hcx, by omega, fun u hu => ?_, rfl⟩
        by_cases e : u = t
        · subst e
          exact fun z => by have := z.1.1; rw [w1] at this; cases this
        · exact hno u (by omega)
      have w1 : nb mask t = true := wb_i_1.mp w1
      refine ⟨hD1.1, C + 76 + 5 * l, B, g l, K, 341, len, t, n, mv, v, rfl, hD1, hB1, hr.2.1, hr.2.2.1, hK65, hr.2.2.2.2.2.1, hr.2.2.2.2.2.2.1, hX1, by omega, by omega, by omega, fun k k1 k2 => ⟨hv1 k k2, hv64 k k2⟩, ?_⟩
      have hlt := df_run_lt hr.2.2.2.2.2.2.1 _ (kz_w (v := v) (i := t) (n - t) (fun k k1 k2 => hv64 k (by omega))) 0 hr.2.2.2.2.2.2.1.1
      have er := wi_on (n := df_run mv 0 (kz v t (n - t))) (by omega)
      refine ⟨fun w2 => ?_, fun w2 => ?_⟩
      · rw [wi_eq, er, ec] at w2
        refine ⟨n - (t + 1), by omega, c, t + 1, B, K, mv, kd, lst.symm, rfl, hA, hD1, hB1, hr, hX1, hv1, hc, hcx, by omega, fun u hu => ?_, rfl⟩
        by_cases e : u = t
        · subst e
          exact fun z => by have := z.1.2; omega
        · exact hno u (by omega)
      · rw [wi_eq, er, ec] at w2
        refine ⟨hD1.1, C + 76 + 5 * l, B, g l, K, 341, len, t, n, A l, mv, kd, v, rfl, hD1, hB1, hr, hX1, by omega, by omega, by omega, fun k k1 k2 => ⟨hv1 k k2, hv64 k k2⟩, fun b hb => ?_⟩
        refine ⟨fun w3 => ?_, fun w3 => ?_⟩
        · have w3 : b = true := wb_i_1.mp w3
          refine ⟨n - (t + 1), by omega, c, t + 1, B, K, mv, kd, lst.symm, rfl, hA, hD1, hB1, hr, hX1, hv1, hc, hcx, by omega, fun u hu => ?_, rfl⟩
          by_cases e : u = t
          · subst e
            exact fun z => z.2 (hb.mp w3)
          · exact hno u (by omega)
        · have w3 : b = false := wb_i_2.mp w3
          refine ⟨⟨rfl, rfl⟩, (h _ _ _ _ _ _ _ hA _ B K mv kd hr).2 c true hc hcx ⟨fun _ => ⟨t, by omega, ⟨w1, by omega⟩, fun z => ?_⟩, fun _ => rfl⟩⟩
          rw [hb.mpr z] at w3
          cases w3
    rw [if_neg p25] at hP
    cases hP
