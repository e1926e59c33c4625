/-! ===== the reference: classes of a sequence ===== -/
/-- the kind of a state -/
def rs_k (U : np_A) (x : rs_X) (k : Nat) : Prop := (k = 3 ∧ x.2 = true) ∨ (k = 2 ∧ ¬ x.2 = true ∧ rs_r U x) ∨ (k = 0 ∧ ¬ x.2 = true ∧ ¬ rs_r U x)
theorem rs_k_le {U : np_A} {x : rs_X} {k : Nat} (h : rs_k U x k) : k ≤ 3 := by
  rcases h with h | h | h <;> omega
/-- classes that are told -/
def rk_c (U : np_A) (K : Nat) (mv : Nat → Nat → Nat) (kd : Nat → Nat) : Prop := df_ok K mv ∧ df_bf K mv ∧ df_min K mv kd ∧ ∀ z, df_w z → ∃ x, rs_w U z z.length x ∧ rs_k U x (kd (df_run mv 0 z))
def rk_T (slot K : Nat) (mv : Nat → Nat → Nat) (kd : Nat → Nat) (I : Nat → Nat → Int32) : Prop := I 520 slot = Int32.ofNat K ∧ 0 < K ∧ K ≤ 65 ∧ (∀ c, c < K → I 521 (320 * slot + c) = Int32.ofNat (kd c) ∧ kd c ≤ 3) ∧ ∀ c v, c < K → v < 64 → I 522 (64 * (320 * slot + c) + v) = Int32.ofNat (mv c v)
theorem rk_320 (s c : Nat) : (Int16.ofInt 320).toInt32 * Int32.ofNat s + Int32.ofNat c = Int32.ofNat (320 * s + c) := by
  rw [show (Int16.ofInt 320).toInt32 = Int32.ofNat 320 from rfl, ← Int32.ofNat_mul, wi_ona]
theorem rk_mk {U : np_A} {cl : Nat → Nat} {Al : Nat → Prop} {ss : List rs_X} {tb : Nat → Nat → Nat} {kd gr : Nat → Nat} (hg : gx (rs_0 U) (rs_ev U cl Al) (rs_nx U) ss tb ss.length 0) (hk : ∀ i x, ss[i]? = some x → rs_k U x (kd i)) (h : kgr ss.length tb kd gr) (hs : df_st ss.length tb kd gr) : rk_c U (kn gr ss.length) (fun c v => kn gr (gr (tb (kf gr ss.length c) v))) (fun c => kd (kf gr ss.length c)) := by
  obtain ⟨f1, f2, f3⟩ := gx_fin hg
  obtain ⟨a1, a2, a3, a4⟩ := kq_all f1 f2 h hs
  refine ⟨a1, a2, a3, fun z hz => ?_⟩
  have a5 : kd (kf gr ss.length (df_run (fun c v => kn gr (gr (tb (kf gr ss.length c) v))) 0 z)) = kd (df_run tb 0 z) := a4 z hz
  obtain ⟨x, x1, x2⟩ := rs_run hg hz z.length (Nat.le_refl _)
  rw [List.take_length] at x1
  refine ⟨x, x2, ?_⟩
  show rs_k U x (kd (kf gr ss.length (df_run (fun c v => kn gr (gr (tb (kf gr ss.length c) v))) 0 z)))
  rw [a5]
  exact hk _ x x1
def rk_FI (slot : Nat) (I I1 : Nat → Nat → Int32) : Prop := ∀ c j, ¬ (508 ≤ c ∧ c ≤ 511) → ¬ c = 514 → ¬ (516 ≤ c ∧ c ≤ 519) → ¬ (c = 460 ∧ (j = 75 ∨ j = 88)) → ¬ (c = 520 ∧ j = slot) → ¬ (c = 521 ∧ 320 * slot ≤ j ∧ j < 320 * slot + 320) → ¬ (c = 522 ∧ 64 * (320 * slot) ≤ j ∧ j < 64 * (320 * slot + 320)) → I1 c j = I c j
def rk_FL (L L1 : Nat → Nat → Int64) : Prop := ∀ c j, ¬ (c = 506 ∨ c = 507 ∨ c = 512 ∨ c = 513 ∨ c = 515) → L1 c j = L c j
def rk_l (slot x n : Nat) (x4 x5 x6 x7 x8 : Option Value) : List (Option Value) := [some (.ref 460), some (.int (Int32.ofNat slot)), some (.int (Int32.ofNat x)), some (.int (Int32.ofNat n)), x4, x5, x6, x7, x8, none, none, none]
/-- what holds all along behind the search for states -/
def rk_H (c0 : Nat) (U : np_A) (cl : Nat → Nat) (Al : Nat → Prop) (ss : List rs_X) (tb : Nat → Nat → Nat) (n slot : Nat) (I : Nat → Nat → Int32) (L : Nat → Nat → Int64) (I1 : Nat → Nat → Int32) (L1 : Nat → Nat → Int64) : Prop := c0 = 0 ∧ gx (rs_0 U) (rs_ev U cl Al) (rs_nx U) ss tb ss.length 0 ∧ ss.length ≤ 65 ∧ rs_M ss I1 L1 ∧ rf_m ss.length tb I1 ∧ I1 460 75 = Int32.ofNat (np_n U) ∧ rs_U n U L1 ∧ rk_FI slot I I1 ∧ rk_FL L L1
def rk_h417 (c0 : Nat) (U : np_A) (cl : Nat → Nat) (Al : Nat → Prop) (slot x n : Nat) (T : wv_T) (N : Nat) (I : Nat → Nat → Int32) (L : Nat → Nat → Int64) (R : Nat → Nat → Option Nat) : Nat → Option (Nat → wv_P) := fun pc =>
  if pc = 30 then some (fun mm lv st T1 N1 I1 L1 R1 nc ns => ∃ (k : Nat) (ss : List rs_X) (tb : Nat → Nat → Nat) (kd : Nat → Nat), lv = rk_l slot x n (pb_i k) none none none none ∧ st = [] ∧ T1 = T ∧ N1 = N ∧ R1 = R ∧ nc = 0 ∧ ns = 0 ∧ rk_H c0 U cl Al ss tb n slot I L I1 L1 ∧ k ≤ ss.length ∧ (∀ i y, i < k → ss[i]? = some y → rs_k U y (kd i)) ∧ (∀ i, i < k → I1 518 i = Int32.ofNat (kd i) ∧ I1 521 (320 * slot + i) = Int32.ofNat (kd i)) ∧ mm = 100000 + 2 * (100 - k) + 1)
  else if pc = 85 then some (fun mm lv st T1 N1 I1 L1 R1 nc ns => ∃ (k : Nat) (ss : List rs_X) (tb : Nat → Nat → Nat) (kd : Nat → Nat), lv = rk_l slot x n (pb_i k) none none none none ∧ st = [] ∧ T1 = T ∧ N1 = N ∧ R1 = R ∧ nc = 0 ∧ ns = 0 ∧ rk_H c0 U cl Al ss tb n slot I L I1 L1 ∧ k < ss.length ∧ (∀ i y, i < k + 1 → ss[i]? = some y → rs_k U y (kd i)) ∧ (∀ i, i < k + 1 → I1 518 i = Int32.ofNat (kd i)) ∧ (∀ i, i < k → I1 521 (320 * slot + i) = Int32.ofNat (kd i)) ∧ mm = 100000 + 2 * (100 - k))
  else if pc = 120 then some (fun mm lv st T1 N1 I1 L1 R1 nc ns => ∃ (b : Nat) (ss : List rs_X) (tb : Nat → Nat → Nat) (kd gr : Nat → Nat), lv = rk_l slot x n (pb_i b) (pb_i (kn gr ss.length)) none none none ∧ st = [] ∧ T1 = T ∧ N1 = N ∧ R1 = R ∧ nc = 0 ∧ ns = 0 ∧ rk_H c0 U cl Al ss tb n slot I L I1 L1 ∧ (∀ i y, ss[i]? = some y → rs_k U y (kd i)) ∧ (∀ i, i < ss.length → I1 521 (320 * slot + i) = Int32.ofNat (kd i)) ∧ kgr ss.length tb kd gr ∧ rf_p ss.length (fun i => kn gr (gr i)) I1 ∧ b ≤ kn gr ss.length ∧ (b = kn gr ss.length → df_st ss.length tb kd gr) ∧ mm = 50000 - b)
  else if pc = 146 then some (fun mm lv st T1 N1 I1 L1 R1 nc ns => ∃ (k : Nat) (ss : List rs_X) (tb : Nat → Nat → Nat) (kd gr : Nat → Nat) (x4 x5 : Int32) (x8 : Option Value), lv = rk_l slot x n (some (.int x4)) (some (.int x5)) (pb_i (kn gr k)) (pb_i k) x8 ∧ st = [] ∧ T1 = T ∧ N1 = N ∧ R1 = R ∧ nc = 0 ∧ ns = 0 ∧ rk_H c0 U cl Al ss tb n slot I L I1 L1 ∧ (∀ i y, ss[i]? = some y → rs_k U y (kd i)) ∧ kgr ss.length tb kd gr ∧ df_st ss.length tb kd gr ∧ rf_p ss.length (fun i => kn gr (gr i)) I1 ∧ k ≤ ss.length ∧ (∀ i, k ≤ i → i < ss.length → I1 521 (320 * slot + i) = Int32.ofNat (kd i)) ∧ (∀ c, c < kn gr k → I1 521 (320 * slot + c) = Int32.ofNat (kd (kf gr ss.length c))) ∧ (∀ c v, c < kn gr k → v < 64 → I1 522 (64 * (320 * slot + c) + v) = Int32.ofNat (kn gr (gr (tb (kf gr ss.length c) v)))) ∧ mm = 100 * (100 - k) + 99)
  else if pc = 196 then some (fun mm lv st T1 N1 I1 L1 R1 nc ns => ∃ (k v : Nat) (ss : List rs_X) (tb : Nat → Nat → Nat) (kd gr : Nat → Nat) (x4 x5 : Int32), lv = rk_l slot x n (some (.int x4)) (some (.int x5)) (pb_i (kn gr k)) (pb_i k) (pb_i v) ∧ st = [] ∧ T1 = T ∧ N1 = N ∧ R1 = R ∧ nc = 0 ∧ ns = 0 ∧ rk_H c0 U cl Al ss tb n slot I L I1 L1 ∧ (∀ i y, ss[i]? = some y → rs_k U y (kd i)) ∧ kgr ss.length tb kd gr ∧ df_st ss.length tb kd gr ∧ rf_p ss.length (fun i => kn gr (gr i)) I1 ∧ k < ss.length ∧ gr k = k ∧ v ≤ 64 ∧ (∀ i, k < i → i < ss.length → I1 521 (320 * slot + i) = Int32.ofNat (kd i)) ∧ (∀ c, c < kn gr k + 1 → I1 521 (320 * slot + c) = Int32.ofNat (kd (kf gr ss.length c))) ∧ (∀ c u, c < kn gr k → u < 64 → I1 522 (64 * (320 * slot + c) + u) = Int32.ofNat (kn gr (gr (tb (kf gr ss.length c) u)))) ∧ (∀ u, u < v → I1 522 (64 * (320 * slot + kn gr k) + u) = Int32.ofNat (kn gr (gr (tb k u)))) ∧ mm = 100 * (100 - k) + (64 - v))
  else none
def rk_c417 : wv_c1 := fun as T N I L R q => ∃ (S : rn_N) (m0 slot x c0 : Nat) (lo : Nat → Nat) (U : Nat → np_A) (cl : Nat → Nat) (Al : Nat → Prop), as = [.ref 460, .int (Int32.ofNat slot), .int (Int32.ofNat x)] ∧ wm_T T ∧ slot < 8 ∧ I 520 slot = Int32.ofNat c0 ∧ c0 ≤ 320 ∧ (0 < c0 → q (.inl none) T N I L R 0 0) ∧ (c0 = 0 → pb_X T I S m0 ∧ I 460 37 = Int32.ofNat (rn_n S) ∧ pb_S S lo U x ∧ rs_cc (U x) cl Al ∧ ∀ K mv kd I1 L1, rk_c (U x) K mv kd → rk_T slot K mv kd I1 → rk_FI slot I I1 → rk_FL L L1 → q (.inl none) T N I1 L1 R 0 0)
theorem rk_H_u {c0 : Nat} {U : np_A} {cl : Nat → Nat} {Al : Nat → Prop} {ss : List rs_X} {tb : Nat → Nat → Nat} {n slot : Nat} {I : Nat → Nat → Int32} {L : Nat → Nat → Int64} {I1 I2 : Nat → Nat → Int32} {L1 : Nat → Nat → Int64} (h : rk_H c0 U cl Al ss tb n slot I L I1 L1) (hF : ∀ c j, ¬ c = 518 → ¬ c = 519 → ¬ (c = 520 ∧ j = slot) → ¬ (c = 521 ∧ 320 * slot ≤ j ∧ j < 320 * slot + 320) → ¬ (c = 522 ∧ 64 * (320 * slot) ≤ j ∧ j < 64 * (320 * slot + 320)) → I2 c j = I1 c j) : rk_H c0 U cl Al ss tb n slot I L I2 L1 := by
  obtain ⟨h0, h1, h2, h3, h4, h5, h6, h7, h8⟩ := h
  refine ⟨h0, h1, h2, ⟨?_, h3.2.1, fun j y hy => ?_⟩, fun c v hc hv => ?_, ?_, h6, fun c j z1 z2 z3 z4 z5 z6 z7 => ?_, h8⟩
  · rw [hF _ _ (by omega) (by omega) (by omega) (by omega) (by omega)]
    exact h3.1
  · rw [hF _ _ (by omega) (by omega) (by omega) (by omega) (by omega)]
    exact h3.2.2 j y hy
  · rw [hF _ _ (by omega) (by omega) (by omega) (by omega) (by omega)]
    exact h4 c v hc hv
  · rw [hF _ _ (by omega) (by omega) (by omega) (by omega) (by omega)]
    exact h5
  · rw [hF _ _ (by omega) (by omega) z5 z6 z7]
    exact h7 c j z1 z2 z3 z4 z5 z6 z7
set_option maxRecDepth 100000 in
theorem wM_417 : ∃ cb ci np, pt_mt 417 = some (32, cb, 9, false, none, ci, np) := ⟨_, _, _, rfl⟩
set_option maxRecDepth 100000 in
set_option maxHeartbeats 4000000 in
theorem rk_classify {sc : pt_Sc} {d : Nat} : wv_C wm_fx sc (d + 1 + 1 + 1 + 1 + 1 + 1) 417 rk_c417 := by
  rintro as T N I L R q ⟨S, m0, slot, x, c0, lo, U, cl, Al, rfl, hT, hslot, h520, hc0, hbuilt, hmake⟩ w0 HR
  obtain ⟨cb, ci, np, hm⟩ := wM_417
  have hc418 : wv_C wm_fx sc (d + 1 + 1 + 1 + 1 + 1) 418 pb_c418 := wv_C_deep (by omega) (pb_allPlaces (d := d))
  have hc428 : wv_C wm_fx sc (d + 1 + 1 + 1 + 1 + 1) 428 rs_c428 := wv_C_deep (by omega) (rs_allStates (d := d))
  have hc430 : wv_C wm_fx sc (d + 1 + 1 + 1 + 1 + 1) 430 rs_c430 := wv_C_deep (by omega) (rs_reaches (d := d))
  have hc431 : wv_C wm_fx sc (d + 1 + 1 + 1 + 1 + 1) 431 rf_c431 := wv_C_deep (by omega) (rf_refine (d := d))
  refine wv_meth (hh := none) rfl (sp := wv_sp [(418, pb_c418), (428, rs_c428), (430, rs_c430), (431, rf_c431)]) (hd := rk_h417 c0 (U x) cl Al slot x (x - lo x) T N I L R) (n := 300) (n1 := 300) hm zc_417 rfl (wv_sp_ok (fun q hq => by
    rcases List.mem_cons.mp hq with h | h
    · rw [h]; exact hc418
    rcases List.mem_cons.mp h with h | h
    · rw [h]; exact hc428
    rcases List.mem_cons.mp h with h | h
    · rw [h]; exact hc430
    rw [List.mem_singleton.mp h]; exact hc431)) ?_ ?_ HR
  · have esn := wi_onn (n := slot) (by omega)
    have ec0 := wi_on (n := c0) (by omega)
    refine ⟨_, wm_t hT rfl, pp_b (c := 8) (by omega) (by omega), ?_⟩
    rw [esn, h520]
    refine ⟨fun w => ?_, fun w => ?_⟩
    · have w : Int32.ofNat c0 ≤ 0 := w
      rw [wi_le, ec0, wi_0] at w
      obtain ⟨hX, h37, hS, hcc, h⟩ := hmake (by omega)
      have hS2 := hS
      obtain ⟨hx, hr, hi, hN, hU, hsz, h60, h42⟩ := hS2
      have hlx := (hN x hx hr).1
      have hn5 := hX.2.1
      have exn := wi_onn (n := x) (by omega)
      refine ⟨S, m0, x, lo, U, rfl, hX, h37, hS, fun I1 L1 k1 k2 k3 k4 k5 => ?_⟩
      refine ⟨_, wm_t hT rfl, pp_b (c := 800) (by omega) (by omega), ?_⟩
      rw [exn, k3]
      refine ⟨U x, cl, Al, x - lo x, rfl, hT, by omega, k1, k2, h60, hcc, fun ss tb I2 L2 g1 g2 g3 g4 g5 g6 => ?_⟩
      have hUx := rs_U_of k1
      refine ⟨100000 + 2 * (100 - 0) + 1, 0, ss, tb, fun _ => 0, rfl, rfl, rfl, rfl, rfl, rfl, rfl, ⟨by omega, g1, g3, g2, g4, ?_, ?_, fun c j z1 z2 z3 z4 z5 z6 z7 => ?_, fun c j z => ?_⟩, Nat.zero_le _, fun i y hi => by omega, fun i hi => by omega, rfl⟩
      · rw [g5 _ _ (by omega) (by omega) (by omega)]
        exact k2
      · obtain ⟨u1, u2, u3⟩ := hUx
        refine ⟨fun p hp => ?_, ?_, ?_⟩
        · rw [g6 _ _ (by omega), g6 _ _ (by omega)]
          exact u1 p hp
        · rw [g6 _ _ (by omega)]
          exact u2
        · rw [g6 _ _ (by omega)]
          exact u3
      · rw [g5 _ _ (by omega) (by omega) (by omega)]
        exact k4 c j (by omega) (by omega)
      · rw [g6 _ _ (by omega)]
        exact k5 c j (by omega)
    · have w : ¬ Int32.ofNat c0 ≤ 0 := w
      rw [wi_le, ec0, wi_0] at w
      exact hbuilt (by omega)
  · intro pc P hP m lv st T1 N1 I1 L1 R1 nc ns hh
    have esn := wi_onn (n := slot) (by omega)
    have e64 : ((Int8.ofInt 64).toInt32).toInt = 64 := rfl
    unfold rk_h417 at hP
    by_cases p30 : pc = 30
    · rw [if_pos p30] at hP
      cases hP
      subst p30
      obtain ⟨k, ss, tb, kd, rfl, rfl, rfl, rfl, rfl, rfl, rfl, hH, hk, hkd, hmm, rfl⟩ := hh
      have hH2 := hH
      obtain ⟨h0, h1, h2, h3, h4, h5, h6, h7, h8⟩ := hH
      obtain ⟨hX, h37, ⟨hx, hr, hi, hN, hU, hsz, h60, h42⟩, hcc, h⟩ := hmake h0
      have ek := wi_on (n := k) (by omega)
      have ekn := wi_onn (n := k) (by omega)
      have el := wi_on (n := ss.length) (by omega)
      have hlx := (hN x hx hr).1
      refine ⟨fun w => ?_, fun w => ?_⟩
      · rw [h3.1, wi_le, el, ek] at w
        have e : k = ss.length := by omega
        subst e
        have hkd2 : ∀ i y, ss[i]? = some y → rs_k (U x) y (kd i) := fun i y hy => hkd i y (List.getElem?_eq_some_iff.mp hy).1 hy
        have ho := (gx_fin h1).1
        refine ⟨ss.length, tb, kd, rfl, hT, h3.1, h2, ho, h4, fun c hc => ⟨(hmm c hc).1, ?_⟩, fun gr I2 g1 g2 g3 => ?_⟩
        · obtain ⟨y, hy⟩ : ∃ y, ss[c]? = some y := ⟨_, List.getElem?_eq_getElem hc⟩
          have := rs_k_le (hkd c y hc hy)
          omega
        · have hg := rf_first ho g1
          have hpos : 0 < kn gr ss.length := by
            have g0 := (hg.1 0 ho.1).1
            have := kn_lt (gr := gr) (x := 0) (y := ss.length) (by omega) ho.1
            omega
          exact ⟨50000 - 0, by omega, 0, ss, tb, kd, gr, rfl, rfl, rfl, rfl, rfl, rfl, rfl, rk_H_u hH2 (fun c j z1 z2 _ _ _ => g3 c j z2 z1), hkd2, fun i hi => by
            rw [g3 _ _ (by omega) (by omega)]
            exact (hmm i hi).2, hg, g2, Nat.zero_le _, fun z => by omega, rfl⟩
      · rw [h3.1, wi_le, el, ek] at w
        have hkl : k < ss.length := by omega
        obtain ⟨y, hy⟩ : ∃ y, ss[k]? = some y := ⟨_, List.getElem?_eq_getElem hkl⟩
        obtain ⟨y1, y2⟩ := h3.2.2 k y hy
        have key : ∀ kv : Nat, rs_k (U x) y kv → rk_H c0 (U x) cl Al ss tb (x - lo x) slot I L (wv_u I1 518 k (Int32.ofNat kv)) L1 ∧ (∀ i z, i < k + 1 → ss[i]? = some z → rs_k (U x) z (po_u kd k kv i)) ∧ (∀ i, i < k + 1 → wv_u I1 518 k (Int32.ofNat kv) 518 i = Int32.ofNat (po_u kd k kv i)) ∧ (∀ i, i < k → wv_u I1 518 k (Int32.ofNat kv) 521 (320 * slot + i) = Int32.ofNat (po_u kd k kv i)) := fun kv hkv => by
          refine ⟨rk_H_u hH2 (fun c j z1 _ _ _ _ => wv_u_no _ _ (fun z => z1 z.1)), fun i z hi hz => ?_, fun i hi => ?_, fun i hi => ?_⟩
          · by_cases e : i = k
            · subst e
              rw [hy] at hz
              cases hz
              rw [po_u_at]
              exact hkv
            · rw [po_u_no e]
              exact hkd i z (by omega) hz
          · by_cases e : i = k
            · subst e
              rw [wv_u_at, po_u_at]
            · rw [wv_u_no _ _ (by omega), po_u_no e]
              exact (hmm i (by omega)).1
          · rw [wv_u_no _ _ (by omega), po_u_no (by omega)]
            exact (hmm i hi).2
        refine ⟨2, _, Or.inl rfl, wm_t hT rfl, pp_b (c := 320) (by omega) (by omega), ?_⟩
        rw [ekn, y2]
        refine ⟨fun w1 => ?_, fun w1 => ?_⟩
        · have w1 : y.2 = false := wb_i_2.mp (fun z => z w1)
          have w1n : ¬ y.2 = true := by rw [w1]; decide
          obtain ⟨u1, u2, u3⟩ := h6
          have exn := wi_onn (n := x - lo x) (by omega)
          refine ⟨_, wm_t hT rfl, pp_b (c := 320) (by omega) (by omega), ?_⟩
          refine ⟨_, wm_t hT rfl, pp_b (c := 200) (by omega) (by omega), ?_⟩
          rw [ekn, exn, y1]
          refine ⟨U x, y.1, L1 513 (x - lo x), rfl, hT, h5, h60, fun p hp => (u1 p hp).2, ?_, u3, fun b hb => ?_⟩
          · intro q2 hq2 hb2
            have hev := h1.2.2.1 y (List.mem_iff_getElem?.mpr ⟨k, hy⟩)
            exact (hcc.1 q2 (hev.1 q2 hq2 hb2)).1
          · have hb : b = true ↔ rs_r (U x) y := hb
            refine ⟨fun w2 => ?_, fun w2 => ?_⟩
            · have w2 : b = false := wb_i_2.mp (fun z => z w2)
              refine ⟨_, wm_t hT rfl, pp_b (c := 320) (by omega) (by omega), by decide, ?_⟩
              rw [ekn]
              obtain ⟨q1, q2, q3, q4⟩ := key 0 (Or.inr (Or.inr ⟨rfl, w1n, fun z => by rw [hb.mpr z] at w2; cases w2⟩))
              exact ⟨100000 + 2 * (100 - k), by omega, k, ss, tb, po_u kd k 0, rfl, rfl, rfl, rfl, rfl, rfl, rfl, q1, hkl, q2, q3, q4, rfl⟩
            · have w2 : b = true := wb_i_1.mp w2
              refine ⟨_, wm_t hT rfl, pp_b (c := 320) (by omega) (by omega), by decide, ?_⟩
              rw [ekn]
              obtain ⟨q1, q2, q3, q4⟩ := key 2 (Or.inr (Or.inl ⟨rfl, w1n, hb.mp w2⟩))
              exact ⟨100000 + 2 * (100 - k), by omega, k, ss, tb, po_u kd k 2, rfl, rfl, rfl, rfl, rfl, rfl, rfl, q1, hkl, q2, q3, q4, rfl⟩
        · have w1 : y.2 = true := wb_i_1.mp w1
          refine ⟨_, wm_t hT rfl, pp_b (c := 320) (by omega) (by omega), by decide, ?_⟩
          rw [ekn]
          obtain ⟨q1, q2, q3, q4⟩ := key 3 (Or.inl ⟨rfl, w1⟩)
          exact ⟨100000 + 2 * (100 - k), by omega, k, ss, tb, po_u kd k 3, rfl, rfl, rfl, rfl, rfl, rfl, rfl, q1, hkl, q2, q3, q4, rfl⟩
    rw [if_neg p30] at hP
    by_cases p85 : pc = 85
    · rw [if_pos p85] at hP
      cases hP
      subst p85
      obtain ⟨k, ss, tb, kd, rfl, rfl, rfl, rfl, rfl, rfl, rfl, hH, hk, hkd, hm1, hm2, rfl⟩ := hh
      have h2 := hH.2.2.1
      have ekn := wi_onn (n := k) (by omega)
      have exn := wi_onn (n := 320 * slot + k) (by omega)
      refine ⟨_, wm_t hT rfl, pp_b (c := 320) (by omega) (by omega), ?_⟩
      rw [ekn, hm1 k (by omega)]
      refine ⟨_, wm_t hT rfl, by rw [rk_320]; exact pp_b (c := 2560) (by omega) (by omega), by decide, ?_⟩
      rw [rk_320, exn]
      refine ⟨100000 + 2 * (100 - (k + 1)) + 1, by omega, k + 1, ss, tb, kd, ?_, rfl, rfl, rfl, rfl, rfl, rfl, rk_H_u hH (fun c j _ _ _ z _ => wv_u_no _ _ (by omega)), by omega, hkd, fun i hi => ⟨?_, ?_⟩, rfl⟩
      · unfold rk_l pb_i
        rw [← wq_4s k]
        rfl
      · rw [wv_u_no _ _ (by omega)]
        exact hm1 i hi
      · by_cases e : i = k
        · subst e
          rw [wv_u_at]
        · rw [wv_u_no _ _ (by omega)]
          exact hm2 i (by omega)
    rw [if_neg p85] at hP
    by_cases p120 : pc = 120
    · rw [if_pos p120] at hP
      cases hP
      subst p120
      obtain ⟨b, ss, tb, kd, gr, rfl, rfl, rfl, rfl, rfl, rfl, rfl, hH, hkd, hm1, hg, hrp, hb, hst, rfl⟩ := hh
      have hH2 := hH
      obtain ⟨h0, h1, h2, h3, h4, h5, h6, h7, h8⟩ := hH
      have ho := (gx_fin h1).1
      have hkn := kn_b (gr := gr) ss.length
      have eb := wi_on (n := b) (by omega)
      have ekn := wi_on (n := kn gr ss.length) (by omega)
      refine ⟨fun w => ?_, fun w => ?_⟩
      · rw [wi_eq, ekn, eb] at w
        have hs := hst (by omega)
        exact ⟨100 * (100 - 0) + 99, by omega, 0, ss, tb, kd, gr, _, _, _, rfl, rfl, rfl, rfl, rfl, rfl, rfl, hH2, hkd, hg, hs, hrp, Nat.zero_le _, fun i _ hi => hm1 i hi, fun c hc => absurd hc (Nat.not_lt_zero _), fun c v hc => absurd hc (Nat.not_lt_zero _), rfl⟩
      · rw [wi_eq, ekn, eb] at w
        refine ⟨ss.length, tb, fun i => kn gr (gr i), rfl, hT, h3.1, h2, ho, h4, hrp, fun gr2 I2 g1 g2 g3 => ?_⟩
        have g4 := rf_next ho hg g1
        have hg2 := kgr_1 ho hg g4
        obtain ⟨m1, m2⟩ := rf_more hg g4
        exact ⟨50000 - kn gr ss.length, by omega, kn gr ss.length, ss, tb, kd, gr2, rfl, rfl, rfl, rfl, rfl, rfl, rfl, rk_H_u hH2 (fun c j z1 z2 _ _ _ => g3 c j z2 z1), hkd, fun i hi => by
          rw [g3 _ _ (by omega) (by omega)]
          exact hm1 i hi, hg2, g2, m1, fun z => kgr_st ho hg g4 (m2 z.symm), rfl⟩
    rw [if_neg p120] at hP
    by_cases p146 : pc = 146
    · rw [if_pos p146] at hP
      cases hP
      subst p146
      obtain ⟨k, ss, tb, kd, gr, x4, x5, x8, rfl, rfl, rfl, rfl, rfl, rfl, rfl, hH, hkd, hg, hs, hrp, hk, hm1, hm2, hm3, rfl⟩ := hh
      have hH2 := hH
      obtain ⟨h0, h1, h2, h3, h4, h5, h6, h7, h8⟩ := hH
      obtain ⟨hX, h37, _, hcc, h⟩ := hmake h0
      have hkn := kn_b (gr := gr) k
      have ek := wi_on (n := k) (by omega)
      have ekn := wi_onn (n := k) (by omega)
      have el := wi_on (n := ss.length) (by omega)
      have ho := (gx_fin h1).1
      refine ⟨fun w => ?_, fun w => ?_⟩
      · rw [h3.1, wi_le, el, ek] at w
        have e : k = ss.length := by omega
        subst e
        refine ⟨_, wm_t hT rfl, pp_b (c := 8) (by omega) (by omega), by decide, ?_⟩
        rw [esn]
        refine h (kn gr ss.length) (fun c v => kn gr (gr (tb (kf gr ss.length c) v))) (fun c => kd (kf gr ss.length c)) _ _ (rk_mk h1 hkd hg hs) ⟨wv_u_at _ _ _ _, ?_, by omega, fun c hc => ⟨?_, ?_⟩, fun c v hc hv => ?_⟩ (fun c j z1 z2 z3 z4 z5 z6 z7 => ?_) h8
        · have g0 := (hg.1 0 ho.1).1
          have := kn_lt (gr := gr) (x := 0) (y := ss.length) (by omega) ho.1
          omega
        · rw [wv_u_no _ _ (by omega)]
          exact hm2 c hc
        · obtain ⟨f1, f2, f3⟩ := kf_at ss.length c hc
          obtain ⟨y, hy⟩ : ∃ y, ss[kf gr ss.length c]? = some y := ⟨_, List.getElem?_eq_getElem f1⟩
          exact rs_k_le (hkd _ y hy)
        · rw [wv_u_no _ _ (by omega)]
          exact hm3 c v hc hv
        · rw [wv_u_no _ _ (by omega)]
          exact h7 c j z1 z2 z3 z4 z5 z6 z7
      · rw [h3.1, wi_le, el, ek] at w
        have hkl : k < ss.length := by omega
        obtain ⟨r1, r2⟩ := hrp k hkl
        obtain ⟨g1, g2⟩ := hg.1 k hkl
        have hkn2 := kn_b (gr := gr) (gr k)
        have e1 := wi_on (n := kn gr (gr k)) (by omega)
        have e2 := wi_on (n := kn gr k) (by omega)
        refine ⟨_, wm_t hT rfl, pp_b (c := 320) (by omega) (by omega), ?_⟩
        rw [ekn, r1]
        refine ⟨fun w1 => ?_, fun w1 => ?_⟩
        · have w1 : ¬ Int32.ofNat (kn gr (gr k)) = Int32.ofNat (kn gr k) := w1
          have hne : ¬ gr k = k := fun z => by
            rw [z] at w1
            exact w1 rfl
          have e3 := kn_n hne
          refine ⟨100 * (100 - (k + 1)) + 99, by omega, k + 1, ss, tb, kd, gr, x4, x5, x8, ?_, rfl, rfl, rfl, rfl, rfl, rfl, hH2, hkd, hg, hs, hrp, by omega, fun i h1 h2 => hm1 i (by omega) h2, fun c hc => hm2 c (by omega), fun c v hc hv => hm3 c v (by omega) hv, rfl⟩
          unfold rk_l pb_i
          rw [e3, ← wq_4s k]
          rfl
        · have w1 : ¬ ¬ Int32.ofNat (kn gr (gr k)) = Int32.ofNat (kn gr k) := w1
          rw [wi_eq, e1, e2] at w1
          have hfk : gr k = k := by
            rcases Nat.lt_or_ge (gr k) k with z | z
            · have := kn_lt g2 z
              omega
            · omega
          have ekf := kf_of hkl hfk
          have exn := wi_onn (n := 320 * slot + k) (by omega)
          have exm := wi_onn (n := 320 * slot + kn gr k) (by omega)
          refine ⟨_, wm_t hT rfl, by rw [rk_320]; exact pp_b (c := 2560) (by omega) (by omega), ?_⟩
          rw [rk_320, exn, hm1 k (Nat.le_refl _) hkl]
          refine ⟨_, wm_t hT rfl, by rw [rk_320]; exact pp_b (c := 2560) (by omega) (by omega), by decide, ?_⟩
          rw [rk_320, exm]
          refine ⟨100 * (100 - k) + (64 - 0), by omega, k, 0, ss, tb, kd, gr, x4, x5, rfl, rfl, rfl, rfl, rfl, rfl, rfl, rk_H_u hH2 (fun c j _ _ _ z _ => wv_u_no _ _ (by omega)), hkd, hg, hs, fun c hc => ?_, hkl, hfk, Nat.zero_le _, fun i i1 i2 => ?_, fun c hc => ?_, fun c u hc hu => ?_, fun u hu => by omega, rfl⟩
          · rw [wv_u_no _ _ (by omega)]
            exact hrp c hc
          · rw [wv_u_no _ _ (by omega)]
            exact hm1 i (by omega) i2
          · by_cases e : c = kn gr k
            · subst e
              rw [wv_u_at, ekf]
            · rw [wv_u_no _ _ (by omega)]
              exact hm2 c (by omega)
          · rw [wv_u_no _ _ (by omega)]
            exact hm3 c u hc hu
    rw [if_neg p146] at hP
    by_cases p196 : pc = 196
    · rw [if_pos p196] at hP
      cases hP
      subst p196
      obtain ⟨k, v, ss, tb, kd, gr, x4, x5, rfl, rfl, rfl, rfl, rfl, rfl, rfl, hH, hkd, hg, hs, hrp, hk, hfk, hv, hm1, hm2, hm3, hm4, rfl⟩ := hh
      have hH2 := hH
      obtain ⟨h0, h1, h2, h3, h4, h5, h6, h7, h8⟩ := hH
      have hkn := kn_b (gr := gr) k
      have ev := wi_on (n := v) (by omega)
      have ekf := kf_of hk hfk
      have e3 := kn_y hfk
      have ho := (gx_fin h1).1
      refine ⟨fun w => ?_, fun w => ?_⟩
      · rw [wi_le, e64, ev] at w
        have e : v = 64 := by omega
        subst e
        refine ⟨100 * (100 - (k + 1)) + 99, by omega, k + 1, ss, tb, kd, gr, x4, x5, pb_i 64, ?_, rfl, rfl, rfl, rfl, rfl, rfl, hH2, hkd, hg, hs, hrp, by omega, fun i i1 i2 => hm1 i (by omega) i2, fun c hc => hm2 c (by omega), fun c u hc hu => ?_, rfl⟩
        · unfold rk_l pb_i
          rw [e3, ← wq_4s k, ← wq_4s (kn gr k)]
          rfl
        · by_cases e : c = kn gr k
          · subst e
            rw [ekf]
            exact hm4 u hu
          · exact hm3 c u (by omega) hu
      · rw [wi_le, e64, ev] at w
        have hv6 : v < 64 := by omega
        have m1 := h4 k v hk hv6
        have a1 := ho.2 k hk v hv6
        obtain ⟨r1, r2⟩ := hrp _ a1
        have x1 := wi_onn (n := 64 * k + v) (by omega)
        have x2 := wi_onn (n := tb k v) (by omega)
        have x3 := wi_onn (n := 64 * (320 * slot + kn gr k) + v) (by omega)
        refine ⟨_, wm_t hT rfl, by rw [rs_64]; exact pp_b (c := 20480) (by omega) (by omega), ?_⟩
        rw [rs_64, x1, m1]
        refine ⟨_, wm_t hT rfl, pp_b (c := 320) (by omega) (by omega), ?_⟩
        rw [x2, r1]
        refine ⟨_, wm_t hT rfl, by rw [rk_320, rs_64]; exact pp_b (c := 163840) (by omega) (by omega), by decide, ?_⟩
        rw [rk_320, rs_64, x3]
        refine ⟨100 * (100 - k) + (64 - (v + 1)), by omega, k, v + 1, ss, tb, kd, gr, x4, x5, ?_, rfl, rfl, rfl, rfl, rfl, rfl, rk_H_u hH2 (fun c j _ _ _ _ z => wv_u_no _ _ (by omega)), hkd, hg, hs, fun c hc => ?_, hk, hfk, by omega, fun i i1 i2 => ?_, fun c hc => ?_, fun c u hc hu => ?_, fun u hu => ?_, rfl⟩
        · unfold rk_l pb_i
          rw [← wq_4s v]
          rfl
        · rw [wv_u_no _ _ (by omega)]
          exact hrp c hc
        · rw [wv_u_no _ _ (by omega)]
          exact hm1 i i1 i2
        · rw [wv_u_no _ _ (by omega)]
          exact hm2 c hc
        · rw [wv_u_no _ _ (by omega)]
          exact hm3 c u hc hu
        · by_cases e : u = v
          · subst e
            rw [wv_u_at]
          · rw [wv_u_no _ _ (by omega)]
            exact hm4 u (by omega)
    rw [if_neg p196] at hP
    cases hP
