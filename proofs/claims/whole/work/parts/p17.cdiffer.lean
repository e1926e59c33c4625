/-! ===== the class: differ ===== -/
/-- the free design: its signals are its inputs -/
def di_sg (n i : Nat) : Nat := if i < n then 2 * (i + 1) else 0
theorem di_b6 : ∀ (n : Fin 4) (x : Fin 8), x.1 < 2 ^ n.1 → dz_B (fun k => decide (k < n.1) && x.1.testBit k) 6 = x.1 := by decide
theorem di_let {n s x : Nat} (hn : n ≤ 3) (hx : x < 2 ^ n) : dz_let n 0 0 (fun _ => 0) (fun _ => false) (di_sg n) (fun _ => 0) (fun _ => 0) s x = x := by
  have h8 : x < 8 := Nat.lt_of_lt_of_le hx (dz_p3 hn)
  have h := di_b6 ⟨n, by omega⟩ ⟨x, h8⟩ hx
  refine Eq.trans (dz_B_c 6 (fun k hk => ?_)) h
  show dz_l (dz_0 n 0 s x) (di_sg n k) = (decide (k < n) && x.testBit k)
  unfold dz_l di_sg
  by_cases e : k < n
  · rw [if_pos e, decide_eq_true e, show 2 * (k + 1) / 2 = k + 1 by omega, show decide (2 * (k + 1) % 2 = 1) = false from decide_eq_false (by omega), Bool.xor_false, Bool.true_and]
    unfold dz_0
    rw [if_neg (by omega), if_pos (by omega), show k + 1 - 1 = k by omega]
  · rw [if_neg e, decide_eq_false e, Bool.false_and]
    rfl
theorem di_w {n t : Nat} {u : Nat → Nat} (hn : n ≤ 3) (hu : u t < 2 ^ n) : dz_w n 0 0 (fun _ => 0) (fun _ => false) (di_sg n) (fun _ => 0) (fun _ => 0) u t = u t := di_let hn hu
theorem di_V {n : Nat} (h1 : 1 ≤ n) (h3 : n ≤ 3) : dz_V n 0 0 (fun _ => 0) (fun _ => false) (di_sg n) (fun _ => 0) (fun _ => 0) := by
  refine ⟨h1, h3, by omega, by omega, fun i hi => by omega, fun i hi => ?_, fun i hi => by omega⟩
  unfold di_sg
  split <;> omega
/-- the free design is made -/
def di_J (nn : Nat) (I J : Nat → Nat → Int32) : Prop := J 0 17 = I 0 17 + Int32.ofInt 1 ∧ (∀ c j, ¬ (c = 0 ∧ j = 17) → ¬ (316 ≤ c ∧ c ≤ 321) → J c j = I c j) ∧ tw_N 316 nn 0 0 (fun _ => 0) (fun _ => false) (di_sg nn) (fun _ => 0) (fun _ => 0) J ∧ J 316 7 = 0
def di_l39 (ni ki : Int32) (l3 : Option Value) : List (Option Value) := [some (.ref 0), some (.int ni), some (.int ki), l3, none, none, none]
def di_h339 (ni ki : Int32) (n : Nat → Nat) (W : Nat → Nat → Nat) (T : wv_T) (N : Nat) (I : Nat → Nat → Int32) (L : Nat → Nat → Int64) (R : Nat → Nat → Option Nat) : Nat → Option (Nat → wv_P) := fun pc =>
  if pc = 50 then some (fun mm lv st T1 N1 I1 L1 R1 nc ns => ∃ (bb : Bool), lv = di_l39 ni ki none ∧ st = [.int (wb_i bb), .int ki, .int ni, .ref 0] ∧ T1 = T ∧ N1 = N ∧ R1 = R ∧ nc = 0 ∧ ns = 0 ∧ I1 = I ∧ L1 = L ∧ (bb = true ↔ cf_s (n 0) (W 0) (n 0) ∧ cf_s (n 1) (W 1) (n 1)) ∧ (1 ≤ ni.toInt ∧ ni.toInt ≤ 3) ∧ mm = 100)
  else if pc = 74 then some (fun mm lv st T1 N1 I1 L1 R1 nc ns => ∃ (bb : Bool) (nn k i : Nat), lv = di_l39 ni ki (some (.int (Int32.ofNat i))) ∧ st = [] ∧ T1 = T ∧ N1 = N ∧ L1 = L ∧ R1 = R ∧ nc = 0 ∧ ns = 0 ∧ (bb = true ↔ cf_s (n 0) (W 0) (n 0) ∧ cf_s (n 1) (W 1) (n 1)) ∧ di_ok (se_lm bb) ni ki nn k ∧ I 0 17 < Int32.ofInt 5 ∧ i ≤ 6 ∧ I1 0 17 = I 0 17 + Int32.ofInt 1 ∧ (∀ c j, ¬ (c = 0 ∧ j = 17) → ¬ (316 ≤ c ∧ c ≤ 321) → I1 c j = I c j) ∧ I1 316 8 = Int32.ofNat nn ∧ I1 316 9 = Int32.ofNat 0 ∧ I1 316 10 = Int32.ofNat 0 ∧ I1 316 7 = 0 ∧ (∀ j, j < i → I1 321 j = Int32.ofNat (di_sg nn j)) ∧ mm = 50 - i)
  else none
def di_c339 : wv_c1 := fun as T N I L R q => ∃ (ni ki : Int32) (B0 len0 : Nat) (Cp n : Nat → Nat) (W : Nat → Nat → Nat) (Pp : Nat → pd_P) (Sp : Nat → rn_N) (sqp : Nat → List Nat), as = [.ref 0, .int ni, .int ki] ∧ wd_D T R 316 ∧ (∃ k1, T 27 = some (.inr (k1 + 4, 2))) ∧ (∀ p, p < 2 → R 27 p = some (Cp p) ∧ pp_D T R (Cp p) ∧ I (Cp p) 9 = Int32.ofNat (n p) ∧ n p ≤ 67 ∧ ∀ k, k < n p → I (Cp p + 9 + k) 2 = Int32.ofNat (W p k) ∧ W p k < 2147483648) ∧ (∀ nn J, 1 ≤ nn → nn ≤ 3 → di_J nn I J → hu_p 333 B0 len0 316 (Cp 0) (Pp 0) (Sp 0) (sqp 0) (Cp 1) (Pp 1) (Sp 1) (sqp 1) nn 0 0 (fun _ => 0) (fun _ => false) (di_sg nn) (fun _ => 0) (fun _ => 0) T N J L R) ∧ ∀ bb : Bool, (bb = true ↔ cf_s (n 0) (W 0) (n 0) ∧ cf_s (n 1) (W 1) (n 1)) → ((¬ ∃ nn k, di_ok (se_lm bb) ni ki nn k) → q (.inr 0) T N I L R 1 6) ∧ ∀ nn k, di_ok (se_lm bb) ni ki nn k → (¬ I 0 17 < Int32.ofInt 5 → q (.inr 1) T N I L R 1 6) ∧ (I 0 17 < Int32.ofInt 5 → ∀ J, di_J nn I J → ∀ fd w T1 N1 I1 L1 R1 n1 s1, lo_O 333 B0 316 k (Cp 0) (Pp 0) (Sp 0) (sqp 0) (Cp 1) (Pp 1) (Sp 1) (sqp 1) nn 0 0 (fun _ => 0) (fun _ => false) (di_sg nn) (fun _ => 0) (fun _ => 0) T N J L R fd w T1 N1 I1 L1 R1 n1 s1 → q (.inl (some (.int (Int32.ofNat fd)))) T1 N1 I1 L1 R1 n1 s1)
set_option maxRecDepth 100000 in
theorem wM_339 : ∃ cb ci np, pt_mt 339 = some (1, cb, 4, false, some .int, ci, np) := ⟨_, _, _, rfl⟩
set_option maxRecDepth 100000 in
set_option maxHeartbeats 4000000 in
theorem di_cdiffer {sc : pt_Sc} {d : Nat} : wv_C wm_fx sc (d + 1 + 1 + 1 + 1 + 1 + 1 + 1) 339 di_c339 := by
  rintro as T N I L R q ⟨ni, ki, B0, len0, Cp, n, W, Pp, Sp, sqp, rfl, hD, t27, hR, hp, h⟩ w0 HR
  obtain ⟨cb, ci, np, hm⟩ := wM_339
  have hc227 : wv_C wm_fx sc (d + 1 + 1 + 1 + 1 + 1 + 1) 227 cf_c227 := wv_C_deep (by omega) (cf_isSmall (d := d))
  have hc321 : wv_C wm_fx sc (d + 1 + 1 + 1 + 1 + 1 + 1) 321 lo_c321 := wv_C_deep (by omega) (lo_checkLook (d := d))
  have hc58 : wv_C wm_fx sc (d + 1 + 1 + 1 + 1 + 1 + 1) 58 wd_c58 := wv_C_deep (by omega) (wd_reset (d := d))
  have hc76 : wv_C wm_fx sc (d + 1 + 1 + 1 + 1 + 1 + 1) 76 wd_c76 := wv_C_deep (by omega) (wd_setSignal (d := d))
  have hc322 : wv_C wm_fx sc (d + 1 + 1 + 1 + 1 + 1 + 1) 322 hu_c322 := wv_C_deep (by omega) (hu_seek (d := d))
  refine wv_meth (hh := none) rfl (sp := wv_sp [(227, cf_c227), (321, lo_c321), (58, wd_c58), (76, wd_c76), (322, hu_c322)]) (hd := di_h339 ni ki n W T N I L R) (n := 300) (n1 := 300) hm zc_339 rfl (wv_sp_ok (fun q hq => by
    rcases List.mem_cons.mp hq with h | h
    · rw [h]; exact hc227
    rcases List.mem_cons.mp h with h | h
    · rw [h]; exact hc321
    rcases List.mem_cons.mp h with h | h
    · rw [h]; exact hc58
    rcases List.mem_cons.mp h with h | h
    · rw [h]; exact hc76
    rw [List.mem_singleton.mp h]; exact hc322)) ?_ ?_ HR
  · have hex : ∃ bb : Bool, (bb = true ↔ cf_s (n 0) (W 0) (n 0) ∧ cf_s (n 1) (W 1) (n 1)) := by
      rcases Classical.em (cf_s (n 0) (W 0) (n 0) ∧ cf_s (n 1) (W 1) (n 1)) with z | z
      · exact ⟨true, fun _ => z, fun _ => rfl⟩
      · exact ⟨false, fun y => (by cases y), fun y => (z y).elim⟩

    obtain ⟨b0, hb0⟩ := hex
    have no : ¬ (1 ≤ ni.toInt ∧ ni.toInt ≤ 3) → ¬ ∃ nn k, di_ok (se_lm b0) ni ki nn k := fun hn ⟨nn, k, e1, e2, n1, n2, _⟩ => by
      rw [e1, wi_on (by omega)] at hn
      omega
    have o1 : (Int32.ofInt 1).toInt = 1 := rfl
    have o3 : (Int32.ofInt 3).toInt = 3 := rfl
    refine ⟨fun w1 => ?_, fun w1 => ?_⟩
    · have w1 : ni < Int32.ofInt 1 := w1
      rw [wi_lt, o1] at w1
      exact (h b0 hb0).1 (no (by omega))
    have w1 : ¬ ni < Int32.ofInt 1 := w1
    rw [wi_lt, o1] at w1
    refine ⟨fun w2 => ?_, fun w2 => ?_⟩
    rotate_left
    · have w2 : ¬ ni ≤ Int32.ofInt 3 := w2
      rw [wi_le, o3] at w2
      exact (h b0 hb0).1 (no (by omega))
    have w2 : ni ≤ Int32.ofInt 3 := w2
    rw [wi_le, o3] at w2
    obtain ⟨k1, t27⟩ := t27
    obtain ⟨q1, q2, q3, q4, q5⟩ := hR 0 (by omega)
    obtain ⟨p1, p2, p3, p4, p5⟩ := hR 1 (by omega)
    refine ⟨_, _, _, t27, ⟨by decide, by decide⟩, q1, ?_⟩
    refine ⟨q2.1, Cp 0, n 0, W 0, rfl, q2, q3, q4, q5, fun bb0 hbb0 => ?_⟩
    refine ⟨fun w3 => ?_, fun w3 => ?_⟩
    · have e0 := wb_i_0.mp w3
      refine ⟨100, false, rfl, rfl, rfl, rfl, rfl, rfl, rfl, rfl, rfl, ⟨fun z => (by cases z), fun z => ?_⟩, by omega, rfl⟩
      have := hbb0.mpr z.1
      rw [e0] at this
      cases this
    have e0 := wb_i_1.mp w3
    refine ⟨_, _, _, t27, ⟨by decide, by decide⟩, p1, ?_⟩
    refine ⟨p2.1, Cp 1, n 1, W 1, rfl, p2, p3, p4, p5, fun bb1 hbb1 => ?_⟩
    refine ⟨fun w4 => ?_, fun w4 => ?_⟩
    · have e1 := wb_i_0.mp w4
      refine ⟨100, false, rfl, rfl, rfl, rfl, rfl, rfl, rfl, rfl, rfl, ⟨fun z => (by cases z), fun z => ?_⟩, by omega, rfl⟩
      have := hbb1.mpr z.2
      rw [e1] at this
      cases this
    have e1 := wb_i_1.mp w4
    exact ⟨100, true, rfl, rfl, rfl, rfl, rfl, rfl, rfl, rfl, rfl, ⟨fun _ => ⟨hbb0.mp e0, hbb1.mp e1⟩, fun _ => rfl⟩, by omega, rfl⟩
  · intro pc P hP m lv st T1 N1 I1 L1 R1 nc ns hh
    unfold di_h339 at hP
    by_cases p50 : pc = 50
    · rw [if_pos p50] at hP
      cases hP
      subst p50
      obtain ⟨bb, rfl, rfl, rfl, rfl, rfl, rfl, rfl, rfl, rfl, hbb, hn13, rfl⟩ := hh
      obtain ⟨h1, h2⟩ := h bb hbb
      obtain ⟨nn, hnn, en⟩ : ∃ nn : Nat, (1 ≤ nn ∧ nn ≤ 3) ∧ ni = Int32.ofNat nn := ⟨ni.toInt.toNat, by omega, wi_eq.mpr (by rw [wi_on (by omega)]; omega)⟩
      refine ⟨nn, ki, bb, (by first | rfl | exact (by rw [en]; rfl)), hnn.1, hnn.2, fun z => ⟨Or.inl rfl, h1 (fun ⟨n2, k, e1, e2, _, m2, k1, k2, e3⟩ => z ⟨k, e2, k1, k2, ?_⟩)⟩, fun k hk => ?_⟩
      · have : n2 = nn := fd_on (by omega) (by omega) (e1.symm.trans en)
        rw [← this]
        exact e3
      have hdk : di_ok (se_lm bb) ni ki nn k := ⟨en, hk.1, hnn.1, hnn.2, hk.2.1, hk.2.2.1, hk.2.2.2⟩
      obtain ⟨h3, h4⟩ := h2 nn k hdk
      refine ⟨fun z => ⟨Or.inl rfl, h3 z⟩, fun z => ?_⟩
      refine ⟨hD.1, 316, ni, Int32.ofInt 0, rfl, hD, by decide, by decide, by decide, ?_⟩
      have g : ∀ c j, ¬ (316 ≤ c ∧ c ≤ 321) → wd_new 316 ni (Int32.ofInt 0) (wv_u I1 0 17 (I1 0 17 + Int32.ofInt 1)) c j = wv_u I1 0 17 (I1 0 17 + Int32.ofInt 1) c j := fun c j hc => by
        unfold wd_new
        rw [wv_u_no _ _ (by omega), hu_fill, if_neg (by omega)]
        show wd_0 316 ni (Int32.ofInt 0) _ c j = _
        unfold wd_0
        rw [wv_u_no _ _ (by omega), wv_u_no _ _ (by omega), wv_u_no _ _ (by omega)]
      refine ⟨50 - 0, by omega, bb, nn, k, 0, rfl, rfl, rfl, rfl, rfl, rfl, rfl, rfl, hbb, hdk, z, Nat.zero_le _, ?_, fun c j c1 c2 => ?_, ?_, ?_, ?_, ?_, fun j hj => by omega, rfl⟩
      · rw [g _ _ (by omega), wv_u_at]
      · rw [g _ _ c2, wv_u_no _ _ c1]
      · unfold wd_new
        rw [wv_u_no _ _ (by omega), hu_fill, if_neg (by omega)]
        show wd_0 316 ni (Int32.ofInt 0) _ 316 8 = _
        unfold wd_0
        rw [wv_u_no _ _ (by omega), wv_u_no _ _ (by omega), wv_u_at]
        exact en
      · unfold wd_new
        rw [wv_u_no _ _ (by omega), hu_fill, if_neg (by omega)]
        show wd_0 316 ni (Int32.ofInt 0) _ 316 9 = _
        unfold wd_0
        rw [wv_u_no _ _ (by omega), wv_u_at]
        rfl
      · unfold wd_new
        rw [wv_u_no _ _ (by omega), hu_fill, if_neg (by omega)]
        show wd_0 316 ni (Int32.ofInt 0) _ 316 10 = _
        unfold wd_0
        rw [wv_u_at]
        rfl
      · unfold wd_new
        rw [wv_u_at]
        rfl
    rw [if_neg p50] at hP
    by_cases p74 : pc = 74
    · rw [if_pos p74] at hP
      cases hP
      subst p74
      obtain ⟨bb, nn, k, i, rfl, rfl, rfl, rfl, rfl, rfl, rfl, rfl, hbb, hdk, h5, hi, h17, hfr, d8, d9, d10, d7, hsg, rfl⟩ := hh
      have ei := wi_on (n := i) (by omega)
      have ein := wi_onn (n := i) (by omega)
      have hn3 := hdk.2.2.2.1
      have en := hdk.1
      refine ⟨fun w1 => ?_, fun w1 => ?_⟩
      · have w1 : Int32.ofNat 6 ≤ Int32.ofNat i := w1
        rw [wi_le, wi_on (by omega), ei] at w1
        have e : i = 6 := by omega
        subst e
        have hJ : di_J nn I I1 := ⟨h17, hfr, ⟨d8, d9, d10, fun i hi => by omega, hsg, fun i hi => by omega⟩, d7⟩
        have hpu := hp nn I1 hdk.2.2.1 hn3 hJ
        obtain ⟨k1, t27⟩ := t27
        obtain ⟨q1, q2, _⟩ := hR 0 (by omega)
        obtain ⟨p1, p2, _⟩ := hR 1 (by omega)
        refine ⟨_, _, _, t27, ⟨by decide, by decide⟩, q1, ?_⟩
        refine ⟨_, _, _, t27, ⟨by decide, by decide⟩, p1, ?_⟩
        refine ⟨hpu.1.1.1, 333, B0, len0, 316, k, Cp 0, Pp 0, Sp 0, sqp 0, Cp 1, Pp 1, Sp 1, sqp 1, nn, 0, 0, fun _ => 0, fun _ => false, di_sg nn, fun _ => 0, fun _ => 0, (by first | rfl | exact (by rw [hdk.2.1]; rfl)), hdk.2.2.2.2.1, hdk.2.2.2.2.2.1, Nat.le_trans hdk.2.2.2.2.2.2 (se_lm_le _), hpu, fun B len T2 N2 Ip Lp R2 n1 s1 I2 L2 fd w x1 x2 x3 x4 x5 => ?_⟩
        have hq := (((h bb hbb).2 nn k hdk).2 h5) I1 hJ fd w T2 N2 I2 L2 R2 n1 s1 ⟨B, len, Ip, Lp, x1, x2, x3, x4, x5⟩
        rw [← Nat.zero_add n1, ← Nat.zero_add s1] at hq
        exact hq
      · have w1 : ¬ Int32.ofNat 6 ≤ Int32.ofNat i := w1
        rw [wi_le, wi_on (by omega), ei] at w1
        have step : ∀ y : Int32, y = Int32.ofNat (di_sg nn i) → ∀ mm0, mm0 = 50 - i → ∃ m1, m1 < mm0 ∧ ∃ (bb : Bool) (nn k i2 : Nat), di_l39 ni ki (some (.int (Int32.ofNat i + Int32.ofInt 1))) = di_l39 ni ki (some (.int (Int32.ofNat i2))) ∧ (bb = true ↔ cf_s (n 0) (W 0) (n 0) ∧ cf_s (n 1) (W 1) (n 1)) ∧ di_ok (se_lm bb) ni ki nn k ∧ I 0 17 < Int32.ofInt 5 ∧ i2 ≤ 6 ∧ wv_u (wv_u I1 321 i y) 316 7 (Int32.ofInt 0) 0 17 = I 0 17 + Int32.ofInt 1 ∧ (∀ c j, ¬ (c = 0 ∧ j = 17) → ¬ (316 ≤ c ∧ c ≤ 321) → wv_u (wv_u I1 321 i y) 316 7 (Int32.ofInt 0) c j = I c j) ∧ wv_u (wv_u I1 321 i y) 316 7 (Int32.ofInt 0) 316 8 = Int32.ofNat nn ∧ wv_u (wv_u I1 321 i y) 316 7 (Int32.ofInt 0) 316 9 = Int32.ofNat 0 ∧ wv_u (wv_u I1 321 i y) 316 7 (Int32.ofInt 0) 316 10 = Int32.ofNat 0 ∧ wv_u (wv_u I1 321 i y) 316 7 (Int32.ofInt 0) 316 7 = 0 ∧ (∀ j, j < i2 → wv_u (wv_u I1 321 i y) 316 7 (Int32.ofInt 0) 321 j = Int32.ofNat (di_sg nn j)) ∧ m1 = 50 - i2 := fun y hy mm0 hm0 => by
          refine ⟨50 - (i + 1), by omega, bb, nn, k, i + 1, by rw [wq_4s], hbb, hdk, h5, by omega, ?_, fun c j c1 c2 => ?_, ?_, ?_, ?_, ?_, fun j hj => ?_, rfl⟩
          · rw [wv_u_no _ _ (by omega), wv_u_no _ _ (by omega)]
            exact h17
          · rw [wv_u_no _ _ (by omega), wv_u_no _ _ (by omega)]
            exact hfr c j c1 c2
          · rw [wv_u_no _ _ (by omega), wv_u_no _ _ (by omega)]
            exact d8
          · rw [wv_u_no _ _ (by omega), wv_u_no _ _ (by omega)]
            exact d9
          · rw [wv_u_no _ _ (by omega), wv_u_no _ _ (by omega)]
            exact d10
          · rw [wv_u_at]
            rfl
          · rw [wv_u_no _ _ (by omega)]
            by_cases e : j = i
            · rw [e, wv_u_at]
              exact hy
            · rw [wv_u_no _ _ (fun z => e z.2)]
              exact hsg j (by omega)
        refine ⟨fun w2 => ?_, fun w2 => ?_⟩
        · have w2 : ni ≤ Int32.ofNat i := w2
          rw [en, wi_le, wi_on (by omega), ei] at w2
          refine ⟨hD.1, 316, Int32.ofNat i, Int32.ofInt 0, rfl, hD, by decide, pp_b (c := 6) (by omega) (by omega), ?_⟩
          rw [ein]
          obtain ⟨m1, y1, bb', nn', k', i2, y2, y3, y4, y5, y6, y7, y8, y9, y10, y11, y12, y13, y14⟩ := step (Int32.ofInt 0) (by unfold di_sg; rw [if_neg (by omega)]; rfl) _ rfl
          exact ⟨m1, y1, bb', nn', k', i2, y2, rfl, rfl, rfl, rfl, rfl, rfl, rfl, y3, y4, y5, y6, y7, y8, y9, y10, y11, y12, y13, y14⟩
        · have w2 : ¬ ni ≤ Int32.ofNat i := w2
          rw [en, wi_le, wi_on (by omega), ei] at w2
          have ev : Int32.ofInt 2 * (Int32.ofNat i + Int32.ofInt 1) = Int32.ofNat (di_sg nn i) := by
            unfold di_sg
            rw [wq_4s, tw_2, if_pos (by omega)]
          refine ⟨hD.1, 316, Int32.ofNat i, Int32.ofInt 2 * (Int32.ofNat i + Int32.ofInt 1), rfl, hD, by decide, pp_b (c := 6) (by omega) (by omega), ?_⟩
          rw [ein]
          obtain ⟨m1, y1, bb', nn', k', i2, y2, y3, y4, y5, y6, y7, y8, y9, y10, y11, y12, y13, y14⟩ := step _ ev _ rfl
          exact ⟨m1, y1, bb', nn', k', i2, y2, rfl, rfl, rfl, rfl, rfl, rfl, rfl, y3, y4, y5, y6, y7, y8, y9, y10, y11, y12, y13, y14⟩
    rw [if_neg p74] at hP
    cases hP
def wl_c338 : wv_c1 := fun as T N I L R q => ∃ (ni ki : Int32) (B0 len0 : Nat) (Cp n : Nat → Nat) (W : Nat → Nat → Nat) (Pp : Nat → pd_P) (Sp : Nat → rn_N) (sqp : Nat → List Nat), as = [.ref 0, .int ni, .int ki, .ref 536] ∧ T 536 = some (.inr (1, 1)) ∧ wd_D T R 316 ∧ (∃ k1, T 27 = some (.inr (k1 + 4, 2))) ∧ (∀ p, p < 2 → R 27 p = some (Cp p) ∧ pp_D T R (Cp p) ∧ I (Cp p) 9 = Int32.ofNat (n p) ∧ n p ≤ 67 ∧ ∀ k, k < n p → I (Cp p + 9 + k) 2 = Int32.ofNat (W p k) ∧ W p k < 2147483648) ∧ (∀ nn J, 1 ≤ nn → nn ≤ 3 → di_J nn I J → hu_p 333 B0 len0 316 (Cp 0) (Pp 0) (Sp 0) (sqp 0) (Cp 1) (Pp 1) (Sp 1) (sqp 1) nn 0 0 (fun _ => 0) (fun _ => false) (di_sg nn) (fun _ => 0) (fun _ => 0) T N J L R) ∧ ∀ bb : Bool, (bb = true ↔ cf_s (n 0) (W 0) (n 0) ∧ cf_s (n 1) (W 1) (n 1)) → ((¬ ∃ nn k, di_ok (se_lm bb) ni ki nn k) → q (.inl (some (.int 1))) T N I L R 1 6) ∧ ∀ nn k, di_ok (se_lm bb) ni ki nn k → (¬ I 0 17 < Int32.ofInt 5 → q (.inl (some (.int 2))) T N I L R 1 6) ∧ (I 0 17 < Int32.ofInt 5 → ∀ J, di_J nn I J → ∀ fd w T1 N1 I1 L1 R1 n1 s1, lo_O 333 B0 316 k (Cp 0) (Pp 0) (Sp 0) (sqp 0) (Cp 1) (Pp 1) (Sp 1) (sqp 1) nn 0 0 (fun _ => 0) (fun _ => false) (di_sg nn) (fun _ => 0) (fun _ => 0) T N J L R fd w T1 N1 I1 L1 R1 n1 s1 → q (.inl (some (.int 0))) T1 N1 I1 (wv_u L1 536 0 (Int32.ofNat fd).toInt64) R1 n1 s1)
set_option maxRecDepth 100000 in
theorem wM_338 : ∃ cb ci np, pt_mt 338 = some (0, cb, 5, false, some .int, ci, np) := ⟨_, _, _, rfl⟩
set_option maxRecDepth 100000 in
theorem wl_338 : wl_ok 338 5 [(0, 1), (1, 2)] = true := by decide +kernel
set_option maxRecDepth 100000 in
set_option maxHeartbeats 4000000 in
theorem wl_differ {sc : pt_Sc} {d : Nat} : wv_C wm_fx sc (d + 1 + 1 + 1 + 1 + 1 + 1 + 1 + 1) 338 wl_c338 := by
  rintro as T N I L R q ⟨ni, ki, B0, len0, Cp, n, W, Pp, Sp, sqp, rfl, h537, hD, t27, hR, hp, h⟩ w0 HR
  obtain ⟨cb, ci, np, hm⟩ := wM_338
  have hc339 : wv_C wm_fx sc (d + 1 + 1 + 1 + 1 + 1 + 1 + 1) 339 di_c339 := wv_C_deep (by omega) (di_cdiffer (d := d))
  refine wv_meth (hh := some (wl_f 5 [(0, 1), (1, 2)])) rfl (sp := wv_sp [(339, di_c339)]) (hd := fun _ => none) (n := 0) (n1 := 300) hm zc_338 (wl_HH hm wl_338) (wv_sp_ok (fun q hq => by rw [List.mem_singleton.mp hq]; exact hc339)) ?_ (fun pc P h => by cases h) HR
  refine ⟨ni, ki, B0, len0, Cp, n, W, Pp, Sp, sqp, rfl, hD, t27, hR, hp, fun bb hbb => ?_⟩
  obtain ⟨h1, h2⟩ := h bb hbb
  refine ⟨fun z => ⟨Or.inl rfl, h1 z⟩, fun nn k hk => ?_⟩
  obtain ⟨h3, h4⟩ := h2 nn k hk
  refine ⟨fun z => ⟨Or.inl rfl, h3 z⟩, fun z J hJ fd w T1 N1 I1 L1 R1 n1 s1 hO => ?_⟩
  have hq := h4 z J hJ fd w T1 N1 I1 L1 R1 n1 s1 hO
  rw [← Nat.zero_add n1, ← Nat.zero_add s1] at hq
  exact ⟨_, lo_T hO _ _ h537, ⟨by decide, by decide⟩, by decide, hq⟩
