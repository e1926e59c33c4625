/-! ===== the reference: what fails ===== -/
/-- what is written down as failing -/
def mr_f (I : Nat → Nat → Int32) (n i : Nat) : Bool := !decide (I 495 (26 * n + i) = 0)
theorem mr_iz {n i : Nat} (hn : n < 800) (hi : i < 1000) : (Int8.ofInt 26).toInt32 * Int32.ofNat n + Int32.ofNat i = Int32.ofNat (26 * n + i) := by
  have e1 : (Int8.ofInt 26).toInt32 * Int32.ofNat n = Int32.ofNat (26 * n) := wq_mu (a := 26) (by omega) (by omega) (by omega)
  rw [e1, wq_ad (by omega)]
def mr_c405 : wv_c1 := fun as T N I L R q => ∃ n i lk : Nat, as = [.ref 460, .int (Int32.ofNat n), .int (Int32.ofNat i)] ∧ wm_T T ∧ I 460 49 = Int32.ofNat lk ∧ lk ≤ 24 ∧ n < 800 ∧ i < 1000 ∧ q (.inl (some (.int (wb_i (decide (i < lk) && mr_f I n i))))) T N I L R 0 0
set_option maxRecDepth 100000 in
theorem wM_405 : ∃ cb ci np, pt_mt 405 = some (32, cb, 3, false, some .boolean, ci, np) := ⟨_, _, _, rfl⟩
set_option maxRecDepth 100000 in
set_option maxHeartbeats 4000000 in
theorem mr_failsAt {sc : pt_Sc} {d : Nat} : wv_C wm_fx sc (d + 1) 405 mr_c405 := by
  rintro as T N I L R q ⟨n, i, lk, rfl, hT, h49, hlk, hn, hi, h⟩ w0 HR
  obtain ⟨cb, ci, np, hm⟩ := wM_405
  refine wv_meth (hh := none) rfl (sp := fun _ _ _ _ _ _ _ _ => False) (hd := fun _ => none) (n := 0) (n1 := 300) hm zc_405 rfl (fun k as T N I L R q h => by cases h) ?_ (fun pc P h => by cases h) HR
  have ei := wi_on (n := i) (by omega)
  have el := wi_on (n := lk) (by omega)
  refine ⟨fun w => ⟨⟨rfl, rfl⟩, ?_⟩, fun w => ?_⟩
  · rw [h49, wi_le, ei, el] at w
    rw [decide_eq_false (by omega), Bool.false_and] at h
    exact h
  rw [h49, wi_le, ei, el] at w
  have e1 := mr_iz hn hi
  have n1 := wi_onn (n := 26 * n + i) (by omega)
  refine ⟨2, _, Or.inl rfl, wm_t hT rfl, by rw [e1]; exact pp_b (c := 20800) (by omega) (by omega), ?_⟩
  rw [decide_eq_true (by omega), Bool.true_and] at h
  unfold mr_f at h
  refine ⟨fun w2 => ⟨⟨rfl, rfl⟩, ?_⟩, fun w2 => ⟨⟨rfl, rfl⟩, ?_⟩⟩
  · rw [e1, n1] at w2
    have w2 : I 495 (26 * n + i) = 0 := w2
    rw [decide_eq_true w2] at h
    exact h
  · rw [e1, n1] at w2
    have w2 : ¬ I 495 (26 * n + i) = 0 := w2
    rw [decide_eq_false w2] at h
    exact h
def mr_c406 : wv_c1 := fun as T N I L R q => ∃ (S : rn_N) (m0 lk wd n i : Nat) (v : Nat → Nat), as = [.ref 460, .int (Int32.ofNat n), .int (Int32.ofNat i)] ∧ mr_X T I S m0 lk wd v ∧ n < rn_n S ∧ rn_k S n = 60 ∧ i < lk ∧ q (.inl (some (.int (wb_i (rn_h S n (v i)))))) T N I L R 0 0
set_option maxRecDepth 100000 in
theorem wM_406 : ∃ cb ci np, pt_mt 406 = some (32, cb, 3, false, some .boolean, ci, np) := ⟨_, _, _, rfl⟩
set_option maxRecDepth 100000 in
set_option maxHeartbeats 4000000 in
theorem mr_letterHolds {sc : pt_Sc} {d : Nat} : wv_C wm_fx sc (d + 1 + 1) 406 mr_c406 := by
  rintro as T N I L R q ⟨S, m0, lk, wd, n, i, v, rfl, hX, hn, hk, hi, h⟩ w0 HR
  obtain ⟨cb, ci, np, hm⟩ := wM_406
  have hc386 : wv_C wm_fx sc (d + 1) 386 mr_c386 := wv_C_deep (by omega) (mr_holds (d := d))
  refine wv_meth (hh := none) rfl (sp := wv_sp [(386, mr_c386)]) (hd := fun _ => none) (n := 0) (n1 := 300) hm zc_406 rfl (wv_sp_ok (fun q hq => by rw [List.mem_singleton.mp hq]; exact hc386)) ?_ (fun pc P h => by cases h) HR
  have hlk := hX.2.2.2.1
  have ei := wi_on (n := i) (by omega)
  have el := wi_on (n := lk) (by omega)
  refine ⟨fun w => ?_, fun w => ?_⟩
  · rw [hX.2.2.1, wi_le, ei, el] at w
    omega
  refine ⟨S, m0, lk, wd, n, i, v, rfl, hX, hn, hk, hi, ?_⟩
  generalize rn_h S n (v i) = x at *
  refine ⟨fun w2 => ⟨⟨rfl, rfl⟩, ?_⟩, fun w2 => ⟨⟨rfl, rfl⟩, ?_⟩⟩
  · rw [wb_i_2.mp (fun z => z w2)] at h
    exact h
  · rw [wb_i_1.mp w2] at h
    exact h
def mr_P7 (E : Nat → Nat → Prop) (i lk k j : Nat) : Prop := ∃ a c, i ≤ a ∧ a < c ∧ c ≤ lk ∧ E a c ∧ (a < k ∨ (a = k ∧ c < j))
def mr_h407 (E : Nat → Nat → Prop) (n i lk : Nat) (T : wv_T) (N : Nat) (I : Nat → Nat → Int32) (L : Nat → Nat → Int64) (R : Nat → Nat → Option Nat) : Nat → Option (Nat → wv_P) := fun pc =>
  if pc = 5 then some (fun mm lv st T1 N1 I1 L1 R1 nc ns => ∃ (k : Nat) (b : Bool) (x5 : Option Value), lv = [some (.ref 460), some (.int (Int32.ofNat n)), some (.int (Int32.ofNat i)), some (.int (wb_i b)), some (.int (Int32.ofNat k)), x5, none, none, none] ∧ st = [] ∧ T1 = T ∧ N1 = N ∧ I1 = I ∧ L1 = L ∧ R1 = R ∧ nc = 0 ∧ ns = 0 ∧ i ≤ k ∧ k ≤ lk ∧ mm = 100 * (lk + 1 - k) ∧ (b = true ↔ mr_P7 E i lk k 0))
  else if pc = 20 then some (fun mm lv st T1 N1 I1 L1 R1 nc ns => ∃ (k j : Nat) (b : Bool), lv = [some (.ref 460), some (.int (Int32.ofNat n)), some (.int (Int32.ofNat i)), some (.int (wb_i b)), some (.int (Int32.ofNat k)), some (.int (Int32.ofNat j)), none, none, none] ∧ st = [] ∧ T1 = T ∧ N1 = N ∧ I1 = I ∧ L1 = L ∧ R1 = R ∧ nc = 0 ∧ ns = 0 ∧ i ≤ k ∧ k < lk ∧ k < j ∧ j ≤ lk + 1 ∧ mm = 100 * (lk + 1 - k) - 1 - 2 * j ∧ (b = true ↔ mr_P7 E i lk k j))
  else if pc = 50 then some (fun mm lv st T1 N1 I1 L1 R1 nc ns => ∃ (k j : Nat) (b b2 : Bool), lv = [some (.ref 460), some (.int (Int32.ofNat n)), some (.int (Int32.ofNat i)), some (.int (wb_i b)), some (.int (Int32.ofNat k)), some (.int (Int32.ofNat j)), none, none, none] ∧ st = [.int (wb_i b2)] ∧ T1 = T ∧ N1 = N ∧ I1 = I ∧ L1 = L ∧ R1 = R ∧ nc = 0 ∧ ns = 0 ∧ i ≤ k ∧ k < lk ∧ k < j ∧ j ≤ lk ∧ mm = 100 * (lk + 1 - k) - 2 - 2 * j ∧ (b2 = true ↔ mr_P7 E i lk k (j + 1)))
  else none
theorem mr_P7_s {E : Nat → Nat → Prop} {i lk k j : Nat} (h1 : i ≤ k) (h2 : k < j) (h3 : j ≤ lk) : mr_P7 E i lk k (j + 1) ↔ mr_P7 E i lk k j ∨ E k j := by
  constructor
  · rintro ⟨a, c, a1, a2, a3, a4, a5⟩
    by_cases e : a = k ∧ c = j
    · obtain ⟨rfl, rfl⟩ := e
      exact Or.inr a4
    · exact Or.inl ⟨a, c, a1, a2, a3, a4, by omega⟩
  · rintro (⟨a, c, a1, a2, a3, a4, a5⟩ | z)
    · exact ⟨a, c, a1, a2, a3, a4, by omega⟩
    · exact ⟨k, j, h1, h2, h3, z, Or.inr ⟨rfl, by omega⟩⟩
def mr_c407 : wv_c1 := fun as T N I L R q => ∃ n i lk : Nat, as = [.ref 460, .int (Int32.ofNat n), .int (Int32.ofNat i)] ∧ wm_T T ∧ I 460 49 = Int32.ofNat lk ∧ lk ≤ 24 ∧ n < 800 ∧ i ≤ lk ∧ ∀ b : Bool, (b = true ↔ ∃ k j, i ≤ k ∧ k < j ∧ j ≤ lk ∧ mr_E L n k j) → q (.inl (some (.int (wb_i b)))) T N I L R 0 0
set_option maxRecDepth 100000 in
theorem wM_407 : ∃ cb ci np, pt_mt 407 = some (32, cb, 6, false, some .boolean, ci, np) := ⟨_, _, _, rfl⟩
set_option maxRecDepth 100000 in
set_option maxHeartbeats 4000000 in
theorem mr_anyRow {sc : pt_Sc} {d : Nat} : wv_C wm_fx sc (d + 1 + 1 + 1) 407 mr_c407 := by
  rintro as T N I L R q ⟨n, i, lk, rfl, hT, h49, hlk, hn, hi, h⟩ w0 HR
  obtain ⟨cb, ci, np, hm⟩ := wM_407
  have hc390 : wv_C wm_fx sc (d + 1 + 1) 390 mr_c390 := wv_C_deep (by omega) (mr_ends (d := d))
  refine wv_meth (hh := none) rfl (sp := wv_sp [(390, mr_c390)]) (hd := mr_h407 (mr_E L n) n i lk T N I L R) (n := 300) (n1 := 300) hm zc_407 rfl (wv_sp_ok (fun q hq => by rw [List.mem_singleton.mp hq]; exact hc390)) ?_ ?_ HR
  · exact ⟨_, i, false, none, rfl, rfl, rfl, rfl, rfl, rfl, rfl, rfl, rfl, Nat.le_refl _, hi, rfl, ⟨fun z => (by cases z), fun ⟨a, c, a1, a2, a3, a4, a5⟩ => by omega⟩⟩
  · intro pc P hP m lv st T1 N1 I1 L1 R1 nc ns hh
    have el := wi_on (n := lk) (by omega)
    unfold mr_h407 at hP
    by_cases p5 : pc = 5
    · rw [if_pos p5] at hP
      cases hP
      subst p5
      obtain ⟨k, b, x5, rfl, rfl, rfl, rfl, rfl, rfl, rfl, rfl, rfl, hk, hkl, rfl, hb⟩ := hh
      have ek := wi_on (n := k) (by omega)
      refine ⟨fun w => ?_, fun w => ?_⟩
      · rw [h49, wi_le, el, ek] at w
        have hb2 := h b (hb.trans ⟨fun ⟨a, c, a1, a2, a3, a4, _⟩ => ⟨a, c, a1, a2, a3, a4⟩, fun ⟨a, c, a1, a2, a3, a4⟩ => ⟨a, c, a1, a2, a3, a4, by omega⟩⟩)
        cases b with
        | true => exact ⟨⟨rfl, rfl⟩, hb2⟩
        | false => exact ⟨⟨rfl, rfl⟩, hb2⟩
      rw [h49, wi_le, el, ek] at w
      refine ⟨100 * (lk + 1 - k) - 1 - 2 * (k + 1), by omega, k, k + 1, b, by rw [← wq_4s k]; rfl, rfl, rfl, rfl, rfl, rfl, rfl, rfl, rfl, hk, by omega, by omega, by omega, rfl, hb.trans ⟨fun ⟨a, c, a1, a2, a3, a4, a5⟩ => ⟨a, c, a1, a2, a3, a4, by omega⟩, fun ⟨a, c, a1, a2, a3, a4, a5⟩ => ⟨a, c, a1, a2, a3, a4, by omega⟩⟩⟩
    rw [if_neg p5] at hP
    by_cases p20 : pc = 20
    · rw [if_pos p20] at hP
      cases hP
      subst p20
      obtain ⟨k, j, b, rfl, rfl, rfl, rfl, rfl, rfl, rfl, rfl, rfl, hk, hkl, hkj, hj, rfl, hb⟩ := hh
      have ej := wi_on (n := j) (by omega)
      refine ⟨fun w => ?_, fun w => ?_⟩
      · rw [h49, wi_lt, el, ej] at w
        refine ⟨100 * (lk + 1 - (k + 1)), by omega, k + 1, b, _, by rw [← wq_4s k]; rfl, rfl, rfl, rfl, rfl, rfl, rfl, rfl, rfl, by omega, by omega, rfl, hb.trans ⟨fun ⟨a, c, a1, a2, a3, a4, a5⟩ => ⟨a, c, a1, a2, a3, a4, by omega⟩, fun ⟨a, c, a1, a2, a3, a4, a5⟩ => ⟨a, c, a1, a2, a3, a4, by omega⟩⟩⟩
      rw [h49, wi_lt, el, ej] at w
      refine ⟨fun w2 => ?_, fun w2 => ?_⟩
      · have w2 := wb_i_1.mp w2
        exact ⟨100 * (lk + 1 - k) - 2 - 2 * j, by omega, k, j, b, true, rfl, rfl, rfl, rfl, rfl, rfl, rfl, rfl, rfl, hk, hkl, hkj, by omega, rfl, ⟨fun _ => (mr_P7_s hk hkj (by omega)).mpr (Or.inl (hb.mp w2)), fun _ => rfl⟩⟩
      have w2 := wb_i_2.mp w2
      have nb0 : ¬ mr_P7 (mr_E L1 n) i lk k j := fun z => by
        rw [hb.mpr z] at w2
        cases w2
      refine ⟨n, k, j, rfl, hT, hn, by omega, by omega, ?_⟩
      refine ⟨fun w3 => ?_, fun w3 => ?_⟩
      · have w3 := wb_i_2.mp (fun z => z w3)
        refine ⟨100 * (lk + 1 - k) - 2 - 2 * j, by omega, k, j, b, false, rfl, rfl, rfl, rfl, rfl, rfl, rfl, rfl, rfl, hk, hkl, hkj, by omega, rfl, ⟨fun z => (by cases z), fun z => ?_⟩⟩
        rcases (mr_P7_s hk hkj (by omega)).mp z with y | y
        · exact (nb0 y).elim
        · have y : mr_e L1 492 (172 * n) k j = true := y
          rw [w3] at y
          cases y
      · have w3 := wb_i_1.mp w3
        exact ⟨100 * (lk + 1 - k) - 2 - 2 * j, by omega, k, j, b, true, rfl, rfl, rfl, rfl, rfl, rfl, rfl, rfl, rfl, hk, hkl, hkj, by omega, rfl, ⟨fun _ => (mr_P7_s hk hkj (by omega)).mpr (Or.inr w3), fun _ => rfl⟩⟩
    rw [if_neg p20] at hP
    by_cases p50 : pc = 50
    · rw [if_pos p50] at hP
      cases hP
      subst p50
      obtain ⟨k, j, b, b2, rfl, rfl, rfl, rfl, rfl, rfl, rfl, rfl, rfl, hk, hkl, hkj, hj, rfl, hb⟩ := hh
      exact ⟨100 * (lk + 1 - k) - 1 - 2 * (j + 1), by omega, k, j + 1, b2, by rw [← wq_4s j]; rfl, rfl, rfl, rfl, rfl, rfl, rfl, rfl, rfl, hk, hkl, by omega, by omega, rfl, hb⟩
    rw [if_neg p50] at hP
    cases hP
/-- until: which turn fails -/
def mr_U (c f : Nat → Bool) (i j : Nat) : Prop := ∃ a, i ≤ a ∧ a < j ∧ (∀ u, i ≤ u → u ≤ a → c u = false) ∧ f a = true
def mr_h408 (c f : Nat → Bool) (n i lk : Nat) (T : wv_T) (N : Nat) (I : Nat → Nat → Int32) (L : Nat → Nat → Int64) (R : Nat → Nat → Option Nat) : Nat → Option (Nat → wv_P) := fun pc =>
  if pc = 8 then some (fun mm lv st T1 N1 I1 L1 R1 nc ns => ∃ (j : Nat) (b g : Bool), lv = [some (.ref 460), some (.int (Int32.ofNat n)), some (.int (Int32.ofNat i)), some (.int (wb_i b)), some (.int (wb_i g)), some (.int (Int32.ofNat j)), none, none, none] ∧ st = [] ∧ T1 = T ∧ N1 = N ∧ I1 = I ∧ L1 = L ∧ R1 = R ∧ nc = 0 ∧ ns = 0 ∧ i ≤ j ∧ j ≤ lk ∧ mm = 3 * (lk + 1 - j) ∧ (b = true ↔ mr_U c f i j) ∧ (g = true ↔ ∀ u, i ≤ u → u < j → c u = false))
  else if pc = 42 then some (fun mm lv st T1 N1 I1 L1 R1 nc ns => ∃ (j : Nat) (b g g2 : Bool), lv = [some (.ref 460), some (.int (Int32.ofNat n)), some (.int (Int32.ofNat i)), some (.int (wb_i b)), some (.int (wb_i g)), some (.int (Int32.ofNat j)), none, none, none] ∧ st = [.int (wb_i g2)] ∧ T1 = T ∧ N1 = N ∧ I1 = I ∧ L1 = L ∧ R1 = R ∧ nc = 0 ∧ ns = 0 ∧ i ≤ j ∧ j < lk ∧ mm = 3 * (lk + 1 - j) - 1 ∧ (b = true ↔ mr_U c f i j) ∧ (g2 = true ↔ ∀ u, i ≤ u → u < j + 1 → c u = false))
  else if pc = 73 then some (fun mm lv st T1 N1 I1 L1 R1 nc ns => ∃ (j : Nat) (b b2 g : Bool), lv = [some (.ref 460), some (.int (Int32.ofNat n)), some (.int (Int32.ofNat i)), some (.int (wb_i b)), some (.int (wb_i g)), some (.int (Int32.ofNat j)), none, none, none] ∧ st = [.int (wb_i b2)] ∧ T1 = T ∧ N1 = N ∧ I1 = I ∧ L1 = L ∧ R1 = R ∧ nc = 0 ∧ ns = 0 ∧ i ≤ j ∧ j < lk ∧ mm = 3 * (lk + 1 - j) - 2 ∧ (b2 = true ↔ mr_U c f i (j + 1)) ∧ (g = true ↔ ∀ u, i ≤ u → u < j + 1 → c u = false))
  else none
theorem mr_U_s {c f : Nat → Bool} {i j : Nat} (h : i ≤ j) : mr_U c f i (j + 1) ↔ mr_U c f i j ∨ ((∀ u, i ≤ u → u < j + 1 → c u = false) ∧ f j = true) := by
  constructor
  · rintro ⟨a, a1, a2, a3, a4⟩
    by_cases e : a = j
    · subst e
      exact Or.inr ⟨fun u u1 u2 => a3 u u1 (by omega), a4⟩
    · exact Or.inl ⟨a, a1, by omega, a3, a4⟩
  · rintro (⟨a, a1, a2, a3, a4⟩ | ⟨z1, z2⟩)
    · exact ⟨a, a1, by omega, a3, a4⟩
    · exact ⟨j, h, by omega, fun u u1 u2 => z1 u u1 (by omega), z2⟩
def mr_c408 : wv_c1 := fun as T N I L R q => ∃ (S : rn_N) (m0 lk wd n i : Nat) (v : Nat → Nat), as = [.ref 460, .int (Int32.ofNat n), .int (Int32.ofNat i)] ∧ mr_X T I S m0 lk wd v ∧ n < rn_n S ∧ rn_k S n = 13 ∧ nq_l (rn_d S n) < n ∧ nq_r (rn_d S n) < n ∧ rn_k S (nq_r (rn_d S n)) = 60 ∧ i ≤ lk ∧ ∀ b : Bool, (b = true ↔ mr_U (fun u => rn_h S (nq_r (rn_d S n)) (v u)) (fun u => mr_f I (nq_l (rn_d S n)) u) i lk) → q (.inl (some (.int (wb_i b)))) T N I L R 0 0
set_option maxRecDepth 100000 in
theorem wM_408 : ∃ cb ci np, pt_mt 408 = some (32, cb, 6, false, some .boolean, ci, np) := ⟨_, _, _, rfl⟩
set_option maxRecDepth 100000 in
set_option maxHeartbeats 4000000 in
theorem mr_until {sc : pt_Sc} {d : Nat} : wv_C wm_fx sc (d + 1 + 1) 408 mr_c408 := by
  rintro as T N I L R q ⟨S, m0, lk, wd, n, i, v, rfl, hX, hn, hk, hl, hr, hr6, hi, h⟩ w0 HR
  obtain ⟨cb, ci, np, hm⟩ := wM_408
  obtain ⟨e1, e2, e3⟩ := mr_nd (hX.2.1.2.2.2 n hn) (by omega)
  have hc386 : wv_C wm_fx sc (d + 1) 386 mr_c386 := wv_C_deep (by omega) (mr_holds (d := d))
  have hc405 : wv_C wm_fx sc (d + 1) 405 mr_c405 := wv_C_deep (by omega) (mr_failsAt (d := d))
  refine wv_meth (hh := none) rfl (sp := wv_sp [(386, mr_c386), (405, mr_c405)]) (hd := mr_h408 (fun u => rn_h S (nq_r (rn_d S n)) (v u)) (fun u => mr_f I (nq_l (rn_d S n)) u) n i lk T N I L R) (n := 300) (n1 := 300) hm zc_408 rfl (wv_sp_ok (fun q hq => by
    rcases List.mem_cons.mp hq with h | h
    · rw [h]; exact hc386
    rw [List.mem_singleton.mp h]; exact hc405)) ?_ ?_ HR
  · exact ⟨_, i, false, true, rfl, rfl, rfl, rfl, rfl, rfl, rfl, rfl, rfl, Nat.le_refl _, hi, rfl, ⟨fun z => (by cases z), fun ⟨a, a1, a2, _⟩ => by omega⟩, ⟨fun _ u u1 u2 => by omega, fun _ => rfl⟩⟩
  · intro pc P hP m lv st T1 N1 I1 L1 R1 nc ns hh
    have hX0 := hX
    obtain ⟨hT, ⟨h37, hn5, hm0, hM⟩, h49, hlk, h32, hwd, hv⟩ := hX0
    generalize nq_l (rn_d S n) = l at *
    generalize nq_r (rn_d S n) = r at *
    have enn := wi_onn (n := n) (by omega)
    have el := wi_on (n := lk) (by omega)
    unfold mr_h408 at hP
    by_cases p8 : pc = 8
    · rw [if_pos p8] at hP
      cases hP
      subst p8
      obtain ⟨j, b, g, rfl, rfl, rfl, rfl, rfl, rfl, rfl, rfl, rfl, hij, hj, rfl, hb, hg⟩ := hh
      have ej := wi_on (n := j) (by omega)
      refine ⟨fun w => ?_, fun w => ?_⟩
      · rw [h49, wi_le, el, ej] at w
        have ejl : j = lk := by omega
        subst ejl
        have hb2 := h b hb
        cases b with
        | true => exact ⟨⟨rfl, rfl⟩, hb2⟩
        | false => exact ⟨⟨rfl, rfl⟩, hb2⟩
      rw [h49, wi_le, el, ej] at w
      refine ⟨fun w2 => ?_, fun w2 => ?_⟩
      · have w2 := wb_i_2.mp (fun z => z w2)
        refine ⟨3 * (lk + 1 - j) - 1, by omega, j, b, g, false, rfl, rfl, rfl, rfl, rfl, rfl, rfl, rfl, rfl, hij, by omega, rfl, hb, ⟨fun z => (by cases z), fun z => ?_⟩⟩
        rw [hg.mpr (fun u u1 u2 => z u u1 (by omega))] at w2
        cases w2
      have w2 := wb_i_1.mp w2
      refine ⟨_, wm_t hT rfl, pp_b (c := 800) (by omega) (by omega), ?_⟩
      rw [enn, e3]
      refine ⟨S, m0, lk, wd, r, j, v, rfl, hX, by omega, hr6, by omega, ?_⟩
      refine ⟨fun w3 => ?_, fun w3 => ?_⟩
      · have w3 := wb_i_1.mp w3
        refine ⟨3 * (lk + 1 - j) - 1, by omega, j, b, g, false, rfl, rfl, rfl, rfl, rfl, rfl, rfl, rfl, rfl, hij, by omega, rfl, hb, ⟨fun z => (by cases z), fun z => ?_⟩⟩
        have z : rn_h S r (v j) = false := z j hij (by omega)
        rw [w3] at z
        cases z
      · have w3 := wb_i_2.mp w3
        refine ⟨3 * (lk + 1 - j) - 1, by omega, j, b, g, true, rfl, rfl, rfl, rfl, rfl, rfl, rfl, rfl, rfl, hij, by omega, rfl, hb, ⟨fun _ u u1 u2 => ?_, fun _ => rfl⟩⟩
        by_cases e : u = j
        · subst e
          exact w3
        · exact hg.mp w2 u u1 (by omega)
    rw [if_neg p8] at hP
    by_cases p42 : pc = 42
    · rw [if_pos p42] at hP
      cases hP
      subst p42
      obtain ⟨j, b, g, g2, rfl, rfl, rfl, rfl, rfl, rfl, rfl, rfl, rfl, hij, hj, rfl, hb, hg⟩ := hh
      refine ⟨fun w => ?_, fun w => ?_⟩
      · have w := wb_i_1.mp w
        exact ⟨3 * (lk + 1 - j) - 2, by omega, j, b, true, g2, rfl, rfl, rfl, rfl, rfl, rfl, rfl, rfl, rfl, hij, hj, rfl, ⟨fun _ => (mr_U_s hij).mpr (Or.inl (hb.mp w)), fun _ => rfl⟩, hg⟩
      have w := wb_i_2.mp w
      have nb0 : ¬ b = true := by rw [w]; decide
      refine ⟨fun w2 => ?_, fun w2 => ?_⟩
      · have w2 := wb_i_2.mp (fun z => z w2)
        refine ⟨3 * (lk + 1 - j) - 2, by omega, j, b, false, g2, rfl, rfl, rfl, rfl, rfl, rfl, rfl, rfl, rfl, hij, hj, rfl, ⟨fun z => (by cases z), fun z => ?_⟩, hg⟩
        rcases (mr_U_s hij).mp z with y | y
        · exact (nb0 (hb.mpr y)).elim
        · rw [hg.mpr y.1] at w2
          cases w2
      have w2 := wb_i_1.mp w2
      refine ⟨_, wm_t hT rfl, pp_b (c := 800) (by omega) (by omega), ?_⟩
      rw [enn, e2]
      refine ⟨l, j, lk, rfl, hT, h49, hlk, by omega, by omega, ?_⟩
      rw [decide_eq_true hj, Bool.true_and]
      refine ⟨fun w3 => ?_, fun w3 => ?_⟩
      · have w3 := wb_i_2.mp (fun z => z w3)
        refine ⟨3 * (lk + 1 - j) - 2, by omega, j, b, false, g2, rfl, rfl, rfl, rfl, rfl, rfl, rfl, rfl, rfl, hij, hj, rfl, ⟨fun z => (by cases z), fun z => ?_⟩, hg⟩
        rcases (mr_U_s hij).mp z with y | y
        · exact (nb0 (hb.mpr y)).elim
        · have y := y.2
          rw [w3] at y
          cases y
      · have w3 := wb_i_1.mp w3
        exact ⟨3 * (lk + 1 - j) - 2, by omega, j, b, true, g2, rfl, rfl, rfl, rfl, rfl, rfl, rfl, rfl, rfl, hij, hj, rfl, ⟨fun _ => (mr_U_s hij).mpr (Or.inr ⟨hg.mp w2, w3⟩), fun _ => rfl⟩, hg⟩
    rw [if_neg p42] at hP
    by_cases p73 : pc = 73
    · rw [if_pos p73] at hP
      cases hP
      subst p73
      obtain ⟨j, b, b2, g, rfl, rfl, rfl, rfl, rfl, rfl, rfl, rfl, rfl, hij, hj, rfl, hb, hg⟩ := hh
      exact ⟨3 * (lk + 1 - (j + 1)), by omega, j + 1, b2, g, by rw [← wq_4s j]; rfl, rfl, rfl, rfl, rfl, rfl, rfl, rfl, rfl, by omega, by omega, rfl, hb, hg⟩
    rw [if_neg p73] at hP
    cases hP
/-- before: which turn fails -/
def mr_W (cl cr : Nat → Bool) (i j : Nat) : Prop := ∃ a, i ≤ a ∧ a < j ∧ cr a = true ∧ ∀ u, i ≤ u → u < a → ¬ (cl u = true ∧ cr u = false)
def mr_Wg (cl cr : Nat → Bool) (i j : Nat) : Prop := ∃ u, i ≤ u ∧ u < j ∧ cl u = true ∧ cr u = false
def mr_h409 (cl cr : Nat → Bool) (n i lk : Nat) (T : wv_T) (N : Nat) (I : Nat → Nat → Int32) (L : Nat → Nat → Int64) (R : Nat → Nat → Option Nat) : Nat → Option (Nat → wv_P) := fun pc =>
  if pc = 8 then some (fun mm lv st T1 N1 I1 L1 R1 nc ns => ∃ (j : Nat) (b g : Bool) (x6 : Option Value), lv = [some (.ref 460), some (.int (Int32.ofNat n)), some (.int (Int32.ofNat i)), some (.int (wb_i b)), some (.int (wb_i g)), some (.int (Int32.ofNat j)), x6, none, none, none] ∧ st = [] ∧ T1 = T ∧ N1 = N ∧ I1 = I ∧ L1 = L ∧ R1 = R ∧ nc = 0 ∧ ns = 0 ∧ i ≤ j ∧ j ≤ lk ∧ mm = 3 * (lk + 1 - j) ∧ (b = true ↔ mr_W cl cr i j) ∧ (g = true ↔ mr_Wg cl cr i j))
  else if pc = 50 then some (fun mm lv st T1 N1 I1 L1 R1 nc ns => ∃ (j : Nat) (b b2 g : Bool), lv = [some (.ref 460), some (.int (Int32.ofNat n)), some (.int (Int32.ofNat i)), some (.int (wb_i b)), some (.int (wb_i g)), some (.int (Int32.ofNat j)), some (.int (wb_i (cr j))), none, none, none] ∧ st = [.int (wb_i b2)] ∧ T1 = T ∧ N1 = N ∧ I1 = I ∧ L1 = L ∧ R1 = R ∧ nc = 0 ∧ ns = 0 ∧ i ≤ j ∧ j < lk ∧ mm = 3 * (lk + 1 - j) - 1 ∧ (b2 = true ↔ mr_W cl cr i (j + 1)) ∧ (g = true ↔ mr_Wg cl cr i j))
  else if pc = 81 then some (fun mm lv st T1 N1 I1 L1 R1 nc ns => ∃ (j : Nat) (b g g2 : Bool) (x6 : Option Value), lv = [some (.ref 460), some (.int (Int32.ofNat n)), some (.int (Int32.ofNat i)), some (.int (wb_i b)), some (.int (wb_i g)), some (.int (Int32.ofNat j)), x6, none, none, none] ∧ st = [.int (wb_i g2)] ∧ T1 = T ∧ N1 = N ∧ I1 = I ∧ L1 = L ∧ R1 = R ∧ nc = 0 ∧ ns = 0 ∧ i ≤ j ∧ j < lk ∧ mm = 3 * (lk + 1 - j) - 2 ∧ (b = true ↔ mr_W cl cr i (j + 1)) ∧ (g2 = true ↔ mr_Wg cl cr i (j + 1)))
  else none
theorem mr_W_s {cl cr : Nat → Bool} {i j : Nat} (h : i ≤ j) : mr_W cl cr i (j + 1) ↔ mr_W cl cr i j ∨ (cr j = true ∧ ¬ mr_Wg cl cr i j) := by
  constructor
  · rintro ⟨a, a1, a2, a3, a4⟩
    by_cases e : a = j
    · subst e
      exact Or.inr ⟨a3, fun ⟨u, u1, u2, u3⟩ => a4 u u1 u2 u3⟩
    · exact Or.inl ⟨a, a1, by omega, a3, a4⟩
  · rintro (⟨a, a1, a2, a3, a4⟩ | ⟨z1, z2⟩)
    · exact ⟨a, a1, by omega, a3, a4⟩
    · exact ⟨j, h, by omega, z1, fun u u1 u2 u3 => z2 ⟨u, u1, u2, u3⟩⟩
theorem mr_Wg_s {cl cr : Nat → Bool} {i j : Nat} (h : i ≤ j) : mr_Wg cl cr i (j + 1) ↔ mr_Wg cl cr i j ∨ (cl j = true ∧ cr j = false) := by
  constructor
  · rintro ⟨a, a1, a2, a3⟩
    by_cases e : a = j
    · subst e
      exact Or.inr a3
    · exact Or.inl ⟨a, a1, by omega, a3⟩
  · rintro (⟨a, a1, a2, a3⟩ | z)
    · exact ⟨a, a1, by omega, a3⟩
    · exact ⟨j, h, by omega, z⟩
def mr_c409 : wv_c1 := fun as T N I L R q => ∃ (S : rn_N) (m0 lk wd n i : Nat) (v : Nat → Nat), as = [.ref 460, .int (Int32.ofNat n), .int (Int32.ofNat i)] ∧ mr_X T I S m0 lk wd v ∧ n < rn_n S ∧ rn_k S n = 14 ∧ nq_l (rn_d S n) < n ∧ nq_r (rn_d S n) < n ∧ rn_k S (nq_l (rn_d S n)) = 60 ∧ rn_k S (nq_r (rn_d S n)) = 60 ∧ i ≤ lk ∧ ∀ b : Bool, (b = true ↔ mr_W (fun u => rn_h S (nq_l (rn_d S n)) (v u)) (fun u => rn_h S (nq_r (rn_d S n)) (v u)) i lk) → q (.inl (some (.int (wb_i b)))) T N I L R 0 0
set_option maxRecDepth 100000 in
theorem wM_409 : ∃ cb ci np, pt_mt 409 = some (32, cb, 7, false, some .boolean, ci, np) := ⟨_, _, _, rfl⟩
set_option maxRecDepth 100000 in
set_option maxHeartbeats 4000000 in
theorem mr_before {sc : pt_Sc} {d : Nat} : wv_C wm_fx sc (d + 1 + 1) 409 mr_c409 := by
  rintro as T N I L R q ⟨S, m0, lk, wd, n, i, v, rfl, hX, hn, hk, hl, hr, hl6, hr6, hi, h⟩ w0 HR
  obtain ⟨cb, ci, np, hm⟩ := wM_409
  obtain ⟨e1, e2, e3⟩ := mr_nd (hX.2.1.2.2.2 n hn) (by omega)
  have hc386 : wv_C wm_fx sc (d + 1) 386 mr_c386 := wv_C_deep (by omega) (mr_holds (d := d))
  refine wv_meth (hh := none) rfl (sp := wv_sp [(386, mr_c386)]) (hd := mr_h409 (fun u => rn_h S (nq_l (rn_d S n)) (v u)) (fun u => rn_h S (nq_r (rn_d S n)) (v u)) n i lk T N I L R) (n := 300) (n1 := 300) hm zc_409 rfl (wv_sp_ok (fun q hq => by rw [List.mem_singleton.mp hq]; exact hc386)) ?_ ?_ HR
  · exact ⟨_, i, false, false, none, rfl, rfl, rfl, rfl, rfl, rfl, rfl, rfl, rfl, Nat.le_refl _, hi, rfl, ⟨fun z => (by cases z), fun ⟨a, a1, a2, _⟩ => by omega⟩, ⟨fun z => (by cases z), fun ⟨a, a1, a2, _⟩ => by omega⟩⟩
  · intro pc P hP m lv st T1 N1 I1 L1 R1 nc ns hh
    have hX0 := hX
    obtain ⟨hT, ⟨h37, hn5, hm0, hM⟩, h49, hlk, h32, hwd, hv⟩ := hX0
    generalize nq_l (rn_d S n) = l at *
    generalize nq_r (rn_d S n) = r at *
    have enn := wi_onn (n := n) (by omega)
    have el := wi_on (n := lk) (by omega)
    unfold mr_h409 at hP
    by_cases p8 : pc = 8
    · rw [if_pos p8] at hP
      cases hP
      subst p8
      obtain ⟨j, b, g, x6, rfl, rfl, rfl, rfl, rfl, rfl, rfl, rfl, rfl, hij, hj, rfl, hb, hg⟩ := hh
      have ej := wi_on (n := j) (by omega)
      refine ⟨fun w => ?_, fun w => ?_⟩
      · rw [h49, wi_le, el, ej] at w
        have ejl : j = lk := by omega
        subst ejl
        have hb2 := h b hb
        cases b with
        | true => exact ⟨⟨rfl, rfl⟩, hb2⟩
        | false => exact ⟨⟨rfl, rfl⟩, hb2⟩
      rw [h49, wi_le, el, ej] at w
      refine ⟨_, wm_t hT rfl, pp_b (c := 800) (by omega) (by omega), ?_⟩
      rw [enn, e3]
      refine ⟨S, m0, lk, wd, r, j, v, rfl, hX, by omega, hr6, by omega, ?_⟩
      refine ⟨fun w2 => ?_, fun w2 => ?_⟩
      · have w2 := wb_i_1.mp w2
        exact ⟨3 * (lk + 1 - j) - 1, by omega, j, b, true, g, rfl, rfl, rfl, rfl, rfl, rfl, rfl, rfl, rfl, hij, by omega, rfl, ⟨fun _ => (mr_W_s hij).mpr (Or.inl (hb.mp w2)), fun _ => rfl⟩, hg⟩
      have w2 := wb_i_2.mp w2
      have nb0 : ¬ b = true := by rw [w2]; decide
      refine ⟨fun w3 => ?_, fun w3 => ?_⟩
      · have w3 := wb_i_2.mp (fun z => z w3)
        refine ⟨3 * (lk + 1 - j) - 1, by omega, j, b, false, g, rfl, rfl, rfl, rfl, rfl, rfl, rfl, rfl, rfl, hij, by omega, rfl, ⟨fun z => (by cases z), fun z => ?_⟩, hg⟩
        rcases (mr_W_s hij).mp z with y | y
        · exact (nb0 (hb.mpr y)).elim
        · have y : rn_h S r (v j) = true := y.1
          rw [w3] at y
          cases y
      have w3 := wb_i_1.mp w3
      refine ⟨fun w4 => ?_, fun w4 => ?_⟩
      · have w4 := wb_i_1.mp w4
        refine ⟨3 * (lk + 1 - j) - 1, by omega, j, b, false, g, rfl, rfl, rfl, rfl, rfl, rfl, rfl, rfl, rfl, hij, by omega, rfl, ⟨fun z => (by cases z), fun z => ?_⟩, hg⟩
        rcases (mr_W_s hij).mp z with y | y
        · exact (nb0 (hb.mpr y)).elim
        · exact (y.2 (hg.mp w4)).elim
      · have w4 := wb_i_2.mp w4
        refine ⟨3 * (lk + 1 - j) - 1, by omega, j, b, true, g, rfl, rfl, rfl, rfl, rfl, rfl, rfl, rfl, rfl, hij, by omega, rfl, ⟨fun _ => (mr_W_s hij).mpr (Or.inr ⟨w3, fun z => ?_⟩), fun _ => rfl⟩, hg⟩
        rw [hg.mpr z] at w4
        cases w4
    rw [if_neg p8] at hP
    by_cases p50 : pc = 50
    · rw [if_pos p50] at hP
      cases hP
      subst p50
      obtain ⟨j, b, b2, g, rfl, rfl, rfl, rfl, rfl, rfl, rfl, rfl, rfl, hij, hj, rfl, hb, hg⟩ := hh
      refine ⟨fun w => ?_, fun w => ?_⟩
      · have w := wb_i_1.mp w
        exact ⟨3 * (lk + 1 - j) - 2, by omega, j, b2, g, true, _, rfl, rfl, rfl, rfl, rfl, rfl, rfl, rfl, rfl, hij, hj, rfl, hb, ⟨fun _ => (mr_Wg_s hij).mpr (Or.inl (hg.mp w)), fun _ => rfl⟩⟩
      have w := wb_i_2.mp w
      have ng0 : ¬ g = true := by rw [w]; decide
      refine ⟨_, wm_t hT rfl, pp_b (c := 800) (by omega) (by omega), ?_⟩
      rw [enn, e2]
      refine ⟨S, m0, lk, wd, l, j, v, rfl, hX, by omega, hl6, by omega, ?_⟩
      refine ⟨fun w2 => ?_, fun w2 => ?_⟩
      · have w2 := wb_i_2.mp (fun z => z w2)
        refine ⟨3 * (lk + 1 - j) - 2, by omega, j, b2, g, false, _, rfl, rfl, rfl, rfl, rfl, rfl, rfl, rfl, rfl, hij, hj, rfl, hb, ⟨fun z => (by cases z), fun z => ?_⟩⟩
        rcases (mr_Wg_s hij).mp z with y | y
        · exact (ng0 (hg.mpr y)).elim
        · have y : rn_h S l (v j) = true := y.1
          rw [w2] at y
          cases y
      have w2 := wb_i_1.mp w2
      refine ⟨fun w3 => ?_, fun w3 => ?_⟩
      · have w3 : rn_h S r (v j) = true := wb_i_1.mp w3
        refine ⟨3 * (lk + 1 - j) - 2, by omega, j, b2, g, false, _, rfl, rfl, rfl, rfl, rfl, rfl, rfl, rfl, rfl, hij, hj, rfl, hb, ⟨fun z => (by cases z), fun z => ?_⟩⟩
        rcases (mr_Wg_s hij).mp z with y | y
        · exact (ng0 (hg.mpr y)).elim
        · have y : rn_h S r (v j) = false := y.2
          rw [w3] at y
          cases y
      · have w3 : rn_h S r (v j) = false := wb_i_2.mp w3
        exact ⟨3 * (lk + 1 - j) - 2, by omega, j, b2, g, true, _, rfl, rfl, rfl, rfl, rfl, rfl, rfl, rfl, rfl, hij, hj, rfl, hb, ⟨fun _ => (mr_Wg_s hij).mpr (Or.inr ⟨w2, w3⟩), fun _ => rfl⟩⟩
    rw [if_neg p50] at hP
    by_cases p81 : pc = 81
    · rw [if_pos p81] at hP
      cases hP
      subst p81
      obtain ⟨j, b, g, g2, x6, rfl, rfl, rfl, rfl, rfl, rfl, rfl, rfl, rfl, hij, hj, rfl, hb, hg⟩ := hh
      exact ⟨3 * (lk + 1 - (j + 1)), by omega, j + 1, b, g2, x6, by rw [← wq_4s j]; rfl, rfl, rfl, rfl, rfl, rfl, rfl, rfl, rfl, by omega, by omega, rfl, hb, hg⟩
    rw [if_neg p81] at hP
    cases hP
/-- a row, and a failing behind it -/
def mr_Y (f32 : Bool) (E : Nat → Nat → Prop) (F : Nat → Bool) (i lk j : Nat) : Prop := E i j ∧ (if f32 = true then i < j ∧ F (j - 1) = true else j < lk ∧ F j = true)
def mr_Z (f32 : Bool) (E : Nat → Nat → Prop) (F : Nat → Bool) (i lk j : Nat) : Prop := ∃ a, i ≤ a ∧ a < j ∧ mr_Y f32 E F i lk a
theorem mr_Z_s {f32 : Bool} {E : Nat → Nat → Prop} {F : Nat → Bool} {i lk j : Nat} (h : i ≤ j) : mr_Z f32 E F i lk (j + 1) ↔ mr_Z f32 E F i lk j ∨ mr_Y f32 E F i lk j := by
  constructor
  · rintro ⟨a, a1, a2, a3⟩
    by_cases e : a = j
    · subst e
      exact Or.inr a3
    · exact Or.inl ⟨a, a1, by omega, a3⟩
  · rintro (⟨a, a1, a2, a3⟩ | z)
    · exact ⟨a, a1, by omega, a3⟩
    · exact ⟨j, h, by omega, z⟩
def mr_h404 (f32 : Bool) (E : Nat → Nat → Prop) (F : Nat → Bool) (n i lk : Nat) (T : wv_T) (N : Nat) (I : Nat → Nat → Int32) (L : Nat → Nat → Int64) (R : Nat → Nat → Option Nat) : Nat → Option (Nat → wv_P) := fun pc =>
  if pc = 23 then some (fun mm lv st T1 N1 I1 L1 R1 nc ns => ∃ (j : Nat) (b : Bool) (x6 : Option Value), lv = [some (.ref 460), some (.int (Int32.ofNat n)), some (.int (Int32.ofNat i)), some (.int (wb_i f32)), some (.int (wb_i b)), some (.int (Int32.ofNat j)), x6, none, none, none] ∧ st = [] ∧ T1 = T ∧ N1 = N ∧ I1 = I ∧ L1 = L ∧ R1 = R ∧ nc = 0 ∧ ns = 0 ∧ i ≤ j ∧ j ≤ lk + 1 ∧ mm = 2 * (lk + 1 - j) ∧ (b = true ↔ mr_Z f32 E F i lk j))
  else if pc = 107 then some (fun mm lv st T1 N1 I1 L1 R1 nc ns => ∃ (j : Nat) (b b2 : Bool) (x6 : Option Value), lv = [some (.ref 460), some (.int (Int32.ofNat n)), some (.int (Int32.ofNat i)), some (.int (wb_i f32)), some (.int (wb_i b)), some (.int (Int32.ofNat j)), x6, none, none, none] ∧ st = [.int (wb_i b2)] ∧ T1 = T ∧ N1 = N ∧ I1 = I ∧ L1 = L ∧ R1 = R ∧ nc = 0 ∧ ns = 0 ∧ i ≤ j ∧ j ≤ lk ∧ mm = 2 * (lk + 1 - j) - 1 ∧ (b2 = true ↔ mr_Z f32 E F i lk (j + 1)))
  else none
def mr_c404 : wv_c1 := fun as T N I L R q => ∃ (S : rn_N) (m0 lk wd n i : Nat) (v : Nat → Nat), as = [.ref 460, .int (Int32.ofNat n), .int (Int32.ofNat i)] ∧ mr_X T I S m0 lk wd v ∧ n < rn_n S ∧ (32 ≤ rn_k S n ∧ rn_k S n ≤ 33) ∧ nq_l (rn_d S n) < n ∧ nq_r (rn_d S n) < n ∧ i ≤ lk ∧ ∀ b : Bool, (b = true ↔ mr_Z (decide (rn_k S n = 32)) (mr_E L (nq_l (rn_d S n))) (fun u => mr_f I (nq_r (rn_d S n)) u) i lk (lk + 1)) → q (.inl (some (.int (wb_i b)))) T N I L R 0 0
set_option maxRecDepth 100000 in
theorem wM_404 : ∃ cb ci np, pt_mt 404 = some (32, cb, 7, false, some .boolean, ci, np) := ⟨_, _, _, rfl⟩
set_option maxRecDepth 100000 in
set_option maxHeartbeats 4000000 in
theorem mr_suffix {sc : pt_Sc} {d : Nat} : wv_C wm_fx sc (d + 1 + 1 + 1) 404 mr_c404 := by
  rintro as T N I L R q ⟨S, m0, lk, wd, n, i, v, rfl, hX, hn, hk, hl, hr, hi, h⟩ w0 HR
  obtain ⟨cb, ci, np, hm⟩ := wM_404
  obtain ⟨e1, e2, e3⟩ := mr_nd (hX.2.1.2.2.2 n hn) (by omega)
  have hc390 : wv_C wm_fx sc (d + 1 + 1) 390 mr_c390 := wv_C_deep (by omega) (mr_ends (d := d))
  have hc405 : wv_C wm_fx sc (d + 1 + 1) 405 mr_c405 := wv_C_deep (by omega) (mr_failsAt (d := d))
  refine wv_meth (hh := none) rfl (sp := wv_sp [(390, mr_c390), (405, mr_c405)]) (hd := mr_h404 (decide (rn_k S n = 32)) (mr_E L (nq_l (rn_d S n))) (fun u => mr_f I (nq_r (rn_d S n)) u) n i lk T N I L R) (n := 300) (n1 := 300) hm zc_404 rfl (wv_sp_ok (fun q hq => by
    rcases List.mem_cons.mp hq with h | h
    · rw [h]; exact hc390
    rw [List.mem_singleton.mp h]; exact hc405)) ?_ ?_ HR
  · have hn5 := hX.2.1.2.1
    have enn := wi_onn (n := n) (by omega)
    refine ⟨_, wm_t hX.1 rfl, pp_b (c := 800) (by omega) (by omega), ?_⟩
    rw [enn, e1]
    refine ⟨fun w => ?_, fun w => ?_⟩
    · have w : ¬ rn_k S n = 32 := fun z => w (by rw [z]; rfl)
      exact ⟨_, i, false, none, by rw [decide_eq_false w]; rfl, rfl, rfl, rfl, rfl, rfl, rfl, rfl, rfl, Nat.le_refl _, by omega, rfl, ⟨fun z => (by cases z), fun ⟨a, a1, a2, _⟩ => by omega⟩⟩
    · have w : rn_k S n = 32 := Decidable.not_not.mp (fun z => w (fun y => z ((ap_k (by omega) (by omega) rfl).mp y)))
      exact ⟨_, i, false, none, by rw [decide_eq_true w]; rfl, rfl, rfl, rfl, rfl, rfl, rfl, rfl, rfl, Nat.le_refl _, by omega, rfl, ⟨fun z => (by cases z), fun ⟨a, a1, a2, _⟩ => by omega⟩⟩
  · intro pc P hP m lv st T1 N1 I1 L1 R1 nc ns hh
    have hX0 := hX
    obtain ⟨hT, ⟨h37, hn5, hm0, hM⟩, h49, hlk, h32, hwd, hv⟩ := hX0
    generalize nq_l (rn_d S n) = l at *
    generalize nq_r (rn_d S n) = r at *
    generalize decide (rn_k S n = 32) = f32 at *
    have enn := wi_onn (n := n) (by omega)
    have el := wi_on (n := lk) (by omega)
    have ei := wi_on (n := i) (by omega)
    unfold mr_h404 at hP
    by_cases p23 : pc = 23
    · rw [if_pos p23] at hP
      cases hP
      subst p23
      obtain ⟨j, b, x6, rfl, rfl, rfl, rfl, rfl, rfl, rfl, rfl, rfl, hij, hj, rfl, hb⟩ := hh
      have ej := wi_on (n := j) (by omega)
      refine ⟨fun w => ?_, fun w => ?_⟩
      · rw [h49, wi_lt, el, ej] at w
        have ejl : j = lk + 1 := by omega
        subst ejl
        have hb2 := h b hb
        cases b with
        | true => exact ⟨⟨rfl, rfl⟩, hb2⟩
        | false => exact ⟨⟨rfl, rfl⟩, hb2⟩
      rw [h49, wi_lt, el, ej] at w
      refine ⟨_, wm_t hT rfl, pp_b (c := 800) (by omega) (by omega), ?_⟩
      rw [enn, e2]
      refine ⟨l, i, j, rfl, hT, by omega, by omega, by omega, ?_⟩
      have yes : mr_Z f32 (mr_E L1 l) (fun u => mr_f I1 r u) i lk (j + 1) → (true = true ↔ mr_Z f32 (mr_E L1 l) (fun u => mr_f I1 r u) i lk (j + 1)) := fun z => ⟨fun _ => z, fun _ => rfl⟩
      have no : ¬ b = true → ¬ mr_Y f32 (mr_E L1 l) (fun u => mr_f I1 r u) i lk j → (false = true ↔ mr_Z f32 (mr_E L1 l) (fun u => mr_f I1 r u) i lk (j + 1)) := fun z1 z2 => ⟨fun z => (by cases z), fun z => (((mr_Z_s hij).mp z).elim (fun y => z1 (hb.mpr y)) z2).elim⟩
      refine ⟨fun w2 => ?_, fun w2 => ?_⟩
      · have w2 := wb_i_1.mp w2
        exact ⟨2 * (lk + 1 - j) - 1, by omega, j, b, true, _, rfl, rfl, rfl, rfl, rfl, rfl, rfl, rfl, rfl, hij, by omega, rfl, yes ((mr_Z_s hij).mpr (Or.inl (hb.mp w2)))⟩
      have w2 := wb_i_2.mp w2
      have nb0 : ¬ b = true := by rw [w2]; decide
      refine ⟨fun w3 => ?_, fun w3 => ?_⟩
      · have w3 := wb_i_2.mp (fun z => z w3)
        refine ⟨2 * (lk + 1 - j) - 1, by omega, j, b, false, _, rfl, rfl, rfl, rfl, rfl, rfl, rfl, rfl, rfl, hij, by omega, rfl, no nb0 (fun z => ?_)⟩
        have z : mr_e L1 492 (172 * l) i j = true := z.1
        rw [w3] at z
        cases z
      have w3 := wb_i_1.mp w3
      refine ⟨fun w4 => ?_, fun w4 => ?_⟩
      · have w4 := wb_i_2.mp (fun z => z w4)
        subst w4
        refine ⟨_, wm_t hT rfl, pp_b (c := 800) (by omega) (by omega), ?_⟩
        rw [enn, e3]
        refine ⟨r, j, lk, rfl, hT, h49, hlk, by omega, by omega, ?_⟩
        refine ⟨fun w5 => ?_, fun w5 => ?_⟩
        · have w5 := wb_i_2.mp (fun z => z w5)
          refine ⟨2 * (lk + 1 - j) - 1, by omega, j, b, false, _, rfl, rfl, rfl, rfl, rfl, rfl, rfl, rfl, rfl, hij, by omega, rfl, no nb0 (fun z => ?_)⟩
          have z : j < lk ∧ mr_f I1 r j = true := z.2
          rw [decide_eq_true z.1, z.2] at w5
          cases w5
        · have w5 := wb_i_1.mp w5
          rw [Bool.and_eq_true] at w5
          exact ⟨2 * (lk + 1 - j) - 1, by omega, j, b, true, _, rfl, rfl, rfl, rfl, rfl, rfl, rfl, rfl, rfl, hij, by omega, rfl, yes ((mr_Z_s hij).mpr (Or.inr ⟨w3, of_decide_eq_true w5.1, w5.2⟩))⟩
      have w4 := wb_i_1.mp w4
      subst w4
      refine ⟨fun w5 => ?_, fun w5 => ?_⟩
      · rw [wi_le, ei, ej] at w5
        refine ⟨2 * (lk + 1 - j) - 1, by omega, j, b, false, _, rfl, rfl, rfl, rfl, rfl, rfl, rfl, rfl, rfl, hij, by omega, rfl, no nb0 (fun z => ?_)⟩
        have z : i < j ∧ mr_f I1 r (j - 1) = true := z.2
        omega
      rw [wi_le, ei, ej] at w5
      obtain ⟨k, rfl⟩ : ∃ k, j = k + 1 := ⟨j - 1, by omega⟩
      refine ⟨_, wm_t hT rfl, pp_b (c := 800) (by omega) (by omega), ?_⟩
      rw [enn, e3]
      refine ⟨r, k, lk, congrArg (fun z => [Value.ref 460, Value.int (Int32.ofNat r), Value.int z]) (wq_s1 (by omega)), hT, h49, hlk, by omega, by omega, ?_⟩
      rw [decide_eq_true (show k < lk by omega), Bool.true_and]
      refine ⟨fun w6 => ?_, fun w6 => ?_⟩
      · have w6 := wb_i_2.mp (fun z => z w6)
        refine ⟨2 * (lk + 1 - (k + 1)) - 1, by omega, k + 1, b, false, _, rfl, rfl, rfl, rfl, rfl, rfl, rfl, rfl, rfl, hij, by omega, rfl, no nb0 (fun z => ?_)⟩
        have z : i < k + 1 ∧ mr_f I1 r (k + 1 - 1) = true := z.2
        have z := z.2
        rw [Nat.add_sub_cancel, w6] at z
        cases z
      · have w6 := wb_i_1.mp w6
        refine ⟨2 * (lk + 1 - (k + 1)) - 1, by omega, k + 1, b, true, _, rfl, rfl, rfl, rfl, rfl, rfl, rfl, rfl, rfl, hij, by omega, rfl, yes ((mr_Z_s hij).mpr (Or.inr ⟨w3, ?_⟩))⟩
        show i < k + 1 ∧ mr_f I1 r (k + 1 - 1) = true
        rw [Nat.add_sub_cancel]
        exact ⟨by omega, w6⟩
    rw [if_neg p23] at hP
    by_cases p107 : pc = 107
    · rw [if_pos p107] at hP
      cases hP
      subst p107
      obtain ⟨j, b, b2, x6, rfl, rfl, rfl, rfl, rfl, rfl, rfl, rfl, rfl, hij, hj, rfl, hb⟩ := hh
      exact ⟨2 * (lk + 1 - (j + 1)), by omega, j + 1, b2, x6, by rw [← wq_4s j]; rfl, rfl, rfl, rfl, rfl, rfl, rfl, rfl, rfl, by omega, by omega, rfl, hb⟩
    rw [if_neg p107] at hP
    cases hP
