/-! ===== both: where rows are and parts have begun ===== -/
theorem fb_26 (n i : Nat) : (Int8.ofInt 26).toInt32 * Int32.ofNat n + Int32.ofNat i = Int32.ofNat (26 * n + i) := by
  rw [show (Int8.ofInt 26).toInt32 = Int32.ofNat 26 from rfl, ← Int32.ofNat_mul, wi_ona]
def fb_c444 : wv_c1 := fun as T N I L R q => ∃ (n i lk : Nat), as = [.ref 460, .int (Int32.ofNat n), .int (Int32.ofNat i)] ∧ wm_T T ∧ n < 800 ∧ i < 10000 ∧ I 460 49 = Int32.ofNat lk ∧ lk ≤ 26 ∧ (i < lk → q (.inl none) T N (wv_u I 526 (26 * n + i) 1) L R 0 0) ∧ (¬ i < lk → q (.inl none) T N I L R 0 0)
set_option maxRecDepth 100000 in
theorem wM_444 : ∃ cb ci np, pt_mt 444 = some (32, cb, 3, false, none, ci, np) := ⟨_, _, _, rfl⟩
set_option maxRecDepth 100000 in
set_option maxHeartbeats 4000000 in
theorem fb_begin2 {sc : pt_Sc} {d : Nat} : wv_C wm_fx sc (d + 1) 444 fb_c444 := by
  rintro as T N I L R q ⟨n, i, lk, rfl, hT, hn, hi, h49, hlk, h1, h2⟩ w0 HR
  obtain ⟨cb, ci, np, hm⟩ := wM_444
  refine wv_meth (hh := none) rfl (sp := fun _ _ _ _ _ _ _ _ => False) (hd := fun _ => none) (n := 0) (n1 := 300) hm zc_444 rfl (fun k as T N I L R q h => by cases h) ?_ (fun pc P h => by cases h) HR
  have ei := wi_on (n := i) (by omega)
  have el := wi_on (n := lk) (by omega)
  refine ⟨fun w => ?_, fun w => ?_⟩
  · rw [h49, wi_le, el, ei] at w
    exact h2 (by omega)
  · rw [h49, wi_le, el, ei] at w
    refine ⟨_, wm_t hT rfl, by rw [fb_26]; exact pp_b (c := 20800) (by omega) (by omega), by decide, ?_⟩
    rw [fb_26, wi_onn (by omega)]
    exact h1 (by omega)
def fb_l50 (s i : Nat) (b : Bool) (j : Nat) : List (Option Value) := [some (.ref 460), some (.int (Int32.ofNat s)), some (.int (Int32.ofNat i)), some (.int (wb_i b)), some (.int (Int32.ofNat j)), none, none, none]
def fb_h450 (s i lk : Nat) (T : wv_T) (N : Nat) (I : Nat → Nat → Int32) (L : Nat → Nat → Int64) (R : Nat → Nat → Option Nat) : Nat → Option (Nat → wv_P) := fun pc =>
  if pc = 5 then some (fun mm lv st T1 N1 I1 L1 R1 nc ns => ∃ (j : Nat) (b : Bool), lv = fb_l50 s i b j ∧ st = [] ∧ T1 = T ∧ N1 = N ∧ R1 = R ∧ nc = 0 ∧ ns = 0 ∧ I1 = I ∧ L1 = L ∧ i ≤ j ∧ j ≤ lk + 1 ∧ (b = true ↔ ∃ k, i ≤ k ∧ k < j ∧ mr_e L 492 (172 * s) i k = true) ∧ mm = lk + 1 - j)
  else none
def fb_c450 : wv_c1 := fun as T N I L R q => ∃ (s i lk : Nat), as = [.ref 460, .int (Int32.ofNat s), .int (Int32.ofNat i)] ∧ wm_T T ∧ s < 800 ∧ i ≤ lk ∧ I 460 49 = Int32.ofNat lk ∧ lk ≤ 26 ∧ ∀ b : Bool, (b = true ↔ ∃ k, i ≤ k ∧ k ≤ lk ∧ mr_e L 492 (172 * s) i k = true) → q (.inl (some (.int (wb_i b)))) T N I L R 0 0
set_option maxRecDepth 100000 in
theorem wM_450 : ∃ cb ci np, pt_mt 450 = some (32, cb, 5, false, some .boolean, ci, np) := ⟨_, _, _, rfl⟩
set_option maxRecDepth 100000 in
set_option maxHeartbeats 4000000 in
theorem fb_hasRowFrom {sc : pt_Sc} {d : Nat} : wv_C wm_fx sc (d + 1 + 1 + 1) 450 fb_c450 := by
  rintro as T N I L R q ⟨s, i, lk, rfl, hT, hs, hi, h49, hlk, h⟩ w0 HR
  obtain ⟨cb, ci, np, hm⟩ := wM_450
  have hc390 : wv_C wm_fx sc (d + 1 + 1) 390 mr_c390 := wv_C_deep (by omega) (mr_ends (d := d))
  refine wv_meth (hh := none) rfl (sp := wv_sp [(390, mr_c390)]) (hd := fb_h450 s i lk T N I L R) (n := 300) (n1 := 300) hm zc_450 rfl (wv_sp_ok (fun q hq => by rw [List.mem_singleton.mp hq]; exact hc390)) ?_ ?_ HR
  · exact ⟨_, i, false, rfl, rfl, rfl, rfl, rfl, rfl, rfl, rfl, rfl, Nat.le_refl _, by omega, ⟨fun z => (by cases z), fun ⟨k, k1, k2, _⟩ => by omega⟩, rfl⟩
  · intro pc P hP m lv st T1 N1 I1 L1 R1 nc ns hh
    have el := wi_on (n := lk) (by omega)
    unfold fb_h450 at hP
    by_cases p5 : pc = 5
    · rw [if_pos p5] at hP
      cases hP
      subst p5
      obtain ⟨j, b, rfl, rfl, rfl, rfl, rfl, rfl, rfl, rfl, rfl, hj1, hj2, hb, rfl⟩ := hh
      have ej := wi_on (n := j) (by omega)
      refine ⟨fun w => ?_, fun w => ?_⟩
      · rw [h49, wi_lt, el, ej] at w
        have e : j = lk + 1 := by omega
        subst e
        have hq := h b (hb.trans ⟨fun ⟨k, k1, k2, k3⟩ => ⟨k, k1, by omega, k3⟩, fun ⟨k, k1, k2, k3⟩ => ⟨k, k1, by omega, k3⟩⟩)
        cases b with
        | true => exact ⟨⟨rfl, rfl⟩, hq⟩
        | false => exact ⟨⟨rfl, rfl⟩, hq⟩
      · rw [h49, wi_lt, el, ej] at w
        have lst : ∀ b2 : Bool, fb_l50 s i b2 (j + 1) = [some (.ref 460), some (.int (Int32.ofNat s)), some (.int (Int32.ofNat i)), some (.int (wb_i b2)), some (.int (Int32.ofNat j + Int32.ofInt 1)), none, none, none] := fun b2 => by
          rw [wq_4s]
          rfl
        refine ⟨fun w1 => ?_, fun w1 => ?_⟩
        · obtain ⟨k, k1, k2, k3⟩ := hb.mp (wb_i_1.mp w1)
          exact ⟨lk + 1 - (j + 1), by omega, j + 1, true, (lst true).symm, rfl, rfl, rfl, rfl, rfl, rfl, rfl, rfl, by omega, by omega, ⟨fun _ => ⟨k, k1, by omega, k3⟩, fun _ => rfl⟩, rfl⟩
        have w1 : b = false := wb_i_2.mp w1
        have hno : ¬ ∃ k, i ≤ k ∧ k < j ∧ mr_e L1 492 (172 * s) i k = true := fun z => by
          rw [hb.mpr z] at w1
          cases w1
        refine ⟨s, i, j, rfl, hT, hs, by omega, by omega, ?_⟩
        refine ⟨fun w2 => ?_, fun w2 => ?_⟩
        · have w2 : mr_e L1 492 (172 * s) i j = false := wb_i_2.mp (fun z => z w2)
          refine ⟨lk + 1 - (j + 1), by omega, j + 1, false, (lst false).symm, rfl, rfl, rfl, rfl, rfl, rfl, rfl, rfl, by omega, by omega, ⟨fun z => (by cases z), fun ⟨k, k1, k2, k3⟩ => ?_⟩, rfl⟩
          by_cases e : k = j
          · subst e
            rw [w2] at k3
            cases k3
          · exact (hno ⟨k, k1, by omega, k3⟩).elim
        · have w2 : mr_e L1 492 (172 * s) i j = true := wb_i_1.mp w2
          exact ⟨lk + 1 - (j + 1), by omega, j + 1, true, (lst true).symm, rfl, rfl, rfl, rfl, rfl, rfl, rfl, rfl, by omega, by omega, ⟨fun _ => ⟨j, hj1, by omega, w2⟩, fun _ => rfl⟩, rfl⟩
    rw [if_neg p5] at hP
    cases hP
def fb_l47 (n c : Nat) (b no : Bool) (v : Int32) : List (Option Value) := [some (.ref 460), some (.int (Int32.ofNat n)), some (.int (Int32.ofNat c)), some (.int (wb_i b)), some (.int (wb_i no)), some (.int v), none, none, none]
/-- some begun place with no letter of h from there on -/
def fb_on (bg h : Nat → Bool) (m lk : Nat) : Prop := ∃ i, m ≤ i ∧ i < lk ∧ bg i = true ∧ ∀ j, i ≤ j → j < lk → h j = false
def fb_h447 (n c lk : Nat) (bg h : Nat → Bool) (T : wv_T) (N : Nat) (I : Nat → Nat → Int32) (L : Nat → Nat → Int64) (R : Nat → Nat → Option Nat) : Nat → Option (Nat → wv_P) := fun pc =>
  if pc = 13 then some (fun mm lv st T1 N1 I1 L1 R1 nc ns => ∃ (m : Nat) (b no : Bool), lv = fb_l47 n c b no (pb_dn m) ∧ st = [] ∧ T1 = T ∧ N1 = N ∧ R1 = R ∧ nc = 0 ∧ ns = 0 ∧ I1 = I ∧ L1 = L ∧ m ≤ lk ∧ (b = true ↔ fb_on bg h m lk) ∧ (no = true ↔ ∀ j, m ≤ j → j < lk → h j = false) ∧ mm = 2 * m + 1)
  else if pc = 40 then some (fun mm lv st T1 N1 I1 L1 R1 nc ns => ∃ (m : Nat) (b no : Bool), lv = fb_l47 n c b no (Int32.ofNat m) ∧ st = [] ∧ T1 = T ∧ N1 = N ∧ R1 = R ∧ nc = 0 ∧ ns = 0 ∧ I1 = I ∧ L1 = L ∧ m < lk ∧ (b = true ↔ fb_on bg h (m + 1) lk) ∧ (no = true ↔ ∀ j, m ≤ j → j < lk → h j = false) ∧ mm = 2 * m + 2)
  else none
theorem fb_on_s {bg h : Nat → Bool} {m lk : Nat} (hm : m < lk) : fb_on bg h m lk ↔ fb_on bg h (m + 1) lk ∨ (bg m = true ∧ ∀ j, m ≤ j → j < lk → h j = false) := by
  constructor
  · rintro ⟨i, i1, i2, i3, i4⟩
    by_cases e : i = m
    · subst e
      exact Or.inr ⟨i3, i4⟩
    · exact Or.inl ⟨i, by omega, i2, i3, i4⟩
  · rintro (⟨i, i1, i2, i3, i4⟩ | ⟨i3, i4⟩)
    · exact ⟨i, by omega, i2, i3, i4⟩
    · exact ⟨m, Nat.le_refl _, hm, i3, i4⟩
def fb_c447 : wv_c1 := fun as T N I L R q => ∃ (S : rn_N) (m0 lk wd n c : Nat) (v : Nat → Nat) (bg : Nat → Bool), as = [.ref 460, .int (Int32.ofNat n), .int (Int32.ofNat c)] ∧ mr_X T I S m0 lk wd v ∧ n < 800 ∧ c < rn_n S ∧ rn_k S c = 60 ∧ (∀ i, i < lk → I 526 (26 * n + i) = wb_i (bg i)) ∧ ∀ b : Bool, (b = true ↔ fb_on bg (fun j => rn_h S c (v j)) 0 lk) → q (.inl (some (.int (wb_i b)))) T N I L R 0 0
set_option maxRecDepth 100000 in
theorem wM_447 : ∃ cb ci np, pt_mt 447 = some (32, cb, 6, false, some .boolean, ci, np) := ⟨_, _, _, rfl⟩
set_option maxRecDepth 100000 in
set_option maxHeartbeats 4000000 in
theorem fb_onFrom {sc : pt_Sc} {d : Nat} : wv_C wm_fx sc (d + 1 + 1) 447 fb_c447 := by
  rintro as T N I L R q ⟨S, m0, lk, wd, n, c, v, bg, rfl, hX, hn, hc, hc60, hbg, h⟩ w0 HR
  obtain ⟨cb, ci, np, hm⟩ := wM_447
  have hc386 : wv_C wm_fx sc (d + 1) 386 mr_c386 := wv_C_deep (by omega) (mr_holds (d := d))
  refine wv_meth (hh := none) rfl (sp := wv_sp [(386, mr_c386)]) (hd := fb_h447 n c lk bg (fun j => rn_h S c (v j)) T N I L R) (n := 300) (n1 := 300) hm zc_447 rfl (wv_sp_ok (fun q hq => by rw [List.mem_singleton.mp hq]; exact hc386)) ?_ ?_ HR
  · have hlk := hX.2.2.2.1
    refine ⟨_, lk, false, true, ?_, rfl, rfl, rfl, rfl, rfl, rfl, rfl, rfl, Nat.le_refl _, ⟨fun z => (by cases z), fun ⟨i, i1, i2, _⟩ => by omega⟩, ⟨fun _ j j1 j2 => by omega, fun _ => rfl⟩, rfl⟩
    have e49 : I 460 49 - Int32.ofInt 1 = pb_dn lk := by
      rw [hX.2.2.1, ← pb_dn_s (by omega)]
      exact Int32.sub_eq_add_neg _ _
    show [some (Value.ref 460), some (.int (Int32.ofNat n)), some (.int (Int32.ofNat c)), some (.int (Int32.ofInt 0)), some (.int (Int32.ofInt 1)), some (.int (I 460 49 - Int32.ofInt 1)), none, none, none] = _
    rw [e49]
    rfl
  · intro pc P hP m lv st T1 N1 I1 L1 R1 nc ns hh
    have hlk := hX.2.2.2.1
    have hT := hX.1
    unfold fb_h447 at hP
    by_cases p13 : pc = 13
    · rw [if_pos p13] at hP
      cases hP
      subst p13
      obtain ⟨m1, b, no, rfl, rfl, rfl, rfl, rfl, rfl, rfl, rfl, rfl, hm1, hb, hno, rfl⟩ := hh
      cases m1 with
      | zero =>
        refine ⟨fun _ => ?_, fun w => absurd (show pb_dn 0 < 0 by decide) w⟩
        have hq := h b hb
        cases b with
        | true => exact ⟨⟨rfl, rfl⟩, hq⟩
        | false => exact ⟨⟨rfl, rfl⟩, hq⟩
      | succ k =>
        rw [← pb_dn_1 k]
        have ek := wi_on (n := k) (by omega)
        refine ⟨fun w => ?_, fun w => ?_⟩
        · have w : Int32.ofNat k < 0 := w
          rw [wi_lt, ek, wi_0] at w
          omega
        refine ⟨fun w1 => ?_, fun w1 => ?_⟩
        · have w1 : no = false := wb_i_2.mp (fun z => z w1)
          refine ⟨2 * k + 2, by omega, k, b, false, rfl, rfl, rfl, rfl, rfl, rfl, rfl, rfl, rfl, by omega, hb, ⟨fun z => (by cases z), fun z => ?_⟩, rfl⟩
          rw [hno.mpr (fun j j1 j2 => z j (by omega) j2)] at w1
          cases w1
        have w1 : no = true := wb_i_1.mp w1
        have hn1 := hno.mp w1
        refine ⟨S, m0, lk, wd, c, k, v, rfl, hX, hc, hc60, by omega, ?_⟩
        refine ⟨fun w2 => ?_, fun w2 => ?_⟩
        · have w2 : rn_h S c (v k) = true := wb_i_1.mp w2
          refine ⟨2 * k + 2, by omega, k, b, false, rfl, rfl, rfl, rfl, rfl, rfl, rfl, rfl, rfl, by omega, hb, ⟨fun z => (by cases z), fun z => ?_⟩, rfl⟩
          have z1 : rn_h S c (v k) = false := z k (Nat.le_refl _) (by omega)
          rw [w2] at z1
          cases z1
        · have w2 : rn_h S c (v k) = false := wb_i_2.mp w2
          refine ⟨2 * k + 2, by omega, k, b, true, rfl, rfl, rfl, rfl, rfl, rfl, rfl, rfl, rfl, by omega, hb, ⟨fun _ j j1 j2 => ?_, fun _ => rfl⟩, rfl⟩
          by_cases e : j = k
          · subst e
            exact w2
          · exact hn1 j (by omega) j2
    rw [if_neg p13] at hP
    by_cases p40 : pc = 40
    · rw [if_pos p40] at hP
      cases hP
      subst p40
      obtain ⟨k, b, no, rfl, rfl, rfl, rfl, rfl, rfl, rfl, rfl, rfl, hk, hb, hno, rfl⟩ := hh
      have hs := fb_on_s (bg := bg) (h := fun j => rn_h S c (v j)) hk
      have lst : ∀ b2 : Bool, fb_l47 n c b2 no (pb_dn k) = fb_l47 n c b2 no (Int32.ofNat k + Int32.ofInt (-1)) := fun b2 => by
        rw [pb_dn_s (by omega)]
      refine ⟨fun w1 => ?_, fun w1 => ?_⟩
      · exact ⟨2 * k + 1, by omega, k, true, no, (lst true).symm, rfl, rfl, rfl, rfl, rfl, rfl, rfl, rfl, by omega, ⟨fun _ => hs.mpr (Or.inl (hb.mp (wb_i_1.mp w1))), fun _ => rfl⟩, hno, rfl⟩
      have w1 : b = false := wb_i_2.mp w1
      have nb1 : ¬ fb_on bg (fun j => rn_h S c (v j)) (k + 1) lk := fun z => by
        rw [hb.mpr z] at w1
        cases w1
      refine ⟨fun w2 => ?_, fun w2 => ?_⟩
      · have w2 : no = false := wb_i_2.mp (fun z => z w2)
        refine ⟨2 * k + 1, by omega, k, false, no, (lst false).symm, rfl, rfl, rfl, rfl, rfl, rfl, rfl, rfl, by omega, ⟨fun z => (by cases z), fun z => ?_⟩, hno, rfl⟩
        rcases hs.mp z with z | z
        · exact (nb1 z).elim
        · rw [hno.mpr z.2] at w2
          cases w2
      have w2 : no = true := wb_i_1.mp w2
      refine ⟨2, _, Or.inl rfl, wm_t hT rfl, by rw [fb_26]; exact pp_b (c := 20800) (by omega) (by omega), ?_⟩
      rw [fb_26, wi_onn (by omega), hbg k hk]
      refine ⟨fun w3 => ?_, fun w3 => ?_⟩
      · have w3 : bg k = false := wb_i_2.mp (fun z => z w3)
        refine ⟨2 * k + 1, by omega, k, false, no, (lst false).symm, rfl, rfl, rfl, rfl, rfl, rfl, rfl, rfl, by omega, ⟨fun z => (by cases z), fun z => ?_⟩, hno, rfl⟩
        rcases hs.mp z with z | z
        · exact (nb1 z).elim
        · rw [w3] at z
          cases z.1
      · have w3 : bg k = true := wb_i_1.mp w3
        exact ⟨2 * k + 1, by omega, k, true, no, (lst true).symm, rfl, rfl, rfl, rfl, rfl, rfl, rfl, rfl, by omega, ⟨fun _ => hs.mpr (Or.inr ⟨w3, hno.mp w2⟩), fun _ => rfl⟩, hno, rfl⟩
    rw [if_neg p40] at hP
    cases hP
def fb_l38 (E X i j c k : Nat) : List (Option Value) := [some (.ref E), some (.ref X), some (.int (Int32.ofNat i)), some (.int (Int32.ofNat j)), some (.int (Int32.ofNat c)), some (.int (Int32.ofNat k)), none, none, none, none]
def fb_h238 (E X i j : Nat) (mv : Nat → Nat → Nat) (kd v : Nat → Nat) (T : wv_T) (N : Nat) (I : Nat → Nat → Int32) (L : Nat → Nat → Int64) (R : Nat → Nat → Option Nat) : Nat → Option (Nat → wv_P) := fun pc =>
  if pc = 6 then some (fun mm lv st T1 N1 I1 L1 R1 nc ns => ∃ k : Nat, lv = fb_l38 E X i j (df_run mv 0 (kz v i k)) (i + k) ∧ st = [] ∧ T1 = T ∧ N1 = N ∧ R1 = R ∧ nc = 0 ∧ ns = 0 ∧ I1 = I ∧ L1 = L ∧ i + k ≤ j ∧ (∀ k2, k2 < k → ¬ kd (df_run mv 0 (kz v i k2)) = 3) ∧ mm = j - (i + k))
  else none
def fb_c238 : wv_c1 := fun as T N I L R q => ∃ (E B g K X len i j : Nat) (A : nt_A) (mv : Nat → Nat → Nat) (kd v : Nat → Nat), as = [.ref E, .ref X, .int (Int32.ofNat i), .int (Int32.ofNat j)] ∧ kc_D T R E ∧ kc_B T R E B ∧ kc_r E B g A I K mv kd ∧ T X = some (.inr (0, len)) ∧ i ≤ j ∧ j ≤ len ∧ len < 1000000 ∧ (∀ k, i ≤ k → k < j → I X k = Int32.ofNat (v k) ∧ v k < 64) ∧ ∀ b : Bool, (b = true ↔ ∃ k, i + k ≤ j ∧ kd (df_run mv 0 (kz v i k)) = 3) → q (.inl (some (.int (wb_i b)))) T N I L R 0 0
set_option maxRecDepth 100000 in
theorem wM_238 : ∃ cb ci np, pt_mt 238 = some (10, cb, 6, false, some .boolean, ci, np) := ⟨_, _, _, rfl⟩
set_option maxRecDepth 100000 in
set_option maxHeartbeats 4000000 in
theorem fb_hasRow {sc : pt_Sc} {d : Nat} : wv_C wm_fx sc (d + 1 + 1) 238 fb_c238 := by
  rintro as T N I L R q ⟨E, B, g, K, X, len, i, j, A, mv, kd, v, rfl, hD, hB, hr, hX, hij, hjl, hlen, hv, h⟩ w0 HR
  obtain ⟨cb, ci, np, hm⟩ := wM_238
  have hc218 : wv_C wm_fx sc (d + 1) 218 kc_c218 := wv_C_deep (by omega) (kc_behind (d := d))
  refine wv_meth (hh := none) rfl (sp := wv_sp [(218, kc_c218)]) (hd := fb_h238 E X i j mv kd v T N I L R) (n := 300) (n1 := 300) hm zc_238 rfl (wv_sp_ok (fun q hq => by rw [List.mem_singleton.mp hq]; exact hc218)) ?_ ?_ HR
  · exact ⟨_, 0, rfl, rfl, rfl, rfl, rfl, rfl, rfl, rfl, rfl, by omega, fun k hk => by omega, rfl⟩
  · intro pc P hP m lv st T1 N1 I1 L1 R1 nc ns hh
    obtain ⟨hK, h5, hg, h8, hkd, hmv, ho, _⟩ := hr
    have hD2 := hD
    obtain ⟨hE, r0, r1, r2, r3, t1, t2, t3, t4, hb9⟩ := hD2
    have ej := wi_on (n := j) (by omega)
    have e3 : (Int32.ofInt 3).toInt = 3 := rfl
    unfold fb_h238 at hP
    by_cases p6 : pc = 6
    · rw [if_pos p6] at hP
      cases hP
      subst p6
      obtain ⟨k, rfl, rfl, rfl, rfl, rfl, rfl, rfl, rfl, rfl, hk, hno, rfl⟩ := hh
      have ek := wi_on (n := i + k) (by omega)
      have ekn := wi_onn (n := i + k) (by omega)
      have hw := kz_w (v := v) (i := i) k (fun a a1 a2 => (hv a a1 (by omega)).2)
      have hlt := df_run_lt ho _ hw 0 ho.1
      obtain ⟨k1, k2⟩ := hkd _ hlt
      have ecn := wi_onn (n := df_run mv 0 (kz v i k)) (by omega)
      have ed := wi_on (n := kd (df_run mv 0 (kz v i k))) (by omega)
      refine ⟨fun w => ?_, fun w => ?_⟩
      · rw [wi_le, ej, ek] at w
        have e : i + k = j := by omega
        refine ⟨hE, _, r1, _, t2, pp_b (c := 66) (by omega) (by omega), ?_⟩
        rw [ecn, k1]
        refine ⟨fun w1 => ⟨⟨rfl, rfl⟩, h false ⟨fun z => (by cases z), fun ⟨a, a1, a2⟩ => ?_⟩⟩, fun w1 => ⟨⟨rfl, rfl⟩, h true ⟨fun _ => ⟨k, hk, ?_⟩, fun _ => rfl⟩⟩⟩
        · rw [wi_eq, ed, e3] at w1
          exfalso
          by_cases ea : a = k
          · subst ea
            omega
          · exact hno a (by omega) a2
        · rw [wi_eq, ed, e3] at w1
          omega
      · rw [wi_le, ej, ek] at w
        refine ⟨hE, _, r1, _, t2, pp_b (c := 66) (by omega) (by omega), ?_⟩
        rw [ecn, k1]
        refine ⟨fun w1 => ?_, fun w1 => ?_⟩
        · rw [wi_eq, ed, e3] at w1
          refine ⟨hE, _, r1, _, t2, pp_b (c := 66) (by omega) (by omega), ?_⟩
          rw [ecn, k1]
          refine ⟨fun w2 => ?_, fun w2 => ⟨⟨rfl, rfl⟩, h true ⟨fun _ => ⟨k, hk, by omega⟩, fun _ => rfl⟩⟩⟩
          rw [wi_eq, ed, e3] at w2
          omega
        · rw [wi_eq, ed, e3] at w1
          obtain ⟨v1, v2⟩ := hv (i + k) (by omega) (by omega)
          refine ⟨_, hX, pp_b (by omega) hlen, ?_⟩
          rw [ekn, v1]
          refine ⟨hE, E, B, df_run mv 0 (kz v i k), v (i + k), g, rfl, hD, hB, h5, hg, v2, by omega, ?_⟩
          rw [hmv _ _ hlt v2]
          have e1 : df_run mv 0 (kz v i (k + 1)) = mv (df_run mv 0 (kz v i k)) (v (i + k)) := df_run_app mv (kz v i k) [v (i + k)] 0
          refine ⟨j - (i + (k + 1)), by omega, k + 1, ?_, rfl, rfl, rfl, rfl, rfl, rfl, rfl, rfl, by omega, fun a ha => ?_, rfl⟩
          · unfold fb_l38
            rw [e1, show Int32.ofNat (i + (k + 1)) = Int32.ofNat (i + k) + Int32.ofInt 1 from (wq_4s (i + k)).symm]
            rfl
          · by_cases ea : a = k
            · subst ea
              omega
            · exact hno a (by omega)
    rw [if_neg p6] at hP
    cases hP
