/-! ===== the reference: sets of ends ===== -/
/-- a set in two words -/
def mr_b (lo hi : Int64) (x : Nat) : Bool := if x < 64 then nb lo x else nb hi (x - 64)
def mr_e (L : Nat → Nat → Int64) (c b i x : Nat) : Bool := mr_b (L c (b + 2 * i)) (L c (b + 2 * i + 1)) x
def mr_s (L : Nat → Nat → Int64) (x : Nat) : Bool := mr_b (L 460 53) (L 460 54) x
def mr_Fs (L L1 : Nat → Nat → Int64) : Prop := ∀ c j, ¬ (c = 460 ∧ (j = 53 ∨ j = 54)) → L1 c j = L c j
theorem mr_Fs_e {L L1 : Nat → Nat → Int64} (h : mr_Fs L L1) {c b i x : Nat} (hc : ¬ c = 460) : mr_e L1 c b i x = mr_e L c b i x := by
  unfold mr_e
  rw [h _ _ (by omega), h _ _ (by omega)]
theorem mr_b_or {a b c d : Int64} (x : Nat) : mr_b (a ||| b) (c ||| d) x = (mr_b a c x || mr_b b d x) := by
  unfold mr_b
  split
  · exact nb_or _ _ _
  · exact nb_or _ _ _
theorem mr_b_and {a b c d : Int64} (x : Nat) : mr_b (a &&& b) (c &&& d) x = (mr_b a c x && mr_b b d x) := by
  unfold mr_b
  split
  · exact nb_and _ _ _
  · exact nb_and _ _ _
theorem mr_b_0 (x : Nat) : mr_b (Int64.ofNat 0) (Int64.ofNat 0) x = false := by
  unfold mr_b
  split
  · exact nb_0 _
  · exact nb_0 _
theorem mr_sub {a b : Nat} (h : b ≤ a) (ha : a < 2147483648) : Int32.ofNat a - Int32.ofNat b = Int32.ofNat (a - b) := by
  apply wi_eq.mpr
  rw [wi_sub, wi_on ha, wi_on (by omega), wi_on (by omega), wr_id (by omega) (by omega)]
  omega
theorem mr_ix {n i : Nat} (hn : n < 800) (hi : i < 86) : (Int16.ofInt 172).toInt32 * Int32.ofNat n + Int32.ofInt 2 * Int32.ofNat i = Int32.ofNat (172 * n + 2 * i) := by
  have e1 : (Int16.ofInt 172).toInt32 * Int32.ofNat n = Int32.ofNat (172 * n) := wq_mu (a := 172) (by omega) (by omega) (by omega)
  have e2 : Int32.ofInt 2 * Int32.ofNat i = Int32.ofNat (2 * i) := wq_mu (a := 2) (by omega) (by omega) (by omega)
  rw [e1, e2, wq_ad (by omega)]
theorem mr_iy {i : Nat} (hi : i < 86) : Int32.ofInt 2 * Int32.ofNat i = Int32.ofNat (2 * i) := wq_mu (a := 2) (by omega) (by omega) (by omega)
theorem mr_lt64 {x : Nat} (h : x < 1000) : (Int8.ofInt 64).toInt32 ≤ Int32.ofNat x ↔ ¬ x < 64 := by
  rw [wi_le, wi_on (by omega), show ((Int8.ofInt 64).toInt32).toInt = 64 from rfl]
  omega
/-- one place alone -/
theorem mr_b_1 {p : Nat} (hp : p < 64) (x : Nat) : mr_b (Int64.ofNat 1 <<< ((Int32.ofNat p).toInt64 &&& 63)) (Int64.ofNat 0) x = decide (x = p) := by
  unfold mr_b
  split
  · exact nb_one hp x
  · rw [decide_eq_false (by omega)]
    exact nb_0 _
theorem mr_b_2 {p : Nat} (hp : ¬ p < 64) (hp2 : p < 128) (x : Nat) : mr_b (Int64.ofNat 0) (Int64.ofNat 1 <<< ((Int32.ofNat (p - 64)).toInt64 &&& 63)) x = decide (x = p) := by
  unfold mr_b
  split
  · rw [decide_eq_false (by omega)]
    exact nb_0 _
  · rw [nb_one (by omega)]
    by_cases c : x = p
    · rw [decide_eq_true c, decide_eq_true (by omega)]
    · rw [decide_eq_false c, decide_eq_false (by omega)]
/-- the kept nodes, seen as nodes -/
def mr_V (I : Nat → Nat → Int32) : Nat → Nat → Int32 := fun c j => if c = 468 then I 475 j else if c = 467 then I 473 j else if c = 466 then I 474 j else I (c + 7) j
/-- a property is chosen, lk letters are looked at, wd wild ones follow -/
def mr_X (T : wv_T) (I : Nat → Nat → Int32) (S : rn_N) (m0 lk wd : Nat) (v : Nat → Nat) : Prop := wm_T T ∧ (I 460 37 = Int32.ofNat (rn_n S) ∧ rn_n S ≤ 500 ∧ m0 ≤ 420 ∧ ∀ x, x < rn_n S → pn_1 (mr_V I) S m0 x) ∧ I 460 49 = Int32.ofNat lk ∧ lk ≤ 24 ∧ I 460 32 = Int32.ofNat wd ∧ wd ≤ 60 ∧ ∀ k, k < lk → I 491 k = Int32.ofNat (v k) ∧ v k < 64
/-- whether a letter can hold, or fail to -/
def mr_c (h : Nat → Bool) (lk Z : Nat) (v : Nat → Nat) (i : Nat) (b : Bool) : Bool := if i < lk then h (v i) == b else decide (i < Z)
def mr_c383 : wv_c1 := fun as T N I L R q => as = [.ref 460] ∧ ∀ L1, (∀ x, mr_s L1 x = false) → mr_Fs L L1 → q (.inl none) T N I L1 R 0 0
set_option maxRecDepth 100000 in
theorem wM_383 : ∃ cb ci np, pt_mt 383 = some (32, cb, 1, false, none, ci, np) := ⟨_, _, _, rfl⟩
set_option maxRecDepth 100000 in
set_option maxHeartbeats 4000000 in
theorem mr_clear {sc : pt_Sc} {d : Nat} : wv_C wm_fx sc (d + 1) 383 mr_c383 := by
  rintro as T N I L R q ⟨rfl, h⟩ w0 HR
  obtain ⟨cb, ci, np, hm⟩ := wM_383
  refine wv_meth (hh := none) rfl (sp := fun _ _ _ _ _ _ _ _ => False) (hd := fun _ => none) (n := 0) (n1 := 300) hm zc_383 rfl (fun k as T N I L R q h => by cases h) ?_ (fun pc P h => by cases h) HR
  refine h _ (fun x => ?_) (fun c j hc => ?_)
  · unfold mr_s
    rw [wv_u_no _ _ (by omega), wv_u_at, wv_u_at]
    exact mr_b_0 x
  · rw [wv_u_no _ _ (by omega), wv_u_no _ _ (by omega)]
def mr_c382 : wv_c1 := fun as T N I L R q => ∃ a b : Nat, as = [.ref 460] ∧ I 460 49 = Int32.ofNat a ∧ I 460 32 = Int32.ofNat b ∧ a + b < 1000 ∧ q (.inl (some (.int (Int32.ofNat (a + b))))) T N I L R 0 0
set_option maxRecDepth 100000 in
theorem wM_382 : ∃ cb ci np, pt_mt 382 = some (32, cb, 1, false, some .int, ci, np) := ⟨_, _, _, rfl⟩
set_option maxRecDepth 100000 in
set_option maxHeartbeats 4000000 in
theorem mr_last {sc : pt_Sc} {d : Nat} : wv_C wm_fx sc (d + 1) 382 mr_c382 := by
  rintro as T N I L R q ⟨a, b, rfl, ha, hb, hab, h⟩ w0 HR
  obtain ⟨cb, ci, np, hm⟩ := wM_382
  refine wv_meth (hh := none) rfl (sp := fun _ _ _ _ _ _ _ _ => False) (hd := fun _ => none) (n := 0) (n1 := 300) hm zc_382 rfl (fun k as T N I L R q h => by cases h) ?_ (fun pc P h => by cases h) HR
  show q (.inl (some (.int (I 460 49 + I 460 32)))) T N I L R 0 0
  rw [ha, hb, wq_ad (by omega)]
  exact h
def mr_c385 : wv_c1 := fun as T N I L R q => ∃ a b i : Nat, as = [.ref 460, .int (Int32.ofNat i)] ∧ I 460 49 = Int32.ofNat a ∧ I 460 32 = Int32.ofNat b ∧ a + b < 1000 ∧ i < 1000 ∧ q (.inl (some (.int (wb_i (decide (a ≤ i ∧ i < a + b)))))) T N I L R 0 0
set_option maxRecDepth 100000 in
theorem wM_385 : ∃ cb ci np, pt_mt 385 = some (32, cb, 2, false, some .boolean, ci, np) := ⟨_, _, _, rfl⟩
set_option maxRecDepth 100000 in
set_option maxHeartbeats 4000000 in
theorem mr_isWild {sc : pt_Sc} {d : Nat} : wv_C wm_fx sc (d + 1) 385 mr_c385 := by
  rintro as T N I L R q ⟨a, b, i, rfl, ha, hb, hab, hi, h⟩ w0 HR
  obtain ⟨cb, ci, np, hm⟩ := wM_385
  refine wv_meth (hh := none) rfl (sp := fun _ _ _ _ _ _ _ _ => False) (hd := fun _ => none) (n := 0) (n1 := 300) hm zc_385 rfl (fun k as T N I L R q h => by cases h) ?_ (fun pc P h => by cases h) HR
  have ei := wi_on (n := i) (by omega)
  have ea := wi_on (n := a) (by omega)
  have eb := wi_on (n := a + b) (by omega)
  rw [← wq_ad (by omega)] at eb
  refine ⟨fun w => ⟨⟨rfl, rfl⟩, ?_⟩, fun w => ⟨fun w2 => ⟨⟨rfl, rfl⟩, ?_⟩, fun w2 => ⟨⟨rfl, rfl⟩, ?_⟩⟩⟩
  · rw [ha, wi_lt, ei, ea] at w
    rw [decide_eq_false (by omega)] at h
    exact h
  · rw [ha, wi_lt, ei, ea] at w
    rw [ha, hb, wi_le, eb, ei] at w2
    rw [decide_eq_false (by omega)] at h
    exact h
  · rw [ha, wi_lt, ei, ea] at w
    rw [ha, hb, wi_le, eb, ei] at w2
    rw [decide_eq_true (by omega)] at h
    exact h
def mr_lv (n i : Nat) (b : Bool) (k : Nat) (x5 x6 : Option Value) : List (Option Value) := [some (.ref 460), some (.int (Int32.ofNat n)), some (.int (Int32.ofNat i)), some (.int (wb_i b)), some (.int (Int32.ofNat k)), x5, x6, none, none, none]
def mr_h386 (n i f g u : Nat) (T : wv_T) (N : Nat) (I : Nat → Nat → Int32) (L : Nat → Nat → Int64) (R : Nat → Nat → Option Nat) : Nat → Option (Nat → wv_P) := fun pc =>
  if pc = 10 then some (fun mm lv st T1 N1 I1 L1 R1 nc ns => ∃ (k : Nat) (b : Bool) (x5 x6 : Option Value), lv = mr_lv n i b k x5 x6 ∧ st = [] ∧ T1 = T ∧ N1 = N ∧ I1 = I ∧ L1 = L ∧ R1 = R ∧ nc = 0 ∧ ns = 0 ∧ f ≤ k ∧ k ≤ g ∧ mm = 2 * (g - k) ∧ (b = true ↔ ∃ c, f ≤ c ∧ c < k ∧ ce_h (I 475 c) (Int32.ofNat u)))
  else if pc = 79 then some (fun mm lv st T1 N1 I1 L1 R1 nc ns => ∃ (k : Nat) (b b2 : Bool) (x5 x6 : Option Value), lv = mr_lv n i b k x5 x6 ∧ st = [.int (wb_i b2)] ∧ T1 = T ∧ N1 = N ∧ I1 = I ∧ L1 = L ∧ R1 = R ∧ nc = 0 ∧ ns = 0 ∧ f ≤ k ∧ k < g ∧ mm = 2 * (g - k) - 1 ∧ (b2 = true ↔ ∃ c, f ≤ c ∧ c < k + 1 ∧ ce_h (I 475 c) (Int32.ofNat u)))
  else none
def mr_c386 : wv_c1 := fun as T N I L R q => ∃ (S : rn_N) (m0 lk wd n i : Nat) (v : Nat → Nat), as = [.ref 460, .int (Int32.ofNat n), .int (Int32.ofNat i)] ∧ mr_X T I S m0 lk wd v ∧ n < rn_n S ∧ rn_k S n = 60 ∧ i < lk ∧ q (.inl (some (.int (wb_i (rn_h S n (v i)))))) T N I L R 0 0
set_option maxRecDepth 100000 in
theorem wM_386 : ∃ cb ci np, pt_mt 386 = some (32, cb, 7, false, some .boolean, ci, np) := ⟨_, _, _, rfl⟩
set_option maxRecDepth 100000 in
set_option maxHeartbeats 4000000 in
theorem mr_holds {sc : pt_Sc} {d : Nat} : wv_C wm_fx sc (d + 1) 386 mr_c386 := by
  rintro as T N I L R q ⟨S, m0, lk, wd, n, i, v, rfl, ⟨hT, ⟨h37, hn5, hm0, hM⟩, h49, hlk, h32, hwd, hv⟩, hn, hk, hi, h⟩ w0 HR
  obtain ⟨cb, ci, np, hm⟩ := wM_386
  obtain ⟨f, g, hf, hgg, hfg, hgm, hH⟩ := (hM n hn).2.2.1 hk
  obtain ⟨hv1, hv2⟩ := hv i hi
  refine wv_meth (hh := none) rfl (sp := fun _ _ _ _ _ _ _ _ => False) (hd := mr_h386 n i f g (v i) T N I L R) (n := 300) (n1 := 300) hm zc_386 rfl (fun k as T N I L R q h => by cases h) ?_ ?_ HR
  · have enn := wi_onn (n := n) (by omega)
    refine ⟨_, wm_t hT rfl, pp_b (c := 800) (by omega) (by omega), ?_⟩
    rw [enn]
    have e : I 470 n = Int32.ofNat f := hf
    rw [e]
    exact ⟨_, f, false, none, none, rfl, rfl, rfl, rfl, rfl, rfl, rfl, rfl, rfl, Nat.le_refl _, hfg, rfl, ⟨fun z => (by cases z), fun ⟨c, c1, c2, _⟩ => by omega⟩⟩
  · intro pc P hP m lv st T1 N1 I1 L1 R1 nc ns hh
    have enn := wi_onn (n := n) (by omega)
    have ein := wi_onn (n := i) (by omega)
    have eg := wi_on (n := g) (by omega)
    have hg471 : I 471 n = Int32.ofNat g := hgg
    unfold mr_h386 at hP
    split at hP
    · cases hP
      rename_i hpc
      subst hpc
      obtain ⟨k, b, x5, x6, rfl, rfl, rfl, rfl, rfl, rfl, rfl, rfl, rfl, hk1, hk2, rfl, hb⟩ := hh
      have ek := wi_on (n := k) (by omega)
      have ekn := wi_onn (n := k) (by omega)
      refine ⟨_, wm_t hT rfl, pp_b (c := 800) (by omega) (by omega), ?_⟩
      rw [enn, hg471]
      refine ⟨fun w => ?_, fun w => ?_⟩
      · rw [wi_le, eg, ek] at w
        have ekg : k = g := by omega
        subst ekg
        have eb : b = rn_h S n (v i) := Bool.eq_iff_iff.mpr (hb.trans (hH (v i) hv2).symm)
        rw [← eb] at h
        cases b with
        | true => exact ⟨⟨rfl, rfl⟩, h⟩
        | false => exact ⟨⟨rfl, rfl⟩, h⟩
      rw [wi_le, eg, ek] at w
      refine ⟨_, wm_t hT rfl, pp_b (c := 420) (by omega) (by omega), ?_⟩
      refine ⟨_, wm_t hT rfl, pp_b (c := 24) (by omega) (by omega), ?_⟩
      rw [ekn, ein, hv1]
      refine ⟨fun w1 => ?_, fun w1 => ?_⟩
      · obtain ⟨c, c1, c2, c3⟩ := hb.mp (wb_i_1.mp w1)
        exact ⟨2 * (g - k) - 1, by omega, k, b, true, _, _, rfl, rfl, rfl, rfl, rfl, rfl, rfl, rfl, rfl, hk1, by omega, rfl, ⟨fun _ => ⟨c, c1, by omega, c3⟩, fun _ => rfl⟩⟩
      have nb0 : ¬ ∃ c, f ≤ c ∧ c < k ∧ ce_h (I1 475 c) (Int32.ofNat (v i)) := fun z => by
        rw [hb.mpr z] at w1
        exact w1 (by decide)
      have nk : ¬ ce_h (I1 475 k) (Int32.ofNat (v i)) → ¬ ∃ c, f ≤ c ∧ c < k + 1 ∧ ce_h (I1 475 c) (Int32.ofNat (v i)) := fun z ⟨c, c1, c2, c3⟩ => by
        by_cases e : c = k
        · subst e
          exact z c3
        · exact nb0 ⟨c, c1, by omega, c3⟩
      refine ⟨fun w2 => ?_, fun w2 => ?_⟩
      · have w2 : (Int16.ofInt 4096).toInt32 ≤ I1 475 k := w2
        exact ⟨2 * (g - k) - 1, by omega, k, b, false, _, _, rfl, rfl, rfl, rfl, rfl, rfl, rfl, rfl, rfl, hk1, by omega, rfl, ⟨fun w => (by cases w), fun w => (nk (fun z => by have z1 := z.1; rw [wi_lt] at z1; rw [wi_le] at w2; omega) w).elim⟩⟩
      have w2 : ¬ (Int16.ofInt 4096).toInt32 ≤ I1 475 k := w2
      refine ⟨fun w3 => ?_, fun w3 => ?_⟩
      · exact ⟨2 * (g - k) - 1, by omega, k, b, false, _, _, rfl, rfl, rfl, rfl, rfl, rfl, rfl, rfl, rfl, hk1, by omega, rfl, ⟨fun w => (by cases w), fun w => (nk (fun z => w3 z.2.1) w).elim⟩⟩
      refine ⟨fun w4 => ?_, fun w4 => ?_⟩
      · exact ⟨2 * (g - k) - 1, by omega, k, b, false, _, _, rfl, rfl, rfl, rfl, rfl, rfl, rfl, rfl, rfl, hk1, by omega, rfl, ⟨fun w => (by cases w), fun w => (nk (fun z => w4 z.2.2) w).elim⟩⟩
      · exact ⟨2 * (g - k) - 1, by omega, k, b, true, _, _, rfl, rfl, rfl, rfl, rfl, rfl, rfl, rfl, rfl, hk1, by omega, rfl, ⟨fun _ => ⟨k, hk1, by omega, ⟨by rw [wi_le] at w2; rw [wi_lt]; omega, Decidable.not_not.mp w3, Decidable.not_not.mp w4⟩⟩, fun _ => rfl⟩⟩
    · split at hP
      · cases hP
        rename_i hpc
        subst hpc
        obtain ⟨k, b, b2, x5, x6, rfl, rfl, rfl, rfl, rfl, rfl, rfl, rfl, rfl, hk1, hk2, rfl, hb⟩ := hh
        refine ⟨2 * (g - (k + 1)), by omega, k + 1, b2, x5, x6, ?_, rfl, rfl, rfl, rfl, rfl, rfl, rfl, rfl, by omega, by omega, rfl, hb⟩
        unfold mr_lv
        rw [← wq_4s k]
        rfl
      · cases hP
def mr_c384 : wv_c1 := fun as T N I L R q => ∃ (S : rn_N) (m0 lk wd n i : Nat) (v : Nat → Nat) (b : Bool), as = [.ref 460, .int (Int32.ofNat n), .int (Int32.ofNat i), .int (wb_i b)] ∧ mr_X T I S m0 lk wd v ∧ n < rn_n S ∧ rn_k S n = 60 ∧ i < 1000 ∧ q (.inl (some (.int (wb_i (mr_c (rn_h S n) lk (lk + wd) v i b))))) T N I L R 0 0
set_option maxRecDepth 100000 in
theorem wM_384 : ∃ cb ci np, pt_mt 384 = some (32, cb, 4, false, some .boolean, ci, np) := ⟨_, _, _, rfl⟩
set_option maxRecDepth 100000 in
set_option maxHeartbeats 4000000 in
theorem mr_can {sc : pt_Sc} {d : Nat} : wv_C wm_fx sc (d + 1 + 1) 384 mr_c384 := by
  rintro as T N I L R q ⟨S, m0, lk, wd, n, i, v, b, rfl, hX, hn, hk, hi, h⟩ w0 HR
  obtain ⟨cb, ci, np, hm⟩ := wM_384
  have hc385 : wv_C wm_fx sc (d + 1) 385 mr_c385 := wv_C_deep (by omega) (mr_isWild (d := d))
  have hc386 : wv_C wm_fx sc (d + 1) 386 mr_c386 := wv_C_deep (by omega) (mr_holds (d := d))
  refine wv_meth (hh := none) rfl (sp := wv_sp [(385, mr_c385), (386, mr_c386)]) (hd := fun _ => none) (n := 0) (n1 := 300) hm zc_384 rfl (wv_sp_ok (fun q hq => by
    rcases List.mem_cons.mp hq with h | h
    · rw [h]; exact hc385
    rw [List.mem_singleton.mp h]; exact hc386)) ?_ (fun pc P h => by cases h) HR
  have h49 := hX.2.2.1
  have hlk := hX.2.2.2.1
  have h32 := hX.2.2.2.2.1
  have hwd := hX.2.2.2.2.2.1
  have ei := wi_on (n := i) (by omega)
  have el := wi_on (n := lk) (by omega)
  refine ⟨lk, wd, i, rfl, h49, h32, by omega, hi, ?_⟩
  refine ⟨fun w => ?_, fun w => ?_⟩
  · have w := of_decide_eq_true (wb_i_1.mp w)
    have e : mr_c (rn_h S n) lk (lk + wd) v i b = true := by
      unfold mr_c
      rw [if_neg (by omega), decide_eq_true w.2]
    rw [e] at h
    exact ⟨⟨rfl, rfl⟩, h⟩
  have w := of_decide_eq_false (wb_i_2.mp w)
  refine ⟨fun w2 => ?_, fun w2 => ?_⟩
  · rw [h49, wi_le, ei, el] at w2
    have e : mr_c (rn_h S n) lk (lk + wd) v i b = false := by
      unfold mr_c
      rw [if_neg (by omega), decide_eq_false (by omega)]
    rw [e] at h
    exact ⟨⟨rfl, rfl⟩, h⟩
  rw [h49, wi_le, ei, el] at w2
  have hil : i < lk := by omega
  refine ⟨S, m0, lk, wd, n, i, v, rfl, hX, hn, hk, hil, ?_⟩
  have e : mr_c (rn_h S n) lk (lk + wd) v i b = (rn_h S n (v i) == b) := if_pos hil
  rw [e] at h
  generalize rn_h S n (v i) = x at *
  have d01 : ¬ (0 : Int32) = 1 := by decide
  have d10 : ¬ (1 : Int32) = 0 := by decide
  refine ⟨fun w3 => ⟨⟨rfl, rfl⟩, ?_⟩, fun w3 => ⟨⟨rfl, rfl⟩, ?_⟩⟩
  · cases x <;> cases b
    · exact (w3 rfl).elim
    · exact h
    · exact h
    · exact (w3 rfl).elim
  · have w3 := Decidable.not_not.mp w3
    cases x <;> cases b
    · exact h
    · exact (d01 w3).elim
    · exact (d10 w3).elim
    · exact h
def mr_c387 : wv_c1 := fun as T N I L R q => ∃ p : Nat, as = [.ref 460, .int (Int32.ofNat p)] ∧ p < 128 ∧ ∀ L1, (∀ x, mr_s L1 x = (mr_s L x || decide (x = p))) → mr_Fs L L1 → q (.inl none) T N I L1 R 0 0
set_option maxRecDepth 100000 in
theorem wM_387 : ∃ cb ci np, pt_mt 387 = some (32, cb, 2, false, none, ci, np) := ⟨_, _, _, rfl⟩
set_option maxRecDepth 100000 in
set_option maxHeartbeats 4000000 in
theorem mr_join {sc : pt_Sc} {d : Nat} : wv_C wm_fx sc (d + 1) 387 mr_c387 := by
  rintro as T N I L R q ⟨p, rfl, hp, h⟩ w0 HR
  obtain ⟨cb, ci, np, hm⟩ := wM_387
  refine wv_meth (hh := none) rfl (sp := fun _ _ _ _ _ _ _ _ => False) (hd := fun _ => none) (n := 0) (n1 := 300) hm zc_387 rfl (fun k as T N I L R q h => by cases h) ?_ (fun pc P h => by cases h) HR
  have w64 := mr_lt64 (x := p) (by omega)
  have es : ¬ p < 64 → Int32.ofNat p - (Int8.ofInt 64).toInt32 = Int32.ofNat (p - 64) := fun z => mr_sub (b := 64) (by omega) (by omega)
  refine ⟨fun w => ?_, fun w => ?_⟩
  · have w := w64.mp w
    refine ⟨fun w2 => ?_, fun w2 => (w2 (w64.mpr w)).elim⟩
    refine h _ (fun x => ?_) (fun c j hc => ?_)
    · unfold mr_s
      rw [wv_u_no _ _ (by omega), wv_u_at, wv_u_at, wv_u_no _ _ (by omega), es w, mr_b_or]
      exact congrArg (fun z => mr_s L x || z) (mr_b_2 w hp x)
    · rw [wv_u_no _ _ (by omega), wv_u_no _ _ (by omega)]
  · refine ⟨fun w2 => (w w2).elim, fun _ => ?_⟩
    have w : p < 64 := Decidable.not_not.mp (fun z => w (w64.mpr z))
    refine h _ (fun x => ?_) (fun c j hc => ?_)
    · unfold mr_s
      rw [wv_u_no _ _ (by omega), wv_u_at, wv_u_at, wv_u_no _ _ (by omega), mr_b_or]
      exact congrArg (fun z => mr_s L x || z) (mr_b_1 w x)
    · rw [wv_u_no _ _ (by omega), wv_u_no _ _ (by omega)]
def mr_c388 : wv_c1 := fun as T N I L R q => ∃ n i : Nat, as = [.ref 460, .int (Int32.ofNat n), .int (Int32.ofNat i)] ∧ wm_T T ∧ n < 800 ∧ i < 86 ∧ ∀ L1, (∀ x, mr_e L1 492 (172 * n) i x = mr_s L x) → (∀ c j, ¬ (c = 492 ∧ (j = 172 * n + 2 * i ∨ j = 172 * n + 2 * i + 1)) → L1 c j = L c j) → q (.inl none) T N I L1 R 0 0
set_option maxRecDepth 100000 in
theorem wM_388 : ∃ cb ci np, pt_mt 388 = some (32, cb, 3, false, none, ci, np) := ⟨_, _, _, rfl⟩
set_option maxRecDepth 100000 in
set_option maxHeartbeats 4000000 in
theorem mr_store {sc : pt_Sc} {d : Nat} : wv_C wm_fx sc (d + 1) 388 mr_c388 := by
  rintro as T N I L R q ⟨n, i, rfl, hT, hn, hi, h⟩ w0 HR
  obtain ⟨cb, ci, np, hm⟩ := wM_388
  refine wv_meth (hh := none) rfl (sp := fun _ _ _ _ _ _ _ _ => False) (hd := fun _ => none) (n := 0) (n1 := 300) hm zc_388 rfl (fun k as T N I L R q h => by cases h) ?_ (fun pc P h => by cases h) HR
  have e1 := mr_ix hn hi
  have e2 := wq_4s (172 * n + 2 * i)
  have n1 := wi_onn (n := 172 * n + 2 * i) (by omega)
  have n2 := wi_onn (n := 172 * n + 2 * i + 1) (by omega)
  refine ⟨_, wm_t hT rfl, by rw [e1]; exact pp_b (c := 137600) (by omega) (by omega), by decide, ?_⟩
  refine ⟨_, wm_t hT rfl, by rw [e1, e2]; exact pp_b (c := 137600) (by omega) (by omega), by decide, ?_⟩
  rw [e1, e2, n1, n2]
  refine h _ (fun x => ?_) (fun c j hc => ?_)
  · unfold mr_e mr_s
    rw [wv_u_no _ _ (by omega), wv_u_at, wv_u_at, wv_u_no _ _ (by omega)]
  · rw [wv_u_no _ _ (by omega), wv_u_no _ _ (by omega)]
def mr_c391 : wv_c1 := fun as T N I L R q => ∃ (lo hi : Int64) (p : Nat), as = [.long lo, .long hi, .int (Int32.ofNat p)] ∧ p < 128 ∧ q (.inl (some (.int (wb_i (mr_b lo hi p))))) T N I L R 0 0
set_option maxRecDepth 100000 in
theorem wM_391 : ∃ cb ci np, pt_mt 391 = some (32, cb, 5, false, some .boolean, ci, np) := ⟨_, _, _, rfl⟩
set_option maxRecDepth 100000 in
set_option maxHeartbeats 4000000 in
theorem mr_hasM {sc : pt_Sc} {d : Nat} : wv_C wm_fx sc (d + 1) 391 mr_c391 := by
  rintro as T N I L R q ⟨lo, hi, p, rfl, hp, h⟩ w0 HR
  obtain ⟨cb, ci, np, hm⟩ := wM_391
  refine wv_meth (hh := none) rfl (sp := fun _ _ _ _ _ _ _ _ => False) (hd := fun _ => none) (n := 0) (n1 := 300) hm zc_391 rfl (fun k as T N I L R q h => by cases h) ?_ (fun pc P h => by cases h) HR
  have w64 := mr_lt64 (x := p) (by omega)
  have es : ¬ p < 64 → Int32.ofNat p - (Int8.ofInt 64).toInt32 = Int32.ofNat (p - 64) := fun z => mr_sub (b := 64) (by omega) (by omega)
  have key : ∀ (y : Int64) (k : Nat), k < 64 → (lg_cmp ((y >>> ((Int32.ofNat k).toInt64 &&& 63)) &&& Int64.ofNat 1) (Int64.ofNat 1) = 0 ↔ nb y k = true) := fun y k hk => by
    rw [nb_stest hk, lg_cmp_0]
    cases nb y k with
    | true => exact ⟨fun _ => rfl, fun _ => rfl⟩
    | false => exact ⟨fun z => (by exact absurd z (by decide)), fun z => (by cases z)⟩
  refine ⟨fun w => ?_, fun w => ?_⟩
  · have w := w64.mp w
    have e : mr_b lo hi p = nb hi (p - 64) := if_neg w
    rw [e] at h
    have k1 := key hi (p - 64) (by omega)
    rw [← es w] at k1
    refine ⟨fun w2 => ⟨⟨rfl, rfl⟩, ?_⟩, fun w2 => ⟨⟨rfl, rfl⟩, ?_⟩⟩
    · rw [Bool.eq_false_iff.mpr (fun z => w2 (k1.mpr z))] at h
      exact h
    · rw [k1.mp (Decidable.not_not.mp w2)] at h
      exact h
  · have w : p < 64 := Decidable.not_not.mp (fun z => w (w64.mpr z))
    have e : mr_b lo hi p = nb lo p := if_pos w
    rw [e] at h
    have k1 := key lo p w
    refine ⟨fun w2 => ⟨⟨rfl, rfl⟩, ?_⟩, fun w2 => ⟨⟨rfl, rfl⟩, ?_⟩⟩
    · rw [Bool.eq_false_iff.mpr (fun z => w2 (k1.mpr z))] at h
      exact h
    · rw [k1.mp (Decidable.not_not.mp w2)] at h
      exact h
def mr_c390 : wv_c1 := fun as T N I L R q => ∃ n i j : Nat, as = [.ref 460, .int (Int32.ofNat n), .int (Int32.ofNat i), .int (Int32.ofNat j)] ∧ wm_T T ∧ n < 800 ∧ i < 86 ∧ j < 128 ∧ q (.inl (some (.int (wb_i (mr_e L 492 (172 * n) i j))))) T N I L R 0 0
set_option maxRecDepth 100000 in
theorem wM_390 : ∃ cb ci np, pt_mt 390 = some (32, cb, 4, false, some .boolean, ci, np) := ⟨_, _, _, rfl⟩
set_option maxRecDepth 100000 in
set_option maxHeartbeats 4000000 in
theorem mr_ends {sc : pt_Sc} {d : Nat} : wv_C wm_fx sc (d + 1 + 1) 390 mr_c390 := by
  rintro as T N I L R q ⟨n, i, j, rfl, hT, hn, hi, hj, h⟩ w0 HR
  obtain ⟨cb, ci, np, hm⟩ := wM_390
  have hc391 : wv_C wm_fx sc (d + 1) 391 mr_c391 := wv_C_deep (by omega) (mr_hasM (d := d))
  refine wv_meth (hh := none) rfl (sp := wv_sp [(391, mr_c391)]) (hd := fun _ => none) (n := 0) (n1 := 300) hm zc_390 rfl (wv_sp_ok (fun q hq => by rw [List.mem_singleton.mp hq]; exact hc391)) ?_ (fun pc P h => by cases h) HR
  have e1 := mr_ix hn hi
  have e2 := wq_4s (172 * n + 2 * i)
  have n1 := wi_onn (n := 172 * n + 2 * i) (by omega)
  have n2 := wi_onn (n := 172 * n + 2 * i + 1) (by omega)
  refine ⟨_, wm_t hT rfl, by rw [e1]; exact pp_b (c := 137600) (by omega) (by omega), ?_⟩
  refine ⟨_, wm_t hT rfl, by rw [e1, e2]; exact pp_b (c := 137600) (by omega) (by omega), ?_⟩
  rw [e1, e2, n1, n2]
  refine ⟨_, _, j, rfl, hj, ?_⟩
  have h : q (.inl (some (.int (wb_i (mr_b (L 492 (172 * n + 2 * i)) (L 492 (172 * n + 2 * i + 1)) j))))) T N I L R 0 0 := h
  generalize mr_b (L 492 (172 * n + 2 * i)) (L 492 (172 * n + 2 * i + 1)) j = x at *
  cases x with
  | true => exact ⟨⟨rfl, rfl⟩, h⟩
  | false => exact ⟨⟨rfl, rfl⟩, h⟩
def mr_c392 : wv_c1 := fun as T N I L R q => ∃ n i : Nat, as = [.ref 460, .int (Int32.ofNat n), .int (Int32.ofNat i)] ∧ wm_T T ∧ n < 800 ∧ i < 86 ∧ ∀ L1, (∀ x, mr_s L1 x = (mr_s L x || mr_e L 492 (172 * n) i x)) → mr_Fs L L1 → q (.inl none) T N I L1 R 0 0
set_option maxRecDepth 100000 in
theorem wM_392 : ∃ cb ci np, pt_mt 392 = some (32, cb, 3, false, none, ci, np) := ⟨_, _, _, rfl⟩
set_option maxRecDepth 100000 in
set_option maxHeartbeats 4000000 in
theorem mr_joinEnds {sc : pt_Sc} {d : Nat} : wv_C wm_fx sc (d + 1) 392 mr_c392 := by
  rintro as T N I L R q ⟨n, i, rfl, hT, hn, hi, h⟩ w0 HR
  obtain ⟨cb, ci, np, hm⟩ := wM_392
  refine wv_meth (hh := none) rfl (sp := fun _ _ _ _ _ _ _ _ => False) (hd := fun _ => none) (n := 0) (n1 := 300) hm zc_392 rfl (fun k as T N I L R q h => by cases h) ?_ (fun pc P h => by cases h) HR
  have e1 := mr_ix hn hi
  have e2 := wq_4s (172 * n + 2 * i)
  have n1 := wi_onn (n := 172 * n + 2 * i) (by omega)
  have n2 := wi_onn (n := 172 * n + 2 * i + 1) (by omega)
  refine ⟨_, wm_t hT rfl, by rw [e1]; exact pp_b (c := 137600) (by omega) (by omega), ?_⟩
  refine ⟨_, wm_t hT rfl, by rw [e1, e2]; exact pp_b (c := 137600) (by omega) (by omega), ?_⟩
  rw [e1, e2, n1, n2]
  refine h _ (fun x => ?_) (fun c j hc => ?_)
  · unfold mr_e mr_s
    rw [wv_u_no _ _ (by omega), wv_u_at, wv_u_at, wv_u_no _ _ (by omega), wv_u_no _ _ (by omega), mr_b_or]
  · rw [wv_u_no _ _ (by omega), wv_u_no _ _ (by omega)]
def mr_c395 : wv_c1 := fun as T N I L R q => ∃ i : Nat, as = [.ref 460, .int (Int32.ofNat i)] ∧ wm_T T ∧ i < 86 ∧ ∀ L1, (∀ x, mr_s L1 x = (mr_s L x || mr_e L 493 0 i x)) → mr_Fs L L1 → q (.inl none) T N I L1 R 0 0
set_option maxRecDepth 100000 in
theorem wM_395 : ∃ cb ci np, pt_mt 395 = some (32, cb, 2, false, none, ci, np) := ⟨_, _, _, rfl⟩
set_option maxRecDepth 100000 in
set_option maxHeartbeats 4000000 in
theorem mr_joinRound {sc : pt_Sc} {d : Nat} : wv_C wm_fx sc (d + 1) 395 mr_c395 := by
  rintro as T N I L R q ⟨i, rfl, hT, hi, h⟩ w0 HR
  obtain ⟨cb, ci, np, hm⟩ := wM_395
  refine wv_meth (hh := none) rfl (sp := fun _ _ _ _ _ _ _ _ => False) (hd := fun _ => none) (n := 0) (n1 := 300) hm zc_395 rfl (fun k as T N I L R q h => by cases h) ?_ (fun pc P h => by cases h) HR
  have e1 := mr_iy hi
  have e2 := wq_4s (2 * i)
  have n1 := wi_onn (n := 2 * i) (by omega)
  have n2 := wi_onn (n := 2 * i + 1) (by omega)
  refine ⟨_, wm_t hT rfl, by rw [e1]; exact pp_b (c := 172) (by omega) (by omega), ?_⟩
  refine ⟨_, wm_t hT rfl, by rw [e1, e2]; exact pp_b (c := 172) (by omega) (by omega), ?_⟩
  rw [e1, e2, n1, n2]
  refine h _ (fun x => ?_) (fun c j hc => ?_)
  · unfold mr_e mr_s
    rw [Nat.zero_add, wv_u_no _ _ (by omega), wv_u_at, wv_u_at, wv_u_no _ _ (by omega), wv_u_no _ _ (by omega), mr_b_or]
  · rw [wv_u_no _ _ (by omega), wv_u_no _ _ (by omega)]
def mr_c396 : wv_c1 := fun as T N I L R q => ∃ i : Nat, as = [.ref 460, .int (Int32.ofNat i)] ∧ wm_T T ∧ i < 86 ∧ ∀ L1, (∀ x, mr_e L1 493 0 i x = mr_s L x) → (∀ c j, ¬ (c = 493 ∧ (j = 2 * i ∨ j = 2 * i + 1)) → L1 c j = L c j) → q (.inl none) T N I L1 R 0 0
set_option maxRecDepth 100000 in
theorem wM_396 : ∃ cb ci np, pt_mt 396 = some (32, cb, 2, false, none, ci, np) := ⟨_, _, _, rfl⟩
set_option maxRecDepth 100000 in
set_option maxHeartbeats 4000000 in
theorem mr_storeRound {sc : pt_Sc} {d : Nat} : wv_C wm_fx sc (d + 1) 396 mr_c396 := by
  rintro as T N I L R q ⟨i, rfl, hT, hi, h⟩ w0 HR
  obtain ⟨cb, ci, np, hm⟩ := wM_396
  refine wv_meth (hh := none) rfl (sp := fun _ _ _ _ _ _ _ _ => False) (hd := fun _ => none) (n := 0) (n1 := 300) hm zc_396 rfl (fun k as T N I L R q h => by cases h) ?_ (fun pc P h => by cases h) HR
  have e1 := mr_iy hi
  have e2 := wq_4s (2 * i)
  have n1 := wi_onn (n := 2 * i) (by omega)
  have n2 := wi_onn (n := 2 * i + 1) (by omega)
  refine ⟨_, wm_t hT rfl, by rw [e1]; exact pp_b (c := 172) (by omega) (by omega), by decide, ?_⟩
  refine ⟨_, wm_t hT rfl, by rw [e1, e2]; exact pp_b (c := 172) (by omega) (by omega), by decide, ?_⟩
  rw [e1, e2, n1, n2]
  refine h _ (fun x => ?_) (fun c j hc => ?_)
  · unfold mr_e mr_s
    rw [Nat.zero_add, wv_u_no _ _ (by omega), wv_u_at, wv_u_at, wv_u_no _ _ (by omega)]
  · rw [wv_u_no _ _ (by omega), wv_u_no _ _ (by omega)]
def mr_c379 : wv_c1 := fun as T N I L R q => ∃ k : Nat, as = [.int (Int32.ofNat k)] ∧ k < 1000 ∧ (nq_row k → q (.inl (some (.int 1))) T N I L R 0 0) ∧ (¬ nq_row k → q (.inl (some (.int 0))) T N I L R 0 0)
set_option maxRecDepth 100000 in
theorem wM_379 : ∃ cb ci np, pt_mt 379 = some (32, cb, 1, false, some .boolean, ci, np) := ⟨_, _, _, rfl⟩
set_option maxRecDepth 100000 in
set_option maxHeartbeats 4000000 in
theorem mr_isRow {sc : pt_Sc} {d : Nat} : wv_C wm_fx sc (d + 1) 379 mr_c379 := by
  rintro as T N I L R q ⟨k, rfl, hk, h1, h0⟩ w0 HR
  obtain ⟨cb, ci, np, hm⟩ := wM_379
  refine wv_meth (hh := none) rfl (sp := fun _ _ _ _ _ _ _ _ => False) (hd := fun _ => none) (n := 0) (n1 := 300) hm zc_379 rfl (fun k as T N I L R q h => by cases h) ?_ (fun pc P h => by cases h) HR
  have ek := wi_on (n := k) (by omega)
  have c60 := ap_k (a := k) (b := 60) (k := (Int8.ofInt 60).toInt32) (by omega) (by omega) rfl
  unfold nq_row at h1 h0
  refine ⟨fun w => ⟨⟨rfl, rfl⟩, h1 (Or.inl (c60.mp w))⟩, fun w60 => ⟨fun w => ?_, fun w => ⟨fun w2 => ⟨⟨rfl, rfl⟩, ?_⟩, fun w2 => ?_⟩⟩⟩
  · have w : (Int32.ofNat k).toInt < 23 := wi_lt.mp w
    refine ⟨fun w3 => ⟨⟨rfl, rfl⟩, ?_⟩, fun w3 => ⟨fun w4 => ⟨⟨rfl, rfl⟩, ?_⟩, fun w4 => ⟨⟨rfl, rfl⟩, ?_⟩⟩⟩
    · exact h0 (fun z => by have := mt c60.mpr w60; omega)
    · exact h0 (fun z => by have := mt c60.mpr w60; omega)
    · have w3 : ¬ (Int32.ofNat k).toInt < 40 := fun z => w3 (wi_lt.mpr z)
      omega
  · have w : ¬ (Int32.ofNat k).toInt < 23 := fun z => w (wi_lt.mpr z)
    have w2 : (Int32.ofNat k).toInt ≤ 26 := wi_le.mp w2
    exact h1 (by omega)
  · have w : ¬ (Int32.ofNat k).toInt < 23 := fun z => w (wi_lt.mpr z)
    have w2 : ¬ (Int32.ofNat k).toInt ≤ 26 := fun z => w2 (wi_le.mpr z)
    refine ⟨fun w3 => ⟨⟨rfl, rfl⟩, ?_⟩, fun w3 => ⟨fun w4 => ⟨⟨rfl, rfl⟩, ?_⟩, fun w4 => ⟨⟨rfl, rfl⟩, ?_⟩⟩⟩
    · have w3 : (Int32.ofNat k).toInt < 40 := wi_lt.mp w3
      exact h0 (fun z => by have := mt c60.mpr w60; omega)
    · have w4 : 44 < (Int32.ofNat k).toInt := wi_lt.mp w4
      exact h0 (fun z => by have := mt c60.mpr w60; omega)
    · have w3 : ¬ (Int32.ofNat k).toInt < 40 := fun z => w3 (wi_lt.mpr z)
      have w4 : ¬ 44 < (Int32.ofNat k).toInt := fun z => w4 (wi_lt.mpr z)
      exact h1 (by omega)
