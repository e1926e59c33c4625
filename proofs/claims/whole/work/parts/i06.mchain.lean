/-! ===== the reference: chains ===== -/
/-- what one place of the first adds -/
def mr_g (k : Nat) (F : Nat → Nat → Prop) (i b x : Nat) : Prop := if k = 23 then F b x else i < b ∧ F (b - 1) x ∧ ¬ x = b - 1
def mr_ch (k : Nat) (E F : Nat → Nat → Prop) (i m x : Nat) : Prop := ∃ b, i ≤ b ∧ b < m ∧ E i b ∧ mr_g k F i b x
theorem mr_ch_0 {k : Nat} {E F : Nat → Nat → Prop} {i x : Nat} : ¬ mr_ch k E F i i x := fun ⟨b, b1, b2, _⟩ => by omega
theorem mr_ch_s {k : Nat} {E F : Nat → Nat → Prop} {i m x : Nat} (h : i ≤ m) : mr_ch k E F i (m + 1) x ↔ mr_ch k E F i m x ∨ (E i m ∧ mr_g k F i m x) := by
  constructor
  · rintro ⟨b, b1, b2, b3⟩
    by_cases e : b = m
    · subst e
      exact Or.inr b3
    · exact Or.inl ⟨b, b1, by omega, b3⟩
  · rintro (⟨b, b1, b2, b3⟩ | z)
    · exact ⟨b, b1, by omega, b3⟩
    · exact ⟨m, h, by omega, z⟩
theorem mr_m1 {y : Int64} {x : Nat} : nb (y &&& -1) x = nb y x := by
  rw [nb_and]
  by_cases c : x < 64
  · rw [nb_m1 c, Bool.and_true]
  · rw [nb_hi (by omega), Bool.false_and]
theorem mr_mx {y : Int64} {p x : Nat} (hp : p < 64) : nb (y &&& (Int64.ofNat 1 <<< ((Int32.ofNat p).toInt64 &&& 63) ^^^ -1)) x = (nb y x && !decide (x = p)) := by
  rw [nb_and, nb_xor, nb_one hp]
  by_cases c : x < 64
  · rw [nb_m1 c, Bool.xor_true]
  · rw [nb_hi (x := y) (by omega), Bool.false_and, Bool.false_and]
theorem mr_out1 {a c : Int64} {p x : Nat} (hp : p < 64) : mr_b (a &&& (Int64.ofNat 1 <<< ((Int32.ofNat p).toInt64 &&& 63) ^^^ -1)) (c &&& -1) x = (mr_b a c x && !decide (x = p)) := by
  unfold mr_b
  split
  · exact mr_mx hp
  · rw [mr_m1, decide_eq_false (by omega), Bool.not_false, Bool.and_true]
theorem mr_out2 {a c : Int64} {p x : Nat} (hp : ¬ p < 64) (hp2 : p < 128) : mr_b (a &&& -1) (c &&& (Int64.ofNat 1 <<< ((Int32.ofNat (p - 64)).toInt64 &&& 63) ^^^ -1)) x = (mr_b a c x && !decide (x = p)) := by
  unfold mr_b
  split
  · rw [mr_m1, decide_eq_false (by omega), Bool.not_false, Bool.and_true]
  · rw [mr_mx (by omega)]
    by_cases e : x = p
    · rw [decide_eq_true e, decide_eq_true (by omega)]
    · rw [decide_eq_false e, decide_eq_false (by omega)]
def mr_lc (n l r i k : Nat) (x6 x7 x8 x9 : Option Value) : List (Option Value) := [some (.ref 460), some (.int (Int32.ofNat n)), some (.int (Int32.ofNat l)), some (.int (Int32.ofNat r)), some (.int (Int32.ofNat i)), some (.int (Int32.ofNat k)), x6, x7, x8, x9, none, none]
def mr_h389 (Z n l r kd : Nat) (T : wv_T) (N : Nat) (I : Nat → Nat → Int32) (L : Nat → Nat → Int64) (R : Nat → Nat → Option Nat) : Nat → Option (Nat → wv_P) := fun pc =>
  if pc = 17 then some (fun mm lv st T1 N1 I1 L1 R1 nc ns => ∃ (i : Nat) (x5 x6 x7 x8 x9 : Option Value), lv = [some (.ref 460), some (.int (Int32.ofNat n)), some (.int (Int32.ofNat l)), some (.int (Int32.ofNat r)), some (.int (Int32.ofNat i)), x5, x6, x7, x8, x9, none, none] ∧ st = [] ∧ T1 = T ∧ N1 = N ∧ I1 = I ∧ R1 = R ∧ nc = 0 ∧ ns = 0 ∧ i ≤ Z + 1 ∧ mm = 400 * (Z + 1 - i) ∧ mr_Fa n L L1 ∧ ∀ j x, j < i → (mr_e L1 492 (172 * n) j x = true ↔ mr_ch kd (mr_E L l) (mr_E L r) j (Z + 1) x))
  else if pc = 34 then some (fun mm lv st T1 N1 I1 L1 R1 nc ns => ∃ (i k : Nat) (x6 x7 x8 x9 : Option Value), lv = mr_lc n l r i k x6 x7 x8 x9 ∧ st = [] ∧ T1 = T ∧ N1 = N ∧ I1 = I ∧ R1 = R ∧ nc = 0 ∧ ns = 0 ∧ i ≤ k ∧ i ≤ Z ∧ k ≤ Z + 1 ∧ mm = 400 * (Z + 1 - i) - 1 - 3 * k ∧ mr_Fa n L L1 ∧ (∀ j x, j < i → (mr_e L1 492 (172 * n) j x = true ↔ mr_ch kd (mr_E L l) (mr_E L r) j (Z + 1) x)) ∧ ∀ x, mr_s L1 x = true ↔ mr_ch kd (mr_E L l) (mr_E L r) i k x)
  else if pc = 199 then some (fun mm lv st T1 N1 I1 L1 R1 nc ns => ∃ (i k : Nat) (x6 x7 x8 x9 : Option Value), lv = mr_lc n l r i k x6 x7 x8 x9 ∧ st = [] ∧ T1 = T ∧ N1 = N ∧ I1 = I ∧ R1 = R ∧ nc = 0 ∧ ns = 0 ∧ i ≤ k ∧ k ≤ Z ∧ mm = 400 * (Z + 1 - i) - 3 - 3 * k ∧ mr_Fa n L L1 ∧ (∀ j x, j < i → (mr_e L1 492 (172 * n) j x = true ↔ mr_ch kd (mr_E L l) (mr_E L r) j (Z + 1) x)) ∧ ∀ x, mr_s L1 x = true ↔ mr_ch kd (mr_E L l) (mr_E L r) i (k + 1) x)
  else if pc = 76 then some (fun mm lv st T1 N1 I1 L1 R1 nc ns => ∃ (i k : Nat) (x6 x7 x8 x9 : Option Value), lv = mr_lc n l r i k x6 x7 x8 x9 ∧ st = [] ∧ T1 = T ∧ N1 = N ∧ I1 = I ∧ R1 = R ∧ nc = 0 ∧ ns = 0 ∧ i ≤ k ∧ k ≤ Z ∧ ¬ kd = 23 ∧ mr_E L l i k ∧ mm = 400 * (Z + 1 - i) - 2 - 3 * k ∧ mr_Fa n L L1 ∧ (∀ j x, j < i → (mr_e L1 492 (172 * n) j x = true ↔ mr_ch kd (mr_E L l) (mr_E L r) j (Z + 1) x)) ∧ ∀ x, mr_s L1 x = true ↔ mr_ch kd (mr_E L l) (mr_E L r) i k x)
  else none
def mr_c389 : wv_c1 := fun as T N I L R q => ∃ (S : rn_N) (m0 lk wd n : Nat) (v : Nat → Nat), as = [.ref 460, .int (Int32.ofNat n)] ∧ mr_X T I S m0 lk wd v ∧ n < rn_n S ∧ (23 ≤ rn_k S n ∧ rn_k S n ≤ 24) ∧ nq_l (rn_d S n) < n ∧ nq_r (rn_d S n) < n ∧ ∀ L1, (∀ i x, i ≤ lk + wd → (mr_e L1 492 (172 * n) i x = true ↔ mr_ch (rn_k S n) (mr_E L (nq_l (rn_d S n))) (mr_E L (nq_r (rn_d S n))) i (lk + wd + 1) x)) → mr_Fa n L L1 → q (.inl none) T N I L1 R 0 0
set_option maxRecDepth 100000 in
theorem wM_389 : ∃ cb ci np, pt_mt 389 = some (32, cb, 10, false, none, ci, np) := ⟨_, _, _, rfl⟩
set_option maxRecDepth 100000 in
set_option maxHeartbeats 4000000 in
theorem mr_chains {sc : pt_Sc} {d : Nat} : wv_C wm_fx sc (d + 1 + 1 + 1) 389 mr_c389 := by
  rintro as T N I L R q ⟨S, m0, lk, wd, n, v, rfl, ⟨hT, ⟨h37, hn5, hm0, hM⟩, h49, hlk, h32, hwd, hv⟩, hn, hk, hl, hr, h⟩ w0 HR
  obtain ⟨cb, ci, np, hm⟩ := wM_389
  obtain ⟨e1, e2, e3⟩ := mr_nd (hM n hn) (by omega)
  have hc382 : wv_C wm_fx sc (d + 1 + 1) 382 mr_c382 := wv_C_deep (by omega) (mr_last (d := d))
  have hc383 : wv_C wm_fx sc (d + 1 + 1) 383 mr_c383 := wv_C_deep (by omega) (mr_clear (d := d))
  have hc388 : wv_C wm_fx sc (d + 1 + 1) 388 mr_c388 := wv_C_deep (by omega) (mr_store (d := d))
  have hc390 : wv_C wm_fx sc (d + 1 + 1) 390 mr_c390 := wv_C_deep (by omega) (mr_ends (d := d))
  have hc392 : wv_C wm_fx sc (d + 1 + 1) 392 mr_c392 := wv_C_deep (by omega) (mr_joinEnds (d := d))
  refine wv_meth (hh := none) rfl (sp := wv_sp [(382, mr_c382), (383, mr_c383), (388, mr_c388), (390, mr_c390), (392, mr_c392)]) (hd := mr_h389 (lk + wd) n (nq_l (rn_d S n)) (nq_r (rn_d S n)) (rn_k S n) T N I L R) (n := 300) (n1 := 300) hm zc_389 rfl (wv_sp_ok (fun q hq => by
    rcases List.mem_cons.mp hq with h | h
    · rw [h]; exact hc382
    rcases List.mem_cons.mp h with h | h
    · rw [h]; exact hc383
    rcases List.mem_cons.mp h with h | h
    · rw [h]; exact hc388
    rcases List.mem_cons.mp h with h | h
    · rw [h]; exact hc390
    rw [List.mem_singleton.mp h]; exact hc392)) ?_ ?_ HR
  · have enn := wi_onn (n := n) (by omega)
    refine ⟨_, wm_t hT rfl, pp_b (c := 800) (by omega) (by omega), ?_⟩
    refine ⟨_, wm_t hT rfl, pp_b (c := 800) (by omega) (by omega), ?_⟩
    rw [enn, e2, e3]
    exact ⟨_, 0, none, none, none, none, none, rfl, rfl, rfl, rfl, rfl, rfl, rfl, rfl, by omega, rfl, mr_Fa_r _ _, fun k x hk => by omega⟩
  · intro pc P hP m lv st T1 N1 I1 L1 R1 nc ns hh
    generalize nq_l (rn_d S n) = l at *
    generalize nq_r (rn_d S n) = r at *
    generalize rn_k S n = kd at *
    have ez := wi_on (n := lk + wd) (by omega)
    have enn := wi_onn (n := n) (by omega)
    unfold mr_h389 at hP
    by_cases p17 : pc = 17
    · rw [if_pos p17] at hP
      cases hP
      subst p17
      obtain ⟨i, x5, x6, x7, x8, x9, rfl, rfl, rfl, rfl, rfl, rfl, rfl, rfl, hi, rfl, hF, hE⟩ := hh
      have ei := wi_on (n := i) (by omega)
      refine ⟨lk, wd, rfl, h49, h32, by omega, ?_⟩
      refine ⟨fun w => ?_, fun w => ?_⟩
      · rw [wi_lt, ei, ez] at w
        exact h _ (fun k x hk => hE k x (by omega)) hF
      rw [wi_lt, ei, ez] at w
      refine ⟨rfl, fun L2 s2 f2 => ?_⟩
      refine ⟨400 * (lk + wd + 1 - i) - 1 - 3 * i, by omega, i, i, _, _, _, _, rfl, rfl, rfl, rfl, rfl, rfl, rfl, rfl, by omega, by omega, by omega, rfl, mr_Fa_s hF f2, fun j x hj => ?_, fun x => ?_⟩
      · rw [mr_Fs_e f2 (by decide)]
        exact hE j x hj
      · rw [s2]
        exact ⟨fun z => (by cases z), fun z => (mr_ch_0 z).elim⟩
    rw [if_neg p17] at hP
    by_cases p34 : pc = 34
    · rw [if_pos p34] at hP
      cases hP
      subst p34
      obtain ⟨i, k, x6, x7, x8, x9, rfl, rfl, rfl, rfl, rfl, rfl, rfl, rfl, hik, hi, hk2, rfl, hF, hE, hs⟩ := hh
      have ek := wi_on (n := k) (by omega)
      refine ⟨lk, wd, rfl, h49, h32, by omega, ?_⟩
      refine ⟨fun w => ?_, fun w => ?_⟩
      · rw [wi_lt, ek, ez] at w
        refine ⟨n, i, rfl, hT, by omega, by omega, fun L4 s4 f4 => ?_⟩
        refine ⟨400 * (lk + wd + 1 - (i + 1)), by omega, i + 1, _, _, _, _, _, by rw [← wq_4s i]; rfl, rfl, rfl, rfl, rfl, rfl, rfl, rfl, by omega, rfl, mr_Fa_1 (by omega) hF f4, fun j x hj => ?_⟩
        by_cases e : j = i
        · subst e
          rw [s4, hs, show k = lk + wd + 1 by omega]
        · rw [mr_F1_e f4 (by omega) (by omega) (by omega)]
          exact hE j x (by omega)
      rw [wi_lt, ek, ez] at w
      refine ⟨l, i, k, rfl, hT, by omega, by omega, by omega, ?_⟩
      have ee : mr_e L1 492 (172 * l) i k = mr_e L 492 (172 * l) i k := mr_Fa_e hF (by omega) (by omega)
      refine ⟨fun w2 => ?_, fun w2 => ?_⟩
      · have w2 := wb_i_2.mp (fun z => z w2)
        rw [ee] at w2
        refine ⟨400 * (lk + wd + 1 - i) - 3 - 3 * k, by omega, i, k, _, _, _, _, rfl, rfl, rfl, rfl, rfl, rfl, rfl, rfl, by omega, by omega, rfl, hF, hE, fun x => ?_⟩
        rw [hs, mr_ch_s hik]
        refine ⟨Or.inl, fun z => z.elim id (fun y => ?_)⟩
        have y1 : mr_e L 492 (172 * l) i k = true := y.1
        rw [w2] at y1
        cases y1
      have w2 := wb_i_1.mp w2
      rw [ee] at w2
      refine ⟨_, wm_t hT rfl, pp_b (c := 800) (by omega) (by omega), ?_⟩
      rw [enn, e1]
      refine ⟨fun w3 => ?_, fun w3 => ?_⟩
      · have w3 : ¬ kd = 23 := fun z => w3 (by rw [z]; rfl)
        exact ⟨400 * (lk + wd + 1 - i) - 2 - 3 * k, by omega, i, k, _, _, _, _, rfl, rfl, rfl, rfl, rfl, rfl, rfl, rfl, by omega, by omega, w3, w2, rfl, hF, hE, hs⟩
      · have w3 : kd = 23 := Decidable.not_not.mp (fun z => w3 (fun y => z ((ap_k (by omega) (by omega) rfl).mp y)))
        refine ⟨r, k, rfl, hT, by omega, by omega, fun L4 s4 f4 => ?_⟩
        refine ⟨400 * (lk + wd + 1 - i) - 3 - 3 * k, by omega, i, k, _, _, _, _, rfl, rfl, rfl, rfl, rfl, rfl, rfl, rfl, by omega, by omega, rfl, mr_Fa_s hF f4, fun j x hj => ?_, fun x => ?_⟩
        · rw [mr_Fs_e f4 (by decide)]
          exact hE j x hj
        · rw [s4, Bool.or_eq_true, hs, mr_ch_s hik, mr_Fa_e hF (by omega) (by omega)]
          unfold mr_g
          rw [if_pos w3]
          exact ⟨fun z => z.elim Or.inl (fun y => Or.inr ⟨w2, y⟩), fun z => z.elim Or.inl (fun y => Or.inr y.2)⟩
    rw [if_neg p34] at hP
    by_cases p199 : pc = 199
    · rw [if_pos p199] at hP
      cases hP
      subst p199
      obtain ⟨i, k, x6, x7, x8, x9, rfl, rfl, rfl, rfl, rfl, rfl, rfl, rfl, hik, hk2, rfl, hF, hE, hs⟩ := hh
      refine ⟨400 * (lk + wd + 1 - i) - 1 - 3 * (k + 1), by omega, i, k + 1, x6, x7, x8, x9, ?_, rfl, rfl, rfl, rfl, rfl, rfl, rfl, by omega, by omega, by omega, rfl, hF, hE, hs⟩
      unfold mr_lc
      rw [← wq_4s k]
      rfl
    rw [if_neg p199] at hP
    by_cases p76 : pc = 76
    · rw [if_pos p76] at hP
      cases hP
      subst p76
      obtain ⟨i, k, x6, x7, x8, x9, rfl, rfl, rfl, rfl, rfl, rfl, rfl, rfl, hik, hk2, n23, hEk, rfl, hF, hE, hs⟩ := hh
      have ei := wi_on (n := i) (by omega)
      have ek := wi_on (n := k) (by omega)
      refine ⟨fun w => ?_, fun w => ?_⟩
      · rw [wi_le, ei, ek] at w
        refine ⟨400 * (lk + wd + 1 - i) - 3 - 3 * k, by omega, i, k, x6, x7, x8, x9, rfl, rfl, rfl, rfl, rfl, rfl, rfl, rfl, by omega, by omega, rfl, hF, hE, fun x => ?_⟩
        rw [hs, mr_ch_s hik]
        refine ⟨Or.inl, fun z => z.elim id (fun y => ?_)⟩
        have y2 := y.2
        unfold mr_g at y2
        rw [if_neg n23] at y2
        omega
      rw [wi_le, ei, ek] at w
      obtain ⟨b, rfl⟩ : ∃ b, k = b + 1 := ⟨k - 1, by omega⟩
      have eb : Int32.ofNat (b + 1) - Int32.ofInt 1 = Int32.ofNat b := wq_s1 (by omega)
      have eb2 : ¬ b < 64 → Int32.ofNat (b + 1) - (Int8.ofInt 65).toInt32 = Int32.ofNat (b - 64) := fun z => (mr_sub (a := b + 1) (b := 65) (by omega) (by omega)).trans (congrArg Int32.ofNat (by omega))
      have w64 := mr_lt64 (x := b) (by omega)
      refine ⟨rfl, fun L2 s2 f2 => ?_⟩
      refine ⟨r, b, congrArg (fun z => [Value.ref 460, Value.int (Int32.ofNat r), Value.int z]) eb, hT, by omega, by omega, fun L3 s3 f3 => ?_⟩
      have q3 : ∀ x, mr_s L3 x = mr_e L 492 (172 * r) b x := fun x => by
        rw [s3, s2, Bool.false_or, mr_Fs_e f2 (by decide), mr_Fa_e hF (by omega) (by omega)]
      have F3 := mr_Fa_s (mr_Fa_s hF f2) f3
      have E3 : ∀ j x, j < i → (mr_e L3 492 (172 * n) j x = true ↔ mr_ch kd (mr_E L l) (mr_E L r) j (lk + wd + 1) x) := fun j x hj => by
        rw [mr_Fs_e f3 (by decide), mr_Fs_e f2 (by decide)]
        exact hE j x hj
      have fin : ∀ (u : Bool) (x : Nat), (u = (mr_e L 492 (172 * r) b x && !decide (x = b))) → ((u || mr_s L1 x) = true ↔ mr_ch kd (mr_E L l) (mr_E L r) i (b + 1 + 1) x) := fun u x hu => by
        rw [Bool.or_eq_true, hs, mr_ch_s hik, hu, Bool.and_eq_true, Bool.not_eq_true', decide_eq_false_iff_not]
        unfold mr_g
        rw [if_neg n23]
        exact ⟨fun z => z.elim (fun y => Or.inr ⟨hEk, by omega, y⟩) Or.inl, fun z => z.elim Or.inr (fun y => Or.inl y.2.2)⟩
      refine ⟨fun w2 => ?_, fun w2 => ?_⟩
      · rw [eb] at w2
        have w2 := w64.mp w2
        refine ⟨fun w3 => ?_, fun w3 => ?_⟩
        · refine ⟨400 * (lk + wd + 1 - i) - 3 - 3 * (b + 1), by omega, i, b + 1, _, _, _, _, rfl, rfl, rfl, rfl, rfl, rfl, rfl, rfl, by omega, by omega, rfl, mr_Fa_s (mr_Fa_s F3 mr_Fs_u) mr_Fs_u, fun j x hj => ?_, fun x => ?_⟩
          · rw [mr_Fs_e mr_Fs_u (by decide), mr_Fs_e mr_Fs_u (by decide)]
            exact E3 j x hj
          · rw [mr_s_or]
            refine fin _ x ?_
            rw [mr_s_u, wv_u_no _ _ (by omega), eb2 w2]
            refine (mr_out2 w2 (by omega)).trans ?_
            rw [← q3]
            rfl
        · rw [eb] at w3
          exact (w3 (w64.mpr w2)).elim
      · rw [eb] at w2
        refine ⟨fun w3 => ?_, fun w3 => ?_⟩
        · rw [eb] at w3
          exact (w2 w3).elim
        · have w2 : b < 64 := Decidable.not_not.mp (fun z => w2 (w64.mpr z))
          refine ⟨400 * (lk + wd + 1 - i) - 3 - 3 * (b + 1), by omega, i, b + 1, _, _, _, _, rfl, rfl, rfl, rfl, rfl, rfl, rfl, rfl, by omega, by omega, rfl, mr_Fa_s (mr_Fa_s F3 mr_Fs_u) mr_Fs_u, fun j x hj => ?_, fun x => ?_⟩
          · rw [mr_Fs_e mr_Fs_u (by decide), mr_Fs_e mr_Fs_u (by decide)]
            exact E3 j x hj
          · rw [mr_s_or]
            refine fin _ x ?_
            rw [mr_s_u, wv_u_no _ _ (by omega), eb]
            refine (mr_out1 w2).trans ?_
            rw [← q3]
            rfl
    rw [if_neg p76] at hP
    cases hP
