/-! ===== the reference: rounds, choices and chains ===== -/
theorem mr_s_u {L : Nat → Nat → Int64} {a b : Int64} {x : Nat} : mr_s (wv_u (wv_u L 460 53 a) 460 54 b) x = mr_b a b x := by
  unfold mr_s
  rw [wv_u_no _ _ (by omega), wv_u_at, wv_u_at]
theorem mr_Fs_u {L : Nat → Nat → Int64} {a b : Int64} : mr_Fs L (wv_u (wv_u L 460 53 a) 460 54 b) := fun c j h => by
  rw [wv_u_no _ _ (by omega), wv_u_no _ _ (by omega)]
theorem mr_s_and {L : Nat → Nat → Int64} {a c : Int64} {x : Nat} : mr_s (wv_u (wv_u L 460 53 (L 460 53 &&& a)) 460 54 (wv_u L 460 53 (L 460 53 &&& a) 460 54 &&& c)) x = (mr_s L x && mr_b a c x) := by
  rw [mr_s_u, wv_u_no _ _ (by omega), mr_b_and]
  rfl
theorem mr_s_or {L : Nat → Nat → Int64} {a c : Int64} {x : Nat} : mr_s (wv_u (wv_u L 460 53 (L 460 53 ||| a)) 460 54 (wv_u L 460 53 (L 460 53 ||| a) 460 54 ||| c)) x = (mr_s L x || mr_b a c x) := by
  rw [mr_s_u, wv_u_no _ _ (by omega), mr_b_or]
  rfl
def mr_i (j : Nat) : Int32 := Int32.ofInt ((j : Int) - 1)
theorem mr_i_s {k : Nat} (h : k < 1000000) : mr_i (k + 1) = Int32.ofNat k := by
  apply wi_eq.mpr
  unfold mr_i
  rw [wi_of, wi_on (by omega), wr_id (by omega) (by omega)]
  omega
theorem mr_i_d {k : Nat} (h : k < 1000000) : Int32.ofNat k + Int32.ofInt (-1) = mr_i k := by
  apply wi_eq.mpr
  unfold mr_i
  rw [wi_add, wi_on (by omega), wi_of, wi_of, wr_id (x := -1) (by omega) (by omega), wr_id (by omega) (by omega), wr_id (by omega) (by omega)]
  omega
theorem mr_i_n {j : Nat} (h : j < 1000000) : mr_i j < 0 ↔ j = 0 := by
  unfold mr_i
  rw [wi_lt, wi_0, wi_of, wr_id (by omega) (by omega)]
  omega
/-- kind, left, right of a node in the memory -/
theorem mr_nd {I : Nat → Nat → Int32} {S : rn_N} {m0 x : Nat} (h : pn_1 (mr_V I) S m0 x) (h6 : ¬ rn_k S x = 60) : I 469 x = Int32.ofNat (rn_k S x) ∧ I 470 x = Int32.ofNat (nq_l (rn_d S x)) ∧ I 471 x = Int32.ofNat (nq_r (rn_d S x)) := ⟨h.1, (h.2.2.2 h6).1, (h.2.2.2 h6).2.1⟩
/-- both, or one of two rows -/
def mr_ob (k : Nat) (a b : Bool) : Bool := if k = 26 then a && b else a || b
def mr_h393 (Z n l r k : Nat) (T : wv_T) (N : Nat) (I : Nat → Nat → Int32) (L : Nat → Nat → Int64) (R : Nat → Nat → Option Nat) : Nat → Option (Nat → wv_P) := fun pc =>
  if pc = 35 then some (fun mm lv st T1 N1 I1 L1 R1 nc ns => ∃ (i : Nat) (x6 x7 x8 x9 : Option Value), lv = [some (.ref 460), some (.int (Int32.ofNat n)), some (.int (Int32.ofNat l)), some (.int (Int32.ofNat r)), some (.int (wb_i (decide (k = 26)))), some (.int (Int32.ofNat i)), x6, x7, x8, x9, none, none] ∧ st = [] ∧ T1 = T ∧ N1 = N ∧ I1 = I ∧ R1 = R ∧ nc = 0 ∧ ns = 0 ∧ i ≤ Z + 1 ∧ mm = Z + 1 - i ∧ mr_Fa n L L1 ∧ (∀ j x, j < i → mr_e L1 492 (172 * n) j x = mr_ob k (mr_e L 492 (172 * l) j x) (mr_e L 492 (172 * r) j x)))
  else none
def mr_c393 : wv_c1 := fun as T N I L R q => ∃ (S : rn_N) (m0 lk wd n : Nat) (v : Nat → Nat), as = [.ref 460, .int (Int32.ofNat n)] ∧ mr_X T I S m0 lk wd v ∧ n < rn_n S ∧ (25 ≤ rn_k S n ∧ rn_k S n ≤ 26) ∧ nq_l (rn_d S n) < n ∧ nq_r (rn_d S n) < n ∧ ∀ L1, (∀ i x, i ≤ lk + wd → mr_e L1 492 (172 * n) i x = mr_ob (rn_k S n) (mr_e L 492 (172 * nq_l (rn_d S n)) i x) (mr_e L 492 (172 * nq_r (rn_d S n)) i x)) → mr_Fa n L L1 → q (.inl none) T N I L1 R 0 0
set_option maxRecDepth 100000 in
theorem wM_393 : ∃ cb ci np, pt_mt 393 = some (32, cb, 10, false, none, ci, np) := ⟨_, _, _, rfl⟩
set_option maxRecDepth 100000 in
set_option maxHeartbeats 4000000 in
theorem mr_choices {sc : pt_Sc} {d : Nat} : wv_C wm_fx sc (d + 1 + 1) 393 mr_c393 := by
  rintro as T N I L R q ⟨S, m0, lk, wd, n, v, rfl, ⟨hT, ⟨h37, hn5, hm0, hM⟩, h49, hlk, h32, hwd, hv⟩, hn, hk, hl, hr, h⟩ w0 HR
  obtain ⟨cb, ci, np, hm⟩ := wM_393
  obtain ⟨e1, e2, e3⟩ := mr_nd (hM n hn) (by omega)
  have hc382 : wv_C wm_fx sc (d + 1) 382 mr_c382 := wv_C_deep (by omega) (mr_last (d := d))
  have hc383 : wv_C wm_fx sc (d + 1) 383 mr_c383 := wv_C_deep (by omega) (mr_clear (d := d))
  have hc392 : wv_C wm_fx sc (d + 1) 392 mr_c392 := wv_C_deep (by omega) (mr_joinEnds (d := d))
  have hc388 : wv_C wm_fx sc (d + 1) 388 mr_c388 := wv_C_deep (by omega) (mr_store (d := d))
  refine wv_meth (hh := none) rfl (sp := wv_sp [(382, mr_c382), (383, mr_c383), (392, mr_c392), (388, mr_c388)]) (hd := mr_h393 (lk + wd) n (nq_l (rn_d S n)) (nq_r (rn_d S n)) (rn_k S n) T N I L R) (n := 300) (n1 := 300) hm zc_393 rfl (wv_sp_ok (fun q hq => by
    rcases List.mem_cons.mp hq with h | h
    · rw [h]; exact hc382
    rcases List.mem_cons.mp h with h | h
    · rw [h]; exact hc383
    rcases List.mem_cons.mp h with h | h
    · rw [h]; exact hc392
    rw [List.mem_singleton.mp h]; exact hc388)) ?_ ?_ HR
  · have enn := wi_onn (n := n) (by omega)
    refine ⟨_, wm_t hT rfl, pp_b (c := 800) (by omega) (by omega), ?_⟩
    refine ⟨_, wm_t hT rfl, pp_b (c := 800) (by omega) (by omega), ?_⟩
    refine ⟨_, wm_t hT rfl, pp_b (c := 800) (by omega) (by omega), ?_⟩
    rw [enn, e1, e2, e3]
    refine ⟨fun w => ?_, fun w => ?_⟩
    · have w : ¬ rn_k S n = 26 := fun z => w (by rw [z]; rfl)
      exact ⟨_, 0, none, none, none, none, by rw [decide_eq_false w]; rfl, rfl, rfl, rfl, rfl, rfl, rfl, rfl, by omega, rfl, mr_Fa_r _ _, fun k x hk => by omega⟩
    · have w : rn_k S n = 26 := Decidable.not_not.mp (fun z => w (fun y => z ((ap_k (by omega) (by omega) rfl).mp y)))
      exact ⟨_, 0, none, none, none, none, by rw [decide_eq_true w]; rfl, rfl, rfl, rfl, rfl, rfl, rfl, rfl, by omega, rfl, mr_Fa_r _ _, fun k x hk => by omega⟩
  · intro pc P hP m lv st T1 N1 I1 L1 R1 nc ns hh
    generalize nq_l (rn_d S n) = l at *
    generalize nq_r (rn_d S n) = r at *
    generalize rn_k S n = k at *
    unfold mr_h393 at hP
    split at hP
    · cases hP
      rename_i hpc
      subst hpc
      obtain ⟨i, x6, x7, x8, x9, rfl, rfl, rfl, rfl, rfl, rfl, rfl, rfl, hi, rfl, hF, hE⟩ := hh
      have ei := wi_on (n := i) (by omega)
      have ez := wi_on (n := lk + wd) (by omega)
      refine ⟨lk, wd, rfl, h49, h32, by omega, ?_⟩
      refine ⟨fun w => ?_, fun w => ?_⟩
      · rw [wi_lt, ei, ez] at w
        exact h _ (fun k x hk => hE k x (by omega)) hF
      rw [wi_lt, ei, ez] at w
      refine ⟨rfl, fun L2 s2 f2 => ?_⟩
      refine ⟨l, i, rfl, hT, by omega, by omega, fun L3 s3 f3 => ?_⟩
      refine ⟨rfl, fun L4 s4 f4 => ?_⟩
      refine ⟨r, i, rfl, hT, by omega, by omega, fun L5 s5 f5 => ?_⟩
      have F5 := mr_Fa_s (mr_Fa_s (mr_Fa_s (mr_Fa_s hF f2) f3) f4) f5
      have q3 : ∀ x, mr_s L3 x = mr_e L 492 (172 * l) i x := fun x => by
        rw [s3, s2, Bool.false_or, mr_Fs_e f2 (by decide), mr_Fa_e hF (by omega) (by omega)]
      have q5 : ∀ x, mr_s L5 x = mr_e L 492 (172 * r) i x := fun x => by
        rw [s5, s4, Bool.false_or, mr_Fs_e f4 (by decide), mr_Fs_e f3 (by decide), mr_Fs_e f2 (by decide), mr_Fa_e hF (by omega) (by omega)]
      have q6 : ∀ j x, j < i → mr_e L5 492 (172 * n) j x = mr_ob k (mr_e L 492 (172 * l) j x) (mr_e L 492 (172 * r) j x) := fun j x hj => by
        rw [mr_Fs_e f5 (by decide), mr_Fs_e f4 (by decide), mr_Fs_e f3 (by decide), mr_Fs_e f2 (by decide)]
        exact hE j x hj
      by_cases c26 : k = 26
      · have cd : wb_i (decide (k = 26)) = 1 := by rw [decide_eq_true c26]; rfl
        refine ⟨fun w2 => ?_, fun _ => ?_⟩
        · rw [cd] at w2
          exact absurd w2 (by decide)
        refine ⟨fun w2 => ?_, fun _ => ?_⟩
        · rw [cd] at w2
          exact absurd w2 (by decide)
        refine ⟨n, i, rfl, hT, by omega, by omega, fun L7 s7 f7 => ?_⟩
        refine ⟨lk + wd + 1 - (i + 1), by omega, i + 1, _, _, _, _, by rw [← wq_4s i]; rfl, rfl, rfl, rfl, rfl, rfl, rfl, rfl, by omega, rfl, mr_Fa_1 (by omega) (mr_Fa_s F5 mr_Fs_u) f7, fun j x hj => ?_⟩
        by_cases e : j = i
        · subst e
          rw [s7, mr_s_and, q5]
          unfold mr_ob
          rw [if_pos c26, ← q3, Bool.and_comm]
          rfl
        · rw [mr_F1_e f7 (by omega) (by omega) (by omega), mr_Fs_e mr_Fs_u (by decide)]
          exact q6 j x (by omega)
      · have cd : wb_i (decide (k = 26)) = 0 := by rw [decide_eq_false c26]; rfl
        refine ⟨fun _ => ?_, fun w2 => (w2 cd).elim⟩
        refine ⟨fun _ => ?_, fun w2 => (w2 cd).elim⟩
        refine ⟨n, i, rfl, hT, by omega, by omega, fun L7 s7 f7 => ?_⟩
        refine ⟨lk + wd + 1 - (i + 1), by omega, i + 1, _, _, _, _, by rw [← wq_4s i]; rfl, rfl, rfl, rfl, rfl, rfl, rfl, rfl, by omega, rfl, mr_Fa_1 (by omega) (mr_Fa_s F5 mr_Fs_u) f7, fun j x hj => ?_⟩
        by_cases e : j = i
        · subst e
          rw [s7, mr_s_or, q5]
          unfold mr_ob
          rw [if_neg c26, ← q3, Bool.or_comm]
          rfl
        · rw [mr_F1_e f7 (by omega) (by omega) (by omega), mr_Fs_e mr_Fs_u (by decide)]
          exact q6 j x (by omega)
    · cases hP
/-- any number of steps ahead -/
def mr_Q (E : Nat → Nat → Prop) (Z i x : Nat) : Prop := x ≤ Z ∧ ∃ m, na_it (ns_stp E) m i x
theorem mr_Q_r {E : Nat → Nat → Prop} {Z i : Nat} (hi : i ≤ Z) (x : Nat) : mr_Q E Z i x ↔ x = i ∨ ∃ b, i < b ∧ b < Z + 1 ∧ E i b ∧ mr_Q E Z b x := by
  constructor
  · rintro ⟨hx, m, hm⟩
    cases m with
    | zero => exact Or.inl (Eq.symm hm)
    | succ m =>
      obtain ⟨b, ⟨b1, b2⟩, b3⟩ := hm
      have := na_it_le (S := ns_stp E) (fun i j h => Nat.le_of_lt h.1) m b x b3
      exact Or.inr ⟨b, b1, by omega, b2, hx, m, b3⟩
  · rintro (rfl | ⟨b, b1, b2, b3, hx, m, b4⟩)
    · exact ⟨hi, 0, rfl⟩
    · exact ⟨hx, m + 1, b, ⟨b1, b3⟩, b4⟩
def mr_E (L : Nat → Nat → Int64) (l a b : Nat) : Prop := mr_e L 492 (172 * l) a b = true
def mr_h394 (Z l : Nat) (T : wv_T) (N : Nat) (I : Nat → Nat → Int32) (L : Nat → Nat → Int64) (R : Nat → Nat → Option Nat) : Nat → Option (Nat → wv_P) := fun pc =>
  if pc = 5 then some (fun mm lv st T1 N1 I1 L1 R1 nc ns => ∃ (j : Nat) (c : Int32) (x3 : Option Value), c = mr_i j ∧ lv = [some (.ref 460), some (.int (Int32.ofNat l)), some (.int c), x3, none, none] ∧ st = [] ∧ T1 = T ∧ N1 = N ∧ I1 = I ∧ R1 = R ∧ nc = 0 ∧ ns = 0 ∧ j ≤ Z + 1 ∧ mm = 200 * j ∧ mr_Fr L L1 ∧ ∀ a x, j ≤ a → a ≤ Z → (mr_e L1 493 0 a x = true ↔ mr_Q (mr_E L l) Z a x))
  else if pc = 22 then some (fun mm lv st T1 N1 I1 L1 R1 nc ns => ∃ (i k : Nat), lv = [some (.ref 460), some (.int (Int32.ofNat l)), some (.int (Int32.ofNat i)), some (.int (Int32.ofNat k)), none, none] ∧ st = [] ∧ T1 = T ∧ N1 = N ∧ I1 = I ∧ R1 = R ∧ nc = 0 ∧ ns = 0 ∧ i < k ∧ k ≤ Z + 1 ∧ mm = 200 * i + 100 - k ∧ mr_Fr L L1 ∧ (∀ a x, i < a → a ≤ Z → (mr_e L1 493 0 a x = true ↔ mr_Q (mr_E L l) Z a x)) ∧ ∀ x, mr_s L1 x = true ↔ x = i ∨ ∃ b, i < b ∧ b < k ∧ mr_E L l i b ∧ mr_Q (mr_E L l) Z b x)
  else none
def mr_c394 : wv_c1 := fun as T N I L R q => ∃ (S : rn_N) (m0 lk wd l : Nat) (v : Nat → Nat), as = [.ref 460, .int (Int32.ofNat l)] ∧ mr_X T I S m0 lk wd v ∧ l < 800 ∧ ∀ L1, (∀ i x, i ≤ lk + wd → (mr_e L1 493 0 i x = true ↔ mr_Q (mr_E L l) (lk + wd) i x)) → mr_Fr L L1 → q (.inl none) T N I L1 R 0 0
set_option maxRecDepth 100000 in
theorem wM_394 : ∃ cb ci np, pt_mt 394 = some (32, cb, 4, false, none, ci, np) := ⟨_, _, _, rfl⟩
set_option maxRecDepth 100000 in
set_option maxHeartbeats 4000000 in
theorem mr_star {sc : pt_Sc} {d : Nat} : wv_C wm_fx sc (d + 1 + 1 + 1) 394 mr_c394 := by
  rintro as T N I L R q ⟨S, m0, lk, wd, l, v, rfl, ⟨hT, hS, h49, hlk, h32, hwd, hv⟩, hl, h⟩ w0 HR
  obtain ⟨cb, ci, np, hm⟩ := wM_394
  have hc382 : wv_C wm_fx sc (d + 1 + 1) 382 mr_c382 := wv_C_deep (by omega) (mr_last (d := d))
  have hc383 : wv_C wm_fx sc (d + 1 + 1) 383 mr_c383 := wv_C_deep (by omega) (mr_clear (d := d))
  have hc387 : wv_C wm_fx sc (d + 1 + 1) 387 mr_c387 := wv_C_deep (by omega) (mr_join (d := d))
  have hc390 : wv_C wm_fx sc (d + 1 + 1) 390 mr_c390 := wv_C_deep (by omega) (mr_ends (d := d))
  have hc395 : wv_C wm_fx sc (d + 1 + 1) 395 mr_c395 := wv_C_deep (by omega) (mr_joinRound (d := d))
  have hc396 : wv_C wm_fx sc (d + 1 + 1) 396 mr_c396 := wv_C_deep (by omega) (mr_storeRound (d := d))
  refine wv_meth (hh := none) rfl (sp := wv_sp [(382, mr_c382), (383, mr_c383), (387, mr_c387), (390, mr_c390), (395, mr_c395), (396, mr_c396)]) (hd := mr_h394 (lk + wd) l T N I L R) (n := 300) (n1 := 300) hm zc_394 rfl (wv_sp_ok (fun q hq => by
    rcases List.mem_cons.mp hq with h | h
    · rw [h]; exact hc382
    rcases List.mem_cons.mp h with h | h
    · rw [h]; exact hc383
    rcases List.mem_cons.mp h with h | h
    · rw [h]; exact hc387
    rcases List.mem_cons.mp h with h | h
    · rw [h]; exact hc390
    rcases List.mem_cons.mp h with h | h
    · rw [h]; exact hc395
    rw [List.mem_singleton.mp h]; exact hc396)) ?_ ?_ HR
  · refine ⟨lk, wd, rfl, h49, h32, by omega, ?_⟩
    exact ⟨_, lk + wd + 1, _, none, (mr_i_s (by omega)).symm, rfl, rfl, rfl, rfl, rfl, rfl, rfl, rfl, Nat.le_refl _, rfl, mr_Fr_r _, fun a x h1 h2 => by omega⟩
  · intro pc P hP m lv st T1 N1 I1 L1 R1 nc ns hh
    have ez := wi_on (n := lk + wd) (by omega)
    unfold mr_h394 at hP
    split at hP
    · cases hP
      rename_i hpc
      subst hpc
      obtain ⟨j, c, x3, hc, rfl, rfl, rfl, rfl, rfl, rfl, rfl, rfl, hj, rfl, hF, hE⟩ := hh
      refine ⟨fun w => ?_, fun w => ?_⟩
      · have w : c < 0 := w
        rw [hc, mr_i_n (by omega)] at w
        exact h _ (fun a x ha => hE a x (by omega) ha) hF
      have w : ¬ c < 0 := w
      rw [hc, mr_i_n (by omega)] at w
      obtain ⟨i, rfl⟩ : ∃ i, j = i + 1 := ⟨j - 1, by omega⟩
      rw [mr_i_s (by omega)] at hc
      subst hc
      refine ⟨rfl, fun L2 s2 f2 => ?_⟩
      refine ⟨i, rfl, by omega, fun L3 s3 f3 => ?_⟩
      refine ⟨200 * i + 100 - (i + 1), by omega, i, i + 1, by rw [← wq_4s i]; rfl, rfl, rfl, rfl, rfl, rfl, rfl, rfl, by omega, by omega, rfl, mr_Fr_s (mr_Fr_s hF f2) f3, fun a x h1 h2 => ?_, fun x => ?_⟩
      · rw [mr_Fs_e f3 (by decide), mr_Fs_e f2 (by decide)]
        exact hE a x h1 h2
      · rw [s3, s2, Bool.false_or]
        exact ⟨fun z => Or.inl (of_decide_eq_true z), fun z => by
          rcases z with z | ⟨b, b1, b2, _⟩
          · exact decide_eq_true z
          · omega⟩
    · split at hP
      · cases hP
        rename_i hpc
        subst hpc
        obtain ⟨i, k, rfl, rfl, rfl, rfl, rfl, rfl, rfl, rfl, hi, hk, rfl, hF, hE, hs⟩ := hh
        have ek := wi_on (n := k) (by omega)
        refine ⟨lk, wd, rfl, h49, h32, by omega, ?_⟩
        refine ⟨fun w => ?_, fun w => ?_⟩
        · rw [wi_lt, ek, ez] at w
          refine ⟨i, rfl, hT, by omega, fun L4 s4 f4 => ?_⟩
          refine ⟨200 * i, by omega, i, _, _, (mr_i_d (by omega)), rfl, rfl, rfl, rfl, rfl, rfl, rfl, rfl, by omega, rfl, mr_Fr_2 hF f4, fun a x h1 h2 => ?_⟩
          by_cases e : a = i
          · subst e
            rw [s4, hs, mr_Q_r h2, show k = lk + wd + 1 by omega]
          · rw [mr_F2_e f4 e]
            exact hE a x (by omega) h2
        rw [wi_lt, ek, ez] at w
        refine ⟨l, i, k, rfl, hT, hl, by omega, by omega, ?_⟩
        have ee : mr_e L1 492 (172 * l) i k = mr_e L 492 (172 * l) i k := mr_Fr_e hF
        refine ⟨fun w2 => ?_, fun w2 => ?_⟩
        · have w2 := wb_i_2.mp (fun z => z w2)
          rw [ee] at w2
          refine ⟨200 * i + 100 - (k + 1), by omega, i, k + 1, by rw [← wq_4s k]; rfl, rfl, rfl, rfl, rfl, rfl, rfl, rfl, by omega, by omega, rfl, hF, hE, fun x => (hs x).trans ?_⟩
          constructor
          · rintro (z | ⟨b, b1, b2, b3⟩)
            · exact Or.inl z
            · exact Or.inr ⟨b, b1, by omega, b3⟩
          · rintro (z | ⟨b, b1, b2, b3⟩)
            · exact Or.inl z
            · by_cases e : b = k
              · subst e
                have b4 : mr_e L 492 (172 * l) i b = true := b3.1
                rw [w2] at b4
                cases b4
              · exact Or.inr ⟨b, b1, by omega, b3⟩
        · have w2 := wb_i_1.mp w2
          rw [ee] at w2
          refine ⟨k, rfl, hT, by omega, fun L4 s4 f4 => ?_⟩
          refine ⟨200 * i + 100 - (k + 1), by omega, i, k + 1, by rw [← wq_4s k]; rfl, rfl, rfl, rfl, rfl, rfl, rfl, rfl, by omega, by omega, rfl, mr_Fr_s hF f4, fun a x h1 h2 => ?_, fun x => ?_⟩
          · rw [mr_Fs_e f4 (by decide)]
            exact hE a x h1 h2
          · rw [s4, Bool.or_eq_true, hs x, hE k x hi (by omega)]
            constructor
            · rintro ((z | ⟨b, b1, b2, b3⟩) | z)
              · exact Or.inl z
              · exact Or.inr ⟨b, b1, by omega, b3⟩
              · exact Or.inr ⟨k, hi, by omega, w2, z⟩
            · rintro (z | ⟨b, b1, b2, b3⟩)
              · exact Or.inl (Or.inl z)
              · by_cases e : b = k
                · subst e
                  exact Or.inr b3.2
                · exact Or.inl (Or.inr ⟨b, b1, by omega, b3⟩)
      · cases hP
