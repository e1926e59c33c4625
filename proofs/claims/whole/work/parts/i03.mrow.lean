/-! ===== the reference: rows, the plain loops ===== -/
/-- only the rows of node n and the set change -/
def mr_Fa (n : Nat) (L L1 : Nat → Nat → Int64) : Prop := ∀ c j, ¬ (c = 492 ∧ 172 * n ≤ j ∧ j < 172 * n + 172) → ¬ (c = 460 ∧ (j = 53 ∨ j = 54)) → L1 c j = L c j
/-- only the round, the other round and the set change -/
def mr_Fr (L L1 : Nat → Nat → Int64) : Prop := ∀ c j, ¬ c = 493 → ¬ c = 494 → ¬ (c = 460 ∧ (j = 53 ∨ j = 54)) → L1 c j = L c j
def mr_Fn (n : Nat) (L L1 : Nat → Nat → Int64) : Prop := ∀ c j, ¬ (c = 492 ∧ 172 * n ≤ j ∧ j < 172 * n + 172) → ¬ c = 493 → ¬ c = 494 → ¬ (c = 460 ∧ (j = 53 ∨ j = 54)) → L1 c j = L c j
/-- row i of node n alone changes -/
def mr_F1 (n i : Nat) (L L1 : Nat → Nat → Int64) : Prop := ∀ c j, ¬ (c = 492 ∧ (j = 172 * n + 2 * i ∨ j = 172 * n + 2 * i + 1)) → L1 c j = L c j
def mr_F2 (i : Nat) (L L1 : Nat → Nat → Int64) : Prop := ∀ c j, ¬ (c = 493 ∧ (j = 2 * i ∨ j = 2 * i + 1)) → L1 c j = L c j
theorem mr_Fa_r (n : Nat) (L : Nat → Nat → Int64) : mr_Fa n L L := fun _ _ _ _ => rfl
theorem mr_Fr_r (L : Nat → Nat → Int64) : mr_Fr L L := fun _ _ _ _ _ => rfl
theorem mr_Fn_r (n : Nat) (L : Nat → Nat → Int64) : mr_Fn n L L := fun _ _ _ _ _ _ => rfl
theorem mr_Fs_t {A B C : Nat → Nat → Int64} (h : mr_Fs A B) (g : mr_Fs B C) : mr_Fs A C := fun c j a => (g c j a).trans (h c j a)
theorem mr_Fa_s {n : Nat} {A B C : Nat → Nat → Int64} (h : mr_Fa n A B) (g : mr_Fs B C) : mr_Fa n A C := fun c j a b => (g c j b).trans (h c j a b)
theorem mr_Fa_1 {n i : Nat} {A B C : Nat → Nat → Int64} (hi : i < 86) (h : mr_Fa n A B) (g : mr_F1 n i B C) : mr_Fa n A C := fun c j a b => (g c j (by omega)).trans (h c j a b)
theorem mr_Fr_s {A B C : Nat → Nat → Int64} (h : mr_Fr A B) (g : mr_Fs B C) : mr_Fr A C := fun c j a b d => (g c j d).trans (h c j a b d)
theorem mr_Fr_2 {i : Nat} {A B C : Nat → Nat → Int64} (h : mr_Fr A B) (g : mr_F2 i B C) : mr_Fr A C := fun c j a b d => (g c j (by omega)).trans (h c j a b d)
theorem mr_Fr_t {A B C : Nat → Nat → Int64} (h : mr_Fr A B) (g : mr_Fr B C) : mr_Fr A C := fun c j a b d => (g c j a b d).trans (h c j a b d)
theorem mr_Fn_t {n : Nat} {A B C : Nat → Nat → Int64} (h : mr_Fn n A B) (g : mr_Fn n B C) : mr_Fn n A C := fun c j x a b d => (g c j x a b d).trans (h c j x a b d)
theorem mr_Fn_a {n : Nat} {A B : Nat → Nat → Int64} (h : mr_Fa n A B) : mr_Fn n A B := fun c j x _ _ d => h c j x d
theorem mr_Fn_q {n : Nat} {A B : Nat → Nat → Int64} (h : mr_Fr A B) : mr_Fn n A B := fun c j _ a b d => h c j a b d
theorem mr_F1_e {n i : Nat} {A B : Nat → Nat → Int64} (g : mr_F1 n i A B) {m k x : Nat} (hi : i < 86) (hk : k < 86) (h : ¬ (m = n ∧ k = i)) : mr_e B 492 (172 * m) k x = mr_e A 492 (172 * m) k x := by
  unfold mr_e
  rw [g _ _ (by omega), g _ _ (by omega)]
theorem mr_F1_o {n i : Nat} {A B : Nat → Nat → Int64} (g : mr_F1 n i A B) {c b k x : Nat} (h : ¬ c = 492) : mr_e B c b k x = mr_e A c b k x := by
  unfold mr_e
  rw [g _ _ (by omega), g _ _ (by omega)]
theorem mr_F2_e {i : Nat} {A B : Nat → Nat → Int64} (g : mr_F2 i A B) {k x : Nat} (h : ¬ k = i) : mr_e B 493 0 k x = mr_e A 493 0 k x := by
  unfold mr_e
  rw [g _ _ (by omega), g _ _ (by omega)]
theorem mr_F2_o {i : Nat} {A B : Nat → Nat → Int64} (g : mr_F2 i A B) {c b k x : Nat} (h : ¬ c = 493) : mr_e B c b k x = mr_e A c b k x := by
  unfold mr_e
  rw [g _ _ (by omega), g _ _ (by omega)]
theorem mr_Fa_e {n : Nat} {A B : Nat → Nat → Int64} (g : mr_Fa n A B) {m k x : Nat} (hk : k < 86) (h : ¬ m = n) : mr_e B 492 (172 * m) k x = mr_e A 492 (172 * m) k x := by
  unfold mr_e
  rw [g _ _ (by omega) (by omega), g _ _ (by omega) (by omega)]
theorem mr_Fa_o {n : Nat} {A B : Nat → Nat → Int64} (g : mr_Fa n A B) {c b k x : Nat} (h : ¬ c = 492) (h2 : ¬ c = 460) : mr_e B c b k x = mr_e A c b k x := by
  unfold mr_e
  rw [g _ _ (by omega) (by omega), g _ _ (by omega) (by omega)]
theorem mr_Fr_e {A B : Nat → Nat → Int64} (g : mr_Fr A B) {b k x : Nat} : mr_e B 492 b k x = mr_e A 492 b k x := by
  unfold mr_e
  rw [g _ _ (by omega) (by omega) (by omega), g _ _ (by omega) (by omega) (by omega)]
theorem mr_Fn_e {n : Nat} {A B : Nat → Nat → Int64} (g : mr_Fn n A B) {m k x : Nat} (hk : k < 86) (h : ¬ m = n) : mr_e B 492 (172 * m) k x = mr_e A 492 (172 * m) k x := by
  unfold mr_e
  rw [g _ _ (by omega) (by omega) (by omega) (by omega), g _ _ (by omega) (by omega) (by omega) (by omega)]
theorem mr_pn {I : Nat → Nat → Int32} {S : rn_N} {m0 x : Nat} (h : pn_1 (mr_V I) S m0 x) : I 469 x = Int32.ofNat (rn_k S x) := h.1
def mr_h400 (Z : Nat) (T : wv_T) (N : Nat) (I : Nat → Nat → Int32) (L : Nat → Nat → Int64) (R : Nat → Nat → Option Nat) : Nat → Option (Nat → wv_P) := fun pc =>
  if pc = 2 then some (fun mm lv st T1 N1 I1 L1 R1 nc ns => ∃ i : Nat, lv = [some (.ref 460), some (.int (Int32.ofNat i)), none] ∧ st = [] ∧ T1 = T ∧ N1 = N ∧ I1 = I ∧ R1 = R ∧ nc = 0 ∧ ns = 0 ∧ i ≤ Z + 1 ∧ mm = Z + 1 - i ∧ mr_Fr L L1 ∧ ∀ k x, k < i → mr_e L1 493 0 k x = decide (x = k))
  else none
def mr_c400 : wv_c1 := fun as T N I L R q => ∃ (S : rn_N) (m0 lk wd : Nat) (v : Nat → Nat), as = [.ref 460] ∧ mr_X T I S m0 lk wd v ∧ ∀ L1, (∀ i x, i ≤ lk + wd → mr_e L1 493 0 i x = decide (x = i)) → mr_Fr L L1 → q (.inl none) T N I L1 R 0 0
set_option maxRecDepth 100000 in
theorem wM_400 : ∃ cb ci np, pt_mt 400 = some (32, cb, 2, false, none, ci, np) := ⟨_, _, _, rfl⟩
set_option maxRecDepth 100000 in
set_option maxHeartbeats 4000000 in
theorem mr_nothing {sc : pt_Sc} {d : Nat} : wv_C wm_fx sc (d + 1 + 1) 400 mr_c400 := by
  rintro as T N I L R q ⟨S, m0, lk, wd, v, rfl, ⟨hT, hS, h49, hlk, h32, hwd, hv⟩, h⟩ w0 HR
  obtain ⟨cb, ci, np, hm⟩ := wM_400
  have hc382 : wv_C wm_fx sc (d + 1) 382 mr_c382 := wv_C_deep (by omega) (mr_last (d := d))
  have hc383 : wv_C wm_fx sc (d + 1) 383 mr_c383 := wv_C_deep (by omega) (mr_clear (d := d))
  have hc387 : wv_C wm_fx sc (d + 1) 387 mr_c387 := wv_C_deep (by omega) (mr_join (d := d))
  have hc396 : wv_C wm_fx sc (d + 1) 396 mr_c396 := wv_C_deep (by omega) (mr_storeRound (d := d))
  refine wv_meth (hh := none) rfl (sp := wv_sp [(382, mr_c382), (383, mr_c383), (387, mr_c387), (396, mr_c396)]) (hd := mr_h400 (lk + wd) T N I L R) (n := 300) (n1 := 300) hm zc_400 rfl (wv_sp_ok (fun q hq => by
    rcases List.mem_cons.mp hq with h | h
    · rw [h]; exact hc382
    rcases List.mem_cons.mp h with h | h
    · rw [h]; exact hc383
    rcases List.mem_cons.mp h with h | h
    · rw [h]; exact hc387
    rw [List.mem_singleton.mp h]; exact hc396)) ?_ ?_ HR
  · exact ⟨_, 0, rfl, rfl, rfl, rfl, rfl, rfl, rfl, rfl, by omega, rfl, mr_Fr_r _, fun k x hk => by omega⟩
  · intro pc P hP m lv st T1 N1 I1 L1 R1 nc ns hh
    unfold mr_h400 at hP
    split at hP
    · cases hP
      rename_i hpc
      subst hpc
      obtain ⟨i, rfl, rfl, rfl, rfl, rfl, rfl, rfl, rfl, hi, rfl, hF, hE⟩ := hh
      have ei := wi_on (n := i) (by omega)
      have ez := wi_on (n := lk + wd) (by omega)
      refine ⟨lk, wd, rfl, h49, h32, by omega, ?_⟩
      refine ⟨fun w => ?_, fun w => ?_⟩
      · rw [wi_lt, ei, ez] at w
        exact h _ (fun k x hk => hE k x (by omega)) hF
      rw [wi_lt, ei, ez] at w
      refine ⟨rfl, fun L2 s2 f2 => ?_⟩
      refine ⟨i, rfl, by omega, fun L3 s3 f3 => ?_⟩
      refine ⟨i, rfl, hT, by omega, fun L4 s4 f4 => ?_⟩
      refine ⟨lk + wd + 1 - (i + 1), by omega, i + 1, by rw [← wq_4s i]; rfl, rfl, rfl, rfl, rfl, rfl, rfl, rfl, by omega, rfl, mr_Fr_2 (mr_Fr_s (mr_Fr_s hF f2) f3) f4, fun k x hk => ?_⟩
      by_cases e : k = i
      · subst e
        rw [s4, s3, s2, Bool.false_or]
      · rw [mr_F2_e f4 e, mr_Fs_e f3 (by decide), mr_Fs_e f2 (by decide)]
        exact hE k x (by omega)
    · cases hP
def mr_h381 (c : Nat → Bool) (Z n : Nat) (T : wv_T) (N : Nat) (I : Nat → Nat → Int32) (L : Nat → Nat → Int64) (R : Nat → Nat → Option Nat) : Nat → Option (Nat → wv_P) := fun pc =>
  if pc = 2 then some (fun mm lv st T1 N1 I1 L1 R1 nc ns => ∃ i : Nat, lv = [some (.ref 460), some (.int (Int32.ofNat n)), some (.int (Int32.ofNat i)), none, none] ∧ st = [] ∧ T1 = T ∧ N1 = N ∧ I1 = I ∧ R1 = R ∧ nc = 0 ∧ ns = 0 ∧ i ≤ Z + 1 ∧ mm = 2 * (Z + 1 - i) ∧ mr_Fa n L L1 ∧ ∀ k x, k < i → mr_e L1 492 (172 * n) k x = (c k && decide (x = k + 1)))
  else if pc = 31 then some (fun mm lv st T1 N1 I1 L1 R1 nc ns => ∃ i : Nat, lv = [some (.ref 460), some (.int (Int32.ofNat n)), some (.int (Int32.ofNat i)), none, none] ∧ st = [] ∧ T1 = T ∧ N1 = N ∧ I1 = I ∧ R1 = R ∧ nc = 0 ∧ ns = 0 ∧ i ≤ Z ∧ mm = 2 * (Z + 1 - i) - 1 ∧ mr_Fa n L L1 ∧ (∀ k x, k < i → mr_e L1 492 (172 * n) k x = (c k && decide (x = k + 1))) ∧ ∀ x, mr_s L1 x = (c i && decide (x = i + 1)))
  else none
def mr_c381 : wv_c1 := fun as T N I L R q => ∃ (S : rn_N) (m0 lk wd n : Nat) (v : Nat → Nat), as = [.ref 460, .int (Int32.ofNat n)] ∧ mr_X T I S m0 lk wd v ∧ n < rn_n S ∧ rn_k S n = 60 ∧ ∀ L1, (∀ i x, i ≤ lk + wd → mr_e L1 492 (172 * n) i x = (mr_c (rn_h S n) lk (lk + wd) v i true && decide (x = i + 1))) → mr_Fa n L L1 → q (.inl none) T N I L1 R 0 0
set_option maxRecDepth 100000 in
theorem wM_381 : ∃ cb ci np, pt_mt 381 = some (32, cb, 3, false, none, ci, np) := ⟨_, _, _, rfl⟩
set_option maxRecDepth 100000 in
set_option maxHeartbeats 4000000 in
theorem mr_plain {sc : pt_Sc} {d : Nat} : wv_C wm_fx sc (d + 1 + 1 + 1) 381 mr_c381 := by
  rintro as T N I L R q ⟨S, m0, lk, wd, n, v, rfl, hX, hn, hk60, h⟩ w0 HR
  obtain ⟨cb, ci, np, hm⟩ := wM_381
  have hc382 : wv_C wm_fx sc (d + 1 + 1) 382 mr_c382 := wv_C_deep (by omega) (mr_last (d := d))
  have hc383 : wv_C wm_fx sc (d + 1 + 1) 383 mr_c383 := wv_C_deep (by omega) (mr_clear (d := d))
  have hc384 : wv_C wm_fx sc (d + 1 + 1) 384 mr_c384 := wv_C_deep (by omega) (mr_can (d := d))
  have hc387 : wv_C wm_fx sc (d + 1 + 1) 387 mr_c387 := wv_C_deep (by omega) (mr_join (d := d))
  have hc388 : wv_C wm_fx sc (d + 1 + 1) 388 mr_c388 := wv_C_deep (by omega) (mr_store (d := d))
  refine wv_meth (hh := none) rfl (sp := wv_sp [(382, mr_c382), (383, mr_c383), (384, mr_c384), (387, mr_c387), (388, mr_c388)]) (hd := mr_h381 (fun i => mr_c (rn_h S n) lk (lk + wd) v i true) (lk + wd) n T N I L R) (n := 300) (n1 := 300) hm zc_381 rfl (wv_sp_ok (fun q hq => by
    rcases List.mem_cons.mp hq with h | h
    · rw [h]; exact hc382
    rcases List.mem_cons.mp h with h | h
    · rw [h]; exact hc383
    rcases List.mem_cons.mp h with h | h
    · rw [h]; exact hc384
    rcases List.mem_cons.mp h with h | h
    · rw [h]; exact hc387
    rw [List.mem_singleton.mp h]; exact hc388)) ?_ ?_ HR
  · exact ⟨_, 0, rfl, rfl, rfl, rfl, rfl, rfl, rfl, rfl, by omega, rfl, mr_Fa_r _ _, fun k x hk => by omega⟩
  · intro pc P hP m lv st T1 N1 I1 L1 R1 nc ns hh
    have hX0 := hX
    obtain ⟨hT, hS, h49, hlk, h32, hwd, hv⟩ := hX0
    unfold mr_h381 at hP
    split at hP
    · cases hP
      rename_i hpc
      subst hpc
      obtain ⟨i, rfl, rfl, rfl, rfl, rfl, rfl, rfl, rfl, hi, rfl, hF, hE⟩ := hh
      have ei := wi_on (n := i) (by omega)
      have ez := wi_on (n := lk + wd) (by omega)
      refine ⟨lk, wd, rfl, h49, h32, by omega, ?_⟩
      refine ⟨fun w => ?_, fun w => ?_⟩
      · rw [wi_lt, ei, ez] at w
        exact h _ (fun k x hk => hE k x (by omega)) hF
      rw [wi_lt, ei, ez] at w
      refine ⟨rfl, fun L2 s2 f2 => ?_⟩
      refine ⟨S, m0, lk, wd, n, i, v, true, rfl, hX, hn, hk60, by omega, ?_⟩
      have hE2 : ∀ k x, k < i → mr_e L2 492 (172 * n) k x = (mr_c (rn_h S n) lk (lk + wd) v k true && decide (x = k + 1)) := fun k x hk => by
        rw [mr_Fs_e f2 (by decide)]
        exact hE k x hk
      refine ⟨fun w2 => ?_, fun w2 => ?_⟩
      · have w2 : mr_c (rn_h S n) lk (lk + wd) v i true = false := wb_i_2.mp (fun z => z w2)
        refine ⟨2 * (lk + wd + 1 - i) - 1, by omega, i, rfl, rfl, rfl, rfl, rfl, rfl, rfl, rfl, by omega, rfl, mr_Fa_s hF f2, hE2, fun x => ?_⟩
        show mr_s L2 x = (mr_c (rn_h S n) lk (lk + wd) v i true && _)
        rw [w2, s2, Bool.false_and]
      · have w2 := wb_i_1.mp w2
        refine ⟨i + 1, congrArg (fun z => [Value.ref 460, Value.int z]) (wq_4s i), by omega, fun L3 s3 f3 => ?_⟩
        refine ⟨2 * (lk + wd + 1 - i) - 1, by omega, i, rfl, rfl, rfl, rfl, rfl, rfl, rfl, rfl, by omega, rfl, mr_Fa_s (mr_Fa_s hF f2) f3, fun k x hk => ?_, fun x => ?_⟩
        · rw [mr_Fs_e f3 (by decide)]
          exact hE2 k x hk
        · show mr_s L3 x = (mr_c (rn_h S n) lk (lk + wd) v i true && _)
          rw [w2, s3, s2, Bool.false_or, Bool.true_and]
    · split at hP
      · cases hP
        rename_i hpc
        subst hpc
        obtain ⟨i, rfl, rfl, rfl, rfl, rfl, rfl, rfl, rfl, hi, rfl, hF, hE, hs⟩ := hh
        refine ⟨n, i, rfl, hT, by omega, by omega, fun L4 s4 f4 => ?_⟩
        refine ⟨2 * (lk + wd + 1 - (i + 1)), by omega, i + 1, by rw [← wq_4s i]; rfl, rfl, rfl, rfl, rfl, rfl, rfl, rfl, by omega, rfl, mr_Fa_1 (by omega) hF f4, fun k x hk => ?_⟩
        by_cases e : k = i
        · subst e
          rw [s4, hs]
        · rw [mr_F1_e f4 (by omega) (by omega) (by omega)]
          exact hE k x (by omega)
      · cases hP
def mr_h397 (E0 : Nat → Nat → Bool) (Z n : Nat) (b : Bool) (T : wv_T) (N : Nat) (I : Nat → Nat → Int32) (L : Nat → Nat → Int64) (R : Nat → Nat → Option Nat) : Nat → Option (Nat → wv_P) := fun pc =>
  if pc = 2 then some (fun mm lv st T1 N1 I1 L1 R1 nc ns => ∃ i : Nat, lv = [some (.ref 460), some (.int (Int32.ofNat n)), some (.int (wb_i b)), some (.int (Int32.ofNat i)), none, none, none] ∧ st = [] ∧ T1 = T ∧ N1 = N ∧ I1 = I ∧ R1 = R ∧ nc = 0 ∧ ns = 0 ∧ i ≤ Z + 1 ∧ mm = 2 * (Z + 1 - i) ∧ mr_Fa n L L1 ∧ (∀ k x, k < i → mr_e L1 492 (172 * n) k x = E0 k x) ∧ ∀ k x, i ≤ k → k < 86 → mr_e L1 492 (172 * n) k x = mr_e L 492 (172 * n) k x)
  else if pc = 24 then some (fun mm lv st T1 N1 I1 L1 R1 nc ns => ∃ i : Nat, lv = [some (.ref 460), some (.int (Int32.ofNat n)), some (.int (wb_i b)), some (.int (Int32.ofNat i)), none, none, none] ∧ st = [] ∧ T1 = T ∧ N1 = N ∧ I1 = I ∧ R1 = R ∧ nc = 0 ∧ ns = 0 ∧ i ≤ Z ∧ mm = 2 * (Z + 1 - i) - 1 ∧ mr_Fa n L L1 ∧ (∀ k x, k < i → mr_e L1 492 (172 * n) k x = E0 k x) ∧ (∀ k x, i ≤ k → k < 86 → mr_e L1 492 (172 * n) k x = mr_e L 492 (172 * n) k x) ∧ ∀ x, mr_s L1 x = (!b && mr_e L 492 (172 * n) i x))
  else none
def mr_c397 : wv_c1 := fun as T N I L R q => ∃ (S : rn_N) (m0 lk wd n : Nat) (v : Nat → Nat) (b : Bool), as = [.ref 460, .int (Int32.ofNat n), .int (wb_i b)] ∧ mr_X T I S m0 lk wd v ∧ n < 800 ∧ ∀ L1, (∀ i x, i ≤ lk + wd → mr_e L1 492 (172 * n) i x = ((!b && mr_e L 492 (172 * n) i x) || mr_e L 493 0 i x)) → mr_Fa n L L1 → q (.inl none) T N I L1 R 0 0
set_option maxRecDepth 100000 in
theorem wM_397 : ∃ cb ci np, pt_mt 397 = some (32, cb, 4, false, none, ci, np) := ⟨_, _, _, rfl⟩
set_option maxRecDepth 100000 in
set_option maxHeartbeats 4000000 in
theorem mr_add {sc : pt_Sc} {d : Nat} : wv_C wm_fx sc (d + 1 + 1) 397 mr_c397 := by
  rintro as T N I L R q ⟨S, m0, lk, wd, n, v, b, rfl, ⟨hT, hS, h49, hlk, h32, hwd, hv⟩, hn, h⟩ w0 HR
  obtain ⟨cb, ci, np, hm⟩ := wM_397
  have hc382 : wv_C wm_fx sc (d + 1) 382 mr_c382 := wv_C_deep (by omega) (mr_last (d := d))
  have hc383 : wv_C wm_fx sc (d + 1) 383 mr_c383 := wv_C_deep (by omega) (mr_clear (d := d))
  have hc392 : wv_C wm_fx sc (d + 1) 392 mr_c392 := wv_C_deep (by omega) (mr_joinEnds (d := d))
  have hc395 : wv_C wm_fx sc (d + 1) 395 mr_c395 := wv_C_deep (by omega) (mr_joinRound (d := d))
  have hc388 : wv_C wm_fx sc (d + 1) 388 mr_c388 := wv_C_deep (by omega) (mr_store (d := d))
  refine wv_meth (hh := none) rfl (sp := wv_sp [(382, mr_c382), (383, mr_c383), (392, mr_c392), (395, mr_c395), (388, mr_c388)]) (hd := mr_h397 (fun i x => ((!b && mr_e L 492 (172 * n) i x) || mr_e L 493 0 i x)) (lk + wd) n b T N I L R) (n := 300) (n1 := 300) hm zc_397 rfl (wv_sp_ok (fun q hq => by
    rcases List.mem_cons.mp hq with h | h
    · rw [h]; exact hc382
    rcases List.mem_cons.mp h with h | h
    · rw [h]; exact hc383
    rcases List.mem_cons.mp h with h | h
    · rw [h]; exact hc392
    rcases List.mem_cons.mp h with h | h
    · rw [h]; exact hc395
    rw [List.mem_singleton.mp h]; exact hc388)) ?_ ?_ HR
  · exact ⟨_, 0, rfl, rfl, rfl, rfl, rfl, rfl, rfl, rfl, by omega, rfl, mr_Fa_r _ _, fun k x hk => by omega, fun k x _ _ => rfl⟩
  · intro pc P hP m lv st T1 N1 I1 L1 R1 nc ns hh
    unfold mr_h397 at hP
    split at hP
    · cases hP
      rename_i hpc
      subst hpc
      obtain ⟨i, rfl, rfl, rfl, rfl, rfl, rfl, rfl, rfl, hi, rfl, hF, hE, hG⟩ := hh
      have ei := wi_on (n := i) (by omega)
      have ez := wi_on (n := lk + wd) (by omega)
      refine ⟨lk, wd, rfl, h49, h32, by omega, ?_⟩
      refine ⟨fun w => ?_, fun w => ?_⟩
      · rw [wi_lt, ei, ez] at w
        exact h _ (fun k x hk => hE k x (by omega)) hF
      rw [wi_lt, ei, ez] at w
      refine ⟨rfl, fun L2 s2 f2 => ?_⟩
      refine ⟨fun w2 => ?_, fun w2 => ?_⟩
      · have w2 := wb_i_1.mp w2
        refine ⟨2 * (lk + wd + 1 - i) - 1, by omega, i, rfl, rfl, rfl, rfl, rfl, rfl, rfl, rfl, by omega, rfl, mr_Fa_s hF f2, fun k x hk => ?_, fun k x hk1 hk2 => ?_, fun x => ?_⟩
        · rw [mr_Fs_e f2 (by decide)]
          exact hE k x hk
        · rw [mr_Fs_e f2 (by decide)]
          exact hG k x hk1 hk2
        · rw [w2, s2]
          rfl
      · have w2 := wb_i_2.mp w2
        refine ⟨n, i, rfl, hT, hn, by omega, fun L3 s3 f3 => ?_⟩
        refine ⟨2 * (lk + wd + 1 - i) - 1, by omega, i, rfl, rfl, rfl, rfl, rfl, rfl, rfl, rfl, by omega, rfl, mr_Fa_s (mr_Fa_s hF f2) f3, fun k x hk => ?_, fun k x hk1 hk2 => ?_, fun x => ?_⟩
        · rw [mr_Fs_e f3 (by decide), mr_Fs_e f2 (by decide)]
          exact hE k x hk
        · rw [mr_Fs_e f3 (by decide), mr_Fs_e f2 (by decide)]
          exact hG k x hk1 hk2
        · rw [w2, s3, s2, mr_Fs_e f2 (by decide), hG i x (Nat.le_refl _) (by omega)]
          rfl
    · split at hP
      · cases hP
        rename_i hpc
        subst hpc
        obtain ⟨i, rfl, rfl, rfl, rfl, rfl, rfl, rfl, rfl, hi, rfl, hF, hE, hG, hs⟩ := hh
        refine ⟨i, rfl, hT, by omega, fun L3 s3 f3 => ?_⟩
        refine ⟨n, i, rfl, hT, hn, by omega, fun L4 s4 f4 => ?_⟩
        refine ⟨2 * (lk + wd + 1 - (i + 1)), by omega, i + 1, by rw [← wq_4s i]; rfl, rfl, rfl, rfl, rfl, rfl, rfl, rfl, by omega, rfl, mr_Fa_1 (by omega) (mr_Fa_s hF f3) f4, fun k x hk => ?_, fun k x hk1 hk2 => ?_⟩
        · by_cases e : k = i
          · subst e
            rw [s4, s3, hs, mr_Fa_o hF (by decide) (by decide)]
          · rw [mr_F1_e f4 (by omega) (by omega) (by omega), mr_Fs_e f3 (by decide)]
            exact hE k x (by omega)
        · rw [mr_F1_e f4 (by omega) (by omega) (by omega), mr_Fs_e f3 (by decide)]
          exact hG k x (by omega) hk2
      · cases hP
