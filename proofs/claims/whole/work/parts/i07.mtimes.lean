/-! ===== the reference: counts, and the rows of a node ===== -/
theorem mr_nl {h : Nat → Bool} {lk Z i : Nat} {v : Nat → Nat} (hZ : lk ≤ Z) : mr_c h lk Z v i true = true ↔ i < Z ∧ nl_ok h (pd_wn v lk i) := by
  unfold mr_c pd_wn
  by_cases c : i < lk
  · rw [if_pos c, if_pos c]
    show (h (v i) == true) = true ↔ i < Z ∧ h (v i) = true
    cases h (v i)
    · exact ⟨fun z => (by cases z), fun z => (by cases z.2)⟩
    · exact ⟨fun _ => ⟨by omega, rfl⟩, fun _ => rfl⟩
  · rw [if_neg c, if_neg c]
    exact ⟨fun z => ⟨of_decide_eq_true z, trivial⟩, fun z => decide_eq_true z.1⟩
theorem mr_nf {h : Nat → Bool} {lk Z i : Nat} {v : Nat → Nat} (hZ : lk ≤ Z) : mr_c h lk Z v i false = true ↔ i < Z ∧ nl_ok (fun u => ! h u) (pd_wn v lk i) := by
  unfold mr_c pd_wn
  by_cases c : i < lk
  · rw [if_pos c, if_pos c]
    show (h (v i) == false) = true ↔ i < Z ∧ (! h (v i)) = true
    cases h (v i)
    · exact ⟨fun _ => ⟨by omega, rfl⟩, fun _ => rfl⟩
    · exact ⟨fun z => (by cases z), fun z => (by cases z.2)⟩
  · rw [if_neg c, if_neg c]
    exact ⟨fun z => ⟨of_decide_eq_true z, trivial⟩, fun z => decide_eq_true z.1⟩
def mr_H (h : Nat → Bool) (v : Nat → Nat) (lk Z : Nat) (wb : Prop) (q i x : Nat) : Prop := x ≤ Z ∧ ∃ k, x = i + k ∧ na_oc (nl_ok h) (nl_ok (fun u => ! h u)) wb (pd_wn v lk) k q i
theorem mr_H_s {h : Nat → Bool} {v : Nat → Nat} {lk Z : Nat} {wb : Prop} (hZ : lk ≤ Z) (q i x : Nat) : mr_H h v lk Z wb (q + 1) i x ↔ (mr_c h lk Z v i true = true ∧ mr_H h v lk Z wb q (i + 1) x) ∨ (mr_c h lk Z v i false = true ∧ mr_H h v lk Z wb (q + 1) (i + 1) x) := by
  rw [mr_nl hZ, mr_nf hZ]
  constructor
  · rintro ⟨hx, k, hk, ho⟩
    cases k with
    | zero =>
      have ho : q + 1 = 0 := ho
      omega
    | succ k =>
      rcases ho with ⟨o1, _, o3⟩ | ⟨o1, _, o3⟩
      · exact Or.inr ⟨⟨by omega, o1⟩, hx, k, by omega, o3⟩
      · exact Or.inl ⟨⟨by omega, o1⟩, hx, k, by omega, o3⟩
  · rintro (⟨⟨a, b⟩, hx, k, hk, ho⟩ | ⟨⟨a, b⟩, hx, k, hk, ho⟩)
    · exact ⟨hx, k + 1, by omega, Or.inr ⟨b, by omega, ho⟩⟩
    · exact ⟨hx, k + 1, by omega, Or.inl ⟨b, Or.inl (by omega), ho⟩⟩
theorem mr_H_0 {h : Nat → Bool} {v : Nat → Nat} {lk Z i : Nat} {wb : Prop} (hi : i ≤ Z) (nw : ¬ wb) (x : Nat) : mr_H h v lk Z wb 0 i x ↔ x = i := by
  constructor
  · rintro ⟨hx, k, hk, ho⟩
    cases k with
    | zero => exact hk
    | succ k =>
      rcases ho with ⟨_, o2 | o2, _⟩ | ⟨_, o2, _⟩
      · omega
      · exact (nw o2).elim
      · omega
  · rintro rfl
    exact ⟨hi, 0, rfl, rfl⟩
theorem mr_H_1 {h : Nat → Bool} {v : Nat → Nat} {lk Z i : Nat} {wb : Prop} (hZ : lk ≤ Z) (hi : i ≤ Z) (hw : wb) (x : Nat) : mr_H h v lk Z wb 0 i x ↔ x = i ∨ (mr_c h lk Z v i false = true ∧ mr_H h v lk Z wb 0 (i + 1) x) := by
  rw [mr_nf hZ]
  constructor
  · rintro ⟨hx, k, hk, ho⟩
    cases k with
    | zero => exact Or.inl hk
    | succ k =>
      rcases ho with ⟨o1, _, o3⟩ | ⟨_, o2, _⟩
      · exact Or.inr ⟨⟨by omega, o1⟩, hx, k, by omega, o3⟩
      · omega
  · rintro (rfl | ⟨⟨a, b⟩, hx, k, hk, ho⟩)
    · exact ⟨hi, 0, rfl, rfl⟩
    · exact ⟨hx, k + 1, by omega, Or.inl ⟨b, Or.inr hw, ho⟩⟩
/-- rows that go on, and not beyond the last place -/
def mr_B (E : Nat → Nat → Prop) (Z : Nat) : Prop := ∀ i, i ≤ Z → ∀ j, E i j → i ≤ j ∧ j ≤ Z
theorem mr_A_it {E E1 G : Nat → Nat → Prop} {Z c i x : Nat} (hB : mr_B E Z) (hE : ∀ i b, i ≤ Z → (E1 i b ↔ E i b)) (hG : ∀ i x, i ≤ Z → (G i x ↔ na_it E c i x)) (hi : i ≤ Z) : mr_A E1 G Z i x ↔ na_it E (c + 1) i x := by
  constructor
  · rintro ⟨b, b1, b2, b3, b4⟩
    exact ⟨b, (hE i b hi).mp b3, (hG b x (by omega)).mp b4⟩
  · rintro ⟨b, b3, b4⟩
    obtain ⟨b1, b2⟩ := hB i hi b b3
    exact ⟨b, b1, by omega, (hE i b hi).mpr b3, (hG b x b2).mpr b4⟩
theorem mr_it_B {E : Nat → Nat → Prop} {Z : Nat} (hB : mr_B E Z) : ∀ m i, i ≤ Z → ∀ j, na_it E m i j → j ≤ Z
  | 0, i, hi, j, h => by
    have h : i = j := h
    omega
  | m + 1, i, hi, j, ⟨k, k1, k2⟩ => mr_it_B hB m k (hB i hi k k1).2 j k2
def mr_h399 (Z n l a b : Nat) (T : wv_T) (N : Nat) (I : Nat → Nat → Int32) (L : Nat → Nat → Int64) (R : Nat → Nat → Option Nat) : Nat → Option (Nat → wv_P) := fun pc =>
  if pc = 16 then some (fun mm lv st T1 N1 I1 L1 R1 nc ns => ∃ (c : Nat), lv = [some (.ref 460), some (.int (Int32.ofNat n)), some (.int (Int32.ofNat l)), some (.int (wb_i (decide (c ≤ a)))), some (.int (Int32.ofNat c)), none, none] ∧ st = [] ∧ T1 = T ∧ N1 = N ∧ I1 = I ∧ R1 = R ∧ nc = 0 ∧ ns = 0 ∧ c ≤ b + 1 ∧ mm = 3 * (b + 1 - c) ∧ mr_Fn n L L1 ∧ (∀ i x, i ≤ Z → (mr_e L1 493 0 i x = true ↔ na_it (mr_E L l) c i x)) ∧ (a < c → ∀ i x, i ≤ Z → (mr_e L1 492 (172 * n) i x = true ↔ ∃ m, a ≤ m ∧ m < c ∧ na_it (mr_E L l) m i x)))
  else if pc = 46 then some (fun mm lv st T1 N1 I1 L1 R1 nc ns => ∃ (c : Nat), lv = [some (.ref 460), some (.int (Int32.ofNat n)), some (.int (Int32.ofNat l)), some (.int (wb_i (decide (c + 1 ≤ a)))), some (.int (Int32.ofNat c)), none, none] ∧ st = [] ∧ T1 = T ∧ N1 = N ∧ I1 = I ∧ R1 = R ∧ nc = 0 ∧ ns = 0 ∧ c ≤ b ∧ mm = 3 * (b + 1 - c) - 1 ∧ mr_Fn n L L1 ∧ (∀ i x, i ≤ Z → (mr_e L1 493 0 i x = true ↔ na_it (mr_E L l) c i x)) ∧ (a < c + 1 → ∀ i x, i ≤ Z → (mr_e L1 492 (172 * n) i x = true ↔ ∃ m, a ≤ m ∧ m < c + 1 ∧ na_it (mr_E L l) m i x)))
  else none
def mr_c399 : wv_c1 := fun as T N I L R q => ∃ (S : rn_N) (m0 lk wd n : Nat) (v : Nat → Nat), as = [.ref 460, .int (Int32.ofNat n)] ∧ mr_X T I S m0 lk wd v ∧ n < rn_n S ∧ rn_k S n = 42 ∧ nq_l (rn_d S n) < n ∧ nq_a (rn_d S n) ≤ nq_b (rn_d S n) ∧ nq_b (rn_d S n) < 10000 ∧ mr_B (mr_E L (nq_l (rn_d S n))) (lk + wd) ∧ ∀ L1, (∀ i x, i ≤ lk + wd → (mr_e L1 492 (172 * n) i x = true ↔ ∃ m, nq_a (rn_d S n) ≤ m ∧ m < nq_b (rn_d S n) + 1 ∧ na_it (mr_E L (nq_l (rn_d S n))) m i x)) → mr_Fn n L L1 → q (.inl none) T N I L1 R 0 0
set_option maxRecDepth 100000 in
theorem wM_399 : ∃ cb ci np, pt_mt 399 = some (32, cb, 5, false, none, ci, np) := ⟨_, _, _, rfl⟩
set_option maxRecDepth 100000 in
set_option maxHeartbeats 4000000 in
theorem mr_times {sc : pt_Sc} {d : Nat} : wv_C wm_fx sc (d + 1 + 1 + 1 + 1) 399 mr_c399 := by
  rintro as T N I L R q ⟨S, m0, lk, wd, n, v, rfl, hX, hn, hk, hl, hab, hb4, hB, h⟩ w0 HR
  obtain ⟨cb, ci, np, hm⟩ := wM_399
  obtain ⟨e1, e2, e3⟩ := mr_nd (hX.2.1.2.2.2 n hn) (by omega)
  have e4 : I 472 n = Int32.ofNat (nq_a (rn_d S n)) := ((hX.2.1.2.2.2 n hn).2.2.2 (by omega)).2.2.1 (by omega)
  have e5 : I 474 n = Int32.ofNat (nq_b (rn_d S n)) := ((hX.2.1.2.2.2 n hn).2.2.2 (by omega)).2.2.2 hk
  have h86 : lk + wd < 86 := by have := hX.2.2.2.1; have := hX.2.2.2.2.2.1; omega
  have hc400 : wv_C wm_fx sc (d + 1 + 1 + 1) 400 mr_c400 := wv_C_deep (by omega) (mr_nothing (d := d))
  have hc397 : wv_C wm_fx sc (d + 1 + 1 + 1) 397 mr_c397 := wv_C_deep (by omega) (mr_add (d := d))
  have hc398 : wv_C wm_fx sc (d + 1 + 1 + 1) 398 mr_c398 := wv_C_deep (by omega) (mr_aheadM (d := d))
  refine wv_meth (hh := none) rfl (sp := wv_sp [(400, mr_c400), (397, mr_c397), (398, mr_c398)]) (hd := mr_h399 (lk + wd) n (nq_l (rn_d S n)) (nq_a (rn_d S n)) (nq_b (rn_d S n)) T N I L R) (n := 300) (n1 := 300) hm zc_399 rfl (wv_sp_ok (fun q hq => by
    rcases List.mem_cons.mp hq with h | h
    · rw [h]; exact hc400
    rcases List.mem_cons.mp h with h | h
    · rw [h]; exact hc397
    rw [List.mem_singleton.mp h]; exact hc398)) ?_ ?_ HR
  · have hX0 := hX
    obtain ⟨hT, ⟨h37, hn5, hm0, hM⟩, h49, hlk, h32, hwd, hv⟩ := hX0
    have enn := wi_onn (n := n) (by omega)
    refine ⟨_, wm_t hT rfl, pp_b (c := 800) (by omega) (by omega), ?_⟩
    rw [enn, e2]
    refine ⟨S, m0, lk, wd, v, rfl, hX, fun L2 s2 f2 => ?_⟩
    refine ⟨_, 0, by rw [decide_eq_true (Nat.zero_le _)]; rfl, rfl, rfl, rfl, rfl, rfl, rfl, rfl, by omega, rfl, mr_Fn_q f2, fun i x hi => ?_, fun hc => by omega⟩
    rw [s2 i x hi]
    exact ⟨fun z => (of_decide_eq_true z).symm, fun z => decide_eq_true (Eq.symm z)⟩
  · intro pc P hP m lv st T1 N1 I1 L1 R1 nc ns hh
    have hX0 := hX
    obtain ⟨hT, ⟨h37, hn5, hm0, hM⟩, h49, hlk, h32, hwd, hv⟩ := hX0
    generalize nq_l (rn_d S n) = l at *
    generalize nq_a (rn_d S n) = a at *
    generalize nq_b (rn_d S n) = b at *
    have enn := wi_onn (n := n) (by omega)
    have ea := wi_on (n := a) (by omega)
    have eb := wi_on (n := b) (by omega)
    unfold mr_h399 at hP
    split at hP
    · cases hP
      rename_i hpc
      subst hpc
      obtain ⟨c, rfl, rfl, rfl, rfl, rfl, rfl, rfl, rfl, hc, rfl, hF, hG, hE⟩ := hh
      have ec := wi_on (n := c) (by omega)
      refine ⟨_, wm_t hT rfl, pp_b (c := 800) (by omega) (by omega), ?_⟩
      rw [enn, e5]
      refine ⟨fun w => ?_, fun w => ?_⟩
      · rw [wi_lt, eb, ec] at w
        have ecb : c = b + 1 := by omega
        subst ecb
        exact h _ (hE (by omega)) hF
      rw [wi_lt, eb, ec] at w
      refine ⟨_, wm_t hT rfl, pp_b (c := 800) (by omega) (by omega), ?_⟩
      rw [enn, e4]
      refine ⟨fun w2 => ?_, fun w2 => ?_⟩
      · rw [wi_lt, ec, ea] at w2
        exact ⟨3 * (b + 1 - c) - 1, by omega, c, by rw [decide_eq_true (show c ≤ a by omega), decide_eq_true (show c + 1 ≤ a by omega)], rfl, rfl, rfl, rfl, rfl, rfl, rfl, by omega, rfl, hF, hG, fun z => by omega⟩
      · rw [wi_lt, ec, ea] at w2
        refine ⟨S, m0, lk, wd, n, v, decide (c ≤ a), rfl, hX, by omega, fun L2 s2 f2 => ?_⟩
        refine ⟨3 * (b + 1 - c) - 1, by omega, c, by rw [decide_eq_false (show ¬ c + 1 ≤ a by omega)]; rfl, rfl, rfl, rfl, rfl, rfl, rfl, rfl, by omega, rfl, mr_Fn_t hF (mr_Fn_a f2), fun i x hi => ?_, fun _ i x hi => ?_⟩
        · rw [mr_Fa_o f2 (by decide) (by decide)]
          exact hG i x hi
        · rw [s2 i x hi, Bool.or_eq_true, Bool.and_eq_true, hG i x hi]
          by_cases e : c = a
          · subst e
            rw [decide_eq_true (Nat.le_refl _)]
            constructor
            · rintro (z | z)
              · cases z.1
              · exact ⟨c, Nat.le_refl _, by omega, z⟩
            · rintro ⟨m, m1, m2, m3⟩
              have em : m = c := by omega
              subst em
              exact Or.inr m3
          · rw [decide_eq_false (show ¬ c ≤ a by omega), hE (by omega) i x hi]
            constructor
            · rintro (⟨_, m, m1, m2, m3⟩ | z)
              · exact ⟨m, m1, by omega, m3⟩
              · exact ⟨c, by omega, by omega, z⟩
            · rintro ⟨m, m1, m2, m3⟩
              by_cases em : m = c
              · subst em
                exact Or.inr m3
              · exact Or.inl ⟨rfl, m, m1, by omega, m3⟩
    · split at hP
      · cases hP
        rename_i hpc
        subst hpc
        obtain ⟨c, rfl, rfl, rfl, rfl, rfl, rfl, rfl, rfl, hc, rfl, hF, hG, hE⟩ := hh
        refine ⟨S, m0, lk, wd, l, v, rfl, hX, by omega, fun L2 s2 f2 => ?_⟩
        refine ⟨3 * (b + 1 - (c + 1)), by omega, c + 1, by rw [← wq_4s c]; rfl, rfl, rfl, rfl, rfl, rfl, rfl, rfl, by omega, rfl, mr_Fn_t hF (mr_Fn_q f2), fun i x hi => ?_, fun z i x hi => ?_⟩
        · rw [s2 i x hi]
          refine mr_A_it hB (fun i b hi => ?_) hG hi
          unfold mr_E
          rw [mr_Fn_e hF (by omega) (by omega)]
        · rw [mr_Fr_e f2]
          exact hE z i x hi
      · cases hP
theorem mr_i_1 {k : Nat} (h : k < 1000000) : Int32.ofNat k - Int32.ofInt 1 = mr_i k := by
  apply wi_eq.mpr
  unfold mr_i
  rw [wi_sub, wi_on (by omega), wi_of, wi_of, wr_id (x := 1) (by omega) (by omega), wr_id (by omega) (by omega)]
def mr_h401 (wb : Prop) (H : Nat → Nat → Nat → Prop) (Z n l a : Nat) (T : wv_T) (N : Nat) (I : Nat → Nat → Int32) (L : Nat → Nat → Int64) (R : Nat → Nat → Option Nat) : Nat → Option (Nat → wv_P) := fun pc =>
  if pc = 29 then some (fun mm lv st T1 N1 I1 L1 R1 nc ns => ∃ (j : Nat) (c : Int32), c = mr_i j ∧ lv = [some (.ref 460), some (.int (Int32.ofNat n)), some (.int (Int32.ofNat l)), some (.int c), none, none] ∧ st = [] ∧ T1 = T ∧ N1 = N ∧ I1 = I ∧ R1 = R ∧ nc = 0 ∧ ns = 0 ∧ j ≤ Z ∧ wb ∧ mm = 20000 + 2 * j ∧ mr_Fr L L1 ∧ ∀ b x, j ≤ b → b ≤ Z → (mr_e L1 493 0 b x = true ↔ H 0 b x))
  else if pc = 59 then some (fun mm lv st T1 N1 I1 L1 R1 nc ns => ∃ (i : Nat), lv = [some (.ref 460), some (.int (Int32.ofNat n)), some (.int (Int32.ofNat l)), some (.int (Int32.ofNat i)), none, none] ∧ st = [] ∧ T1 = T ∧ N1 = N ∧ I1 = I ∧ R1 = R ∧ nc = 0 ∧ ns = 0 ∧ i < Z ∧ wb ∧ mm = 20000 + 2 * i + 1 ∧ mr_Fr L L1 ∧ (∀ b x, i < b → b ≤ Z → (mr_e L1 493 0 b x = true ↔ H 0 b x)) ∧ ∀ x, mr_s L1 x = true ↔ H 0 i x)
  else if pc = 72 then some (fun mm lv st T1 N1 I1 L1 R1 nc ns => ∃ (c : Nat), lv = [some (.ref 460), some (.int (Int32.ofNat n)), some (.int (Int32.ofNat l)), some (.int (Int32.ofNat c)), none, none] ∧ st = [] ∧ T1 = T ∧ N1 = N ∧ I1 = I ∧ R1 = R ∧ nc = 0 ∧ ns = 0 ∧ c ≤ a ∧ mm = a - c ∧ mr_Fr L L1 ∧ ∀ b x, b ≤ Z → (mr_e L1 493 0 b x = true ↔ H c b x))
  else none
def mr_c401 : wv_c1 := fun as T N I L R q => ∃ (S : rn_N) (m0 lk wd n : Nat) (v : Nat → Nat), as = [.ref 460, .int (Int32.ofNat n)] ∧ mr_X T I S m0 lk wd v ∧ n < rn_n S ∧ (43 ≤ rn_k S n ∧ rn_k S n ≤ 44) ∧ nq_l (rn_d S n) < n ∧ rn_k S (nq_l (rn_d S n)) = 60 ∧ nq_a (rn_d S n) < 10000 ∧ ∀ L1, (∀ i x, i ≤ lk + wd → (mr_e L1 492 (172 * n) i x = true ↔ mr_H (rn_h S (nq_l (rn_d S n))) v lk (lk + wd) (rn_k S n = 44) (nq_a (rn_d S n)) i x)) → mr_Fn n L L1 → q (.inl none) T N I L1 R 0 0
set_option maxRecDepth 100000 in
theorem wM_401 : ∃ cb ci np, pt_mt 401 = some (32, cb, 4, false, none, ci, np) := ⟨_, _, _, rfl⟩
set_option maxRecDepth 100000 in
set_option maxHeartbeats 4000000 in
theorem mr_occ {sc : pt_Sc} {d : Nat} : wv_C wm_fx sc (d + 1 + 1 + 1 + 1) 401 mr_c401 := by
  rintro as T N I L R q ⟨S, m0, lk, wd, n, v, rfl, hX, hn, hk, hl, hl6, ha4, h⟩ w0 HR
  obtain ⟨cb, ci, np, hm⟩ := wM_401
  obtain ⟨e1, e2, e3⟩ := mr_nd (hX.2.1.2.2.2 n hn) (by omega)
  have e4 : I 472 n = Int32.ofNat (nq_a (rn_d S n)) := ((hX.2.1.2.2.2 n hn).2.2.2 (by omega)).2.2.1 (by omega)
  have hc382 : wv_C wm_fx sc (d + 1 + 1 + 1) 382 mr_c382 := wv_C_deep (by omega) (mr_last (d := d))
  have hc383 : wv_C wm_fx sc (d + 1 + 1 + 1) 383 mr_c383 := wv_C_deep (by omega) (mr_clear (d := d))
  have hc384 : wv_C wm_fx sc (d + 1 + 1 + 1) 384 mr_c384 := wv_C_deep (by omega) (mr_can (d := d))
  have hc387 : wv_C wm_fx sc (d + 1 + 1 + 1) 387 mr_c387 := wv_C_deep (by omega) (mr_join (d := d))
  have hc395 : wv_C wm_fx sc (d + 1 + 1 + 1) 395 mr_c395 := wv_C_deep (by omega) (mr_joinRound (d := d))
  have hc396 : wv_C wm_fx sc (d + 1 + 1 + 1) 396 mr_c396 := wv_C_deep (by omega) (mr_storeRound (d := d))
  have hc397 : wv_C wm_fx sc (d + 1 + 1 + 1) 397 mr_c397 := wv_C_deep (by omega) (mr_add (d := d))
  have hc400 : wv_C wm_fx sc (d + 1 + 1 + 1) 400 mr_c400 := wv_C_deep (by omega) (mr_nothing (d := d))
  have hc402 : wv_C wm_fx sc (d + 1 + 1 + 1) 402 mr_c402 := wv_C_deep (by omega) (mr_reach (d := d))
  refine wv_meth (hh := none) rfl (sp := wv_sp [(382, mr_c382), (383, mr_c383), (384, mr_c384), (387, mr_c387), (395, mr_c395), (396, mr_c396), (397, mr_c397), (400, mr_c400), (402, mr_c402)]) (hd := mr_h401 (rn_k S n = 44) (fun q => mr_H (rn_h S (nq_l (rn_d S n))) v lk (lk + wd) (rn_k S n = 44) q) (lk + wd) n (nq_l (rn_d S n)) (nq_a (rn_d S n)) T N I L R) (n := 300) (n1 := 300) hm zc_401 rfl (wv_sp_ok (fun q hq => by
    rcases List.mem_cons.mp hq with h | h
    · rw [h]; exact hc382
    rcases List.mem_cons.mp h with h | h
    · rw [h]; exact hc383
    rcases List.mem_cons.mp h with h | h
    · rw [h]; exact hc384
    rcases List.mem_cons.mp h with h | h
    · rw [h]; exact hc387
    rcases List.mem_cons.mp h with h | h
    · rw [h]; exact hc395
    rcases List.mem_cons.mp h with h | h
    · rw [h]; exact hc396
    rcases List.mem_cons.mp h with h | h
    · rw [h]; exact hc397
    rcases List.mem_cons.mp h with h | h
    · rw [h]; exact hc400
    rw [List.mem_singleton.mp h]; exact hc402)) ?_ ?_ HR
  · have hX0 := hX
    obtain ⟨hT, ⟨h37, hn5, hm0, hM⟩, h49, hlk, h32, hwd, hv⟩ := hX0
    have enn := wi_onn (n := n) (by omega)
    refine ⟨_, wm_t hT rfl, pp_b (c := 800) (by omega) (by omega), ?_⟩
    rw [enn, e2]
    refine ⟨S, m0, lk, wd, v, rfl, hX, fun L2 s2 f2 => ?_⟩
    refine ⟨_, wm_t hT rfl, pp_b (c := 800) (by omega) (by omega), ?_⟩
    rw [enn, e1]
    refine ⟨fun w => ?_, fun w => ?_⟩
    · have w : ¬ rn_k S n = 44 := fun z => w (by rw [z]; rfl)
      refine ⟨_, 0, rfl, rfl, rfl, rfl, rfl, rfl, rfl, rfl, by omega, rfl, f2, fun b x hb => ?_⟩
      rw [s2 b x hb]
      exact Iff.trans ⟨of_decide_eq_true, decide_eq_true⟩ (mr_H_0 hb w x).symm
    · refine ⟨lk, wd, rfl, h49, h32, by omega, ?_⟩
      have w : rn_k S n = 44 := Decidable.not_not.mp (fun z => w (fun y => z ((ap_k (by omega) (by omega) rfl).mp y)))
      refine ⟨_, lk + wd, _, mr_i_1 (by omega), rfl, rfl, rfl, rfl, rfl, rfl, rfl, rfl, Nat.le_refl _, w, rfl, f2, fun b x h1 hb => ?_⟩
      rw [s2 b x hb]
      refine Iff.trans ?_ (mr_H_1 (by omega) hb w x).symm
      exact ⟨fun z => Or.inl (of_decide_eq_true z), fun z => z.elim decide_eq_true (fun y => by have := mr_c_lt (by omega) y.1; omega)⟩
  · intro pc P hP m lv st T1 N1 I1 L1 R1 nc ns hh
    have hX0 := hX
    obtain ⟨hT, ⟨h37, hn5, hm0, hM⟩, h49, hlk, h32, hwd, hv⟩ := hX0
    have hl2 : nq_l (rn_d S n) < rn_n S := by omega
    generalize nq_l (rn_d S n) = l at *
    generalize nq_a (rn_d S n) = a at *
    have enn := wi_onn (n := n) (by omega)
    have ea := wi_on (n := a) (by omega)
    unfold mr_h401 at hP
    by_cases p29 : pc = 29
    · rw [if_pos p29] at hP
      cases hP
      subst p29
      obtain ⟨j, c, hc, rfl, rfl, rfl, rfl, rfl, rfl, rfl, rfl, hj, w44, rfl, hF, hE⟩ := hh
      refine ⟨fun w => ?_, fun w => ?_⟩
      · have w : c < 0 := w
        rw [hc, mr_i_n (by omega)] at w
        exact ⟨a - 0, by omega, 0, rfl, rfl, rfl, rfl, rfl, rfl, rfl, rfl, by omega, rfl, hF, fun b x hb => hE b x (by omega) hb⟩
      have w : ¬ c < 0 := w
      rw [hc, mr_i_n (by omega)] at w
      obtain ⟨i, rfl⟩ : ∃ i, j = i + 1 := ⟨j - 1, by omega⟩
      rw [mr_i_s (by omega)] at hc
      subst hc
      refine ⟨rfl, fun L2 s2 f2 => ?_⟩
      refine ⟨i, rfl, by omega, fun L3 s3 f3 => ?_⟩
      refine ⟨S, m0, lk, wd, l, i, v, false, rfl, hX, hl2, hl6, by omega, ?_⟩
      have q3 : ∀ x, mr_s L3 x = true ↔ x = i := fun x => by
        rw [s3, s2, Bool.false_or]
        exact ⟨of_decide_eq_true, decide_eq_true⟩
      have E3 : ∀ b x, i < b → b ≤ lk + wd → (mr_e L3 493 0 b x = true ↔ mr_H (rn_h S l) v lk (lk + wd) (rn_k S n = 44) 0 b x) := fun b x h1 h2 => by
        rw [mr_Fs_e f3 (by decide), mr_Fs_e f2 (by decide)]
        exact hE b x h1 h2
      refine ⟨fun w2 => ?_, fun w2 => ?_⟩
      · have w2 : mr_c (rn_h S l) lk (lk + wd) v i false = false := wb_i_2.mp (fun z => z w2)
        refine ⟨20000 + 2 * i + 1, by omega, i, rfl, rfl, rfl, rfl, rfl, rfl, rfl, rfl, by omega, w44, rfl, mr_Fr_s (mr_Fr_s hF f2) f3, E3, fun x => ?_⟩
        rw [q3]
        refine Iff.trans ?_ (mr_H_1 (by omega) (by omega) w44 x).symm
        rw [w2]
        exact ⟨Or.inl, fun z => z.elim id (fun y => by cases y.1)⟩
      · have w2 := wb_i_1.mp w2
        refine ⟨i + 1, congrArg (fun z => [Value.ref 460, Value.int z]) (wq_4s i), hT, by omega, fun L4 s4 f4 => ?_⟩
        refine ⟨20000 + 2 * i + 1, by omega, i, rfl, rfl, rfl, rfl, rfl, rfl, rfl, rfl, by omega, w44, rfl, mr_Fr_s (mr_Fr_s (mr_Fr_s hF f2) f3) f4, fun b x h1 h2 => ?_, fun x => ?_⟩
        · rw [mr_Fs_e f4 (by decide)]
          exact E3 b x h1 h2
        · rw [s4, Bool.or_eq_true, q3, E3 (i + 1) x (by omega) (by omega)]
          refine Iff.trans ?_ (mr_H_1 (by omega) (by omega) w44 x).symm
          rw [w2]
          exact ⟨fun z => z.elim Or.inl (fun y => Or.inr ⟨rfl, y⟩), fun z => z.elim Or.inl (fun y => Or.inr y.2)⟩
    rw [if_neg p29] at hP
    by_cases p59 : pc = 59
    · rw [if_pos p59] at hP
      cases hP
      subst p59
      obtain ⟨i, rfl, rfl, rfl, rfl, rfl, rfl, rfl, rfl, hi, w44, rfl, hF, hE, hs⟩ := hh
      refine ⟨i, rfl, hT, by omega, fun L4 s4 f4 => ?_⟩
      refine ⟨20000 + 2 * i, by omega, i, _, mr_i_d (by omega), rfl, rfl, rfl, rfl, rfl, rfl, rfl, rfl, by omega, w44, rfl, mr_Fr_2 hF f4, fun b x h1 h2 => ?_⟩
      by_cases e : b = i
      · subst e
        rw [s4]
        exact hs x
      · rw [mr_F2_e f4 e]
        exact hE b x (by omega) h2
    rw [if_neg p59] at hP
    by_cases p72 : pc = 72
    · rw [if_pos p72] at hP
      cases hP
      subst p72
      obtain ⟨c, rfl, rfl, rfl, rfl, rfl, rfl, rfl, rfl, hc, rfl, hF, hE⟩ := hh
      have ec := wi_on (n := c) (by omega)
      refine ⟨_, wm_t hT rfl, pp_b (c := 800) (by omega) (by omega), ?_⟩
      rw [enn, e4]
      refine ⟨fun w => ?_, fun w => ?_⟩
      · rw [wi_le, ea, ec] at w
        have eca : c = a := by omega
        subst eca
        refine ⟨S, m0, lk, wd, n, v, true, rfl, hX, by omega, fun L2 s2 f2 => ?_⟩
        refine h _ (fun i x hi => ?_) (mr_Fn_t (mr_Fn_q hF) (mr_Fn_a f2))
        rw [s2 i x hi]
        exact hE i x hi
      rw [wi_le, ea, ec] at w
      refine ⟨S, m0, lk, wd, l, v, mr_H (rn_h S l) v lk (lk + wd) (rn_k S n = 44) (c + 1), rfl, hX, hl2, hl6, fun i x hi => ?_, fun L2 s2 f2 => ?_⟩
      · rw [mr_H_s (by omega)]
        have e : mr_c (rn_h S l) lk (lk + wd) v i true = true → (mr_e L1 493 0 (i + 1) x = true ↔ mr_H (rn_h S l) v lk (lk + wd) (rn_k S n = 44) c (i + 1) x) := fun z => hE (i + 1) x (by have := mr_c_lt (by omega) z; omega)
        exact ⟨fun z => z.elim (fun y => Or.inl ⟨y.1, (e y.1).mpr y.2⟩) Or.inr, fun z => z.elim (fun y => Or.inl ⟨y.1, (e y.1).mp y.2⟩) Or.inr⟩
      · exact ⟨a - (c + 1), by omega, c + 1, by rw [← wq_4s c]; rfl, rfl, rfl, rfl, rfl, rfl, rfl, rfl, by omega, rfl, mr_Fr_t hF f2, s2⟩
    rw [if_neg p72] at hP
    cases hP
