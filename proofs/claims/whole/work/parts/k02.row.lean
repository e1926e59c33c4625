/-! ===== the class: rows ===== -/
def rw_c192 : wv_c1 := fun as T N I L R q => ∃ C : Nat, as = [.ref C] ∧ T C = some (.inl 7) ∧ q (.inl (some (.int (I C 9)))) T N I L R 0 0
set_option maxRecDepth 100000 in
theorem wM_192 : ∃ cb ci np, pt_mt 192 = some (8, cb, 1, false, some .int, ci, np) := ⟨_, _, _, rfl⟩
set_option maxRecDepth 100000 in
set_option maxHeartbeats 4000000 in
theorem rw_seqCount {sc : pt_Sc} {d : Nat} : wv_C wm_fx sc (d + 1) 192 rw_c192 := by
  rintro as T N I L R q ⟨C, rfl, d0, h⟩ w0 HR
  obtain ⟨cb, ci, np, hm⟩ := wM_192
  refine wv_meth (hh := none) rfl (sp := fun _ _ _ _ _ _ _ _ => False) (hd := fun _ => none) (n := 0) (n1 := 300) hm zc_192 rfl (fun k as T N I L R q h => by cases h) ?_ (fun pc P h => by cases h) HR
  exact ⟨d0, h⟩
def rw_c194 : wv_c1 := fun as T N I L R q => ∃ C k : Nat, as = [.ref C, .int (Int32.ofNat k)] ∧ pp_D T R C ∧ k < 67 ∧ q (.inl (some (.ref (C + 9 + k)))) T N I L R 0 0
set_option maxRecDepth 100000 in
theorem wM_194 : ∃ cb ci np, pt_mt 194 = some (8, cb, 2, false, some (.object "AssertionBench$Sequence"), ci, np) := ⟨_, _, _, rfl⟩
set_option maxRecDepth 100000 in
set_option maxHeartbeats 4000000 in
theorem rw_sequence {sc : pt_Sc} {d : Nat} : wv_C wm_fx sc (d + 1) 194 rw_c194 := by
  rintro as T N I L R q ⟨C, k, rfl, ⟨d0, ⟨r0, r1, r2, r3, r4, r5, r6, r7⟩, tt, ⟨k7, t7⟩, t8, ds, dc⟩, hk, h⟩ w0 HR
  obtain ⟨cb, ci, np, hm⟩ := wM_194
  refine wv_meth (hh := none) rfl (sp := fun _ _ _ _ _ _ _ _ => False) (hd := fun _ => none) (n := 0) (n1 := 300) hm zc_194 rfl (fun k as T N I L R q h => by cases h) ?_ (fun pc P h => by cases h) HR
  exact ⟨d0, _, r6, _, _, _, t7, pp_b (c := 67) hk (by omega), by rw [wi_onn (by omega)]; exact (ds k hk).1, h⟩
def rw_c191 : wv_c1 := fun as T N I L R q => ∃ p C : Nat, as = [.ref 0, .int (Int32.ofNat p)] ∧ p < 2 ∧ (∃ k1, T 27 = some (.inr (k1 + 4, 2))) ∧ R 27 p = some C ∧ T C = some (.inl 7) ∧ (I C 9 = 0 → q (.inr 3) T N I L R 1 6) ∧ (¬ I C 9 = 0 → q (.inl none) T N I L R 0 0)
set_option maxRecDepth 100000 in
theorem wM_191 : ∃ cb ci np, pt_mt 191 = some (1, cb, 2, false, none, ci, np) := ⟨_, _, _, rfl⟩
set_option maxRecDepth 100000 in
set_option maxHeartbeats 4000000 in
theorem rw_checkSeq {sc : pt_Sc} {d : Nat} : wv_C wm_fx sc (d + 1 + 1) 191 rw_c191 := by
  rintro as T N I L R q ⟨p, C, rfl, hp, ⟨k1, t27⟩, hR, d0, h1, h2⟩ w0 HR
  obtain ⟨cb, ci, np, hm⟩ := wM_191
  have hc192 : wv_C wm_fx sc (d + 1) 192 rw_c192 := wv_C_deep (by omega) (rw_seqCount (d := d))
  refine wv_meth (hh := none) rfl (sp := wv_sp [(192, rw_c192)]) (hd := fun _ => none) (n := 0) (n1 := 300) hm zc_191 rfl (wv_sp_ok (fun q hq => by rw [List.mem_singleton.mp hq]; exact hc192)) ?_ (fun pc P h => by cases h) HR
  refine ⟨_, _, _, t27, pp_b (c := 2) hp (by omega), by rw [wi_onn (by omega)]; exact hR, ?_⟩
  refine ⟨d0, C, rfl, d0, ?_⟩
  exact ⟨fun w => h2 w, fun w => h1 (Decidable.not_not.mp w)⟩
def rw_bp (pi : Int32) : Prop := pi < 0 ∨ Int32.ofInt 2 ≤ pi
def rw_br (n ii jj : Int32) : Prop := ii < 0 ∨ jj < ii ∨ n < jj
theorem rw_bp_n {pi : Int32} (h : ¬ rw_bp pi) : ∃ p : Nat, p < 2 ∧ pi = Int32.ofNat p := by
  have a : 0 ≤ pi.toInt := by
    refine Int.not_lt.mp (fun z => h (Or.inl (wi_lt.mpr ?_)))
    rw [wi_0]
    exact z
  have b : pi.toInt < 2 := by
    refine Int.not_le.mp (fun z => h (Or.inr (wi_le.mpr ?_)))
    exact z
  exact ⟨pi.toInt.toNat, by omega, wi_eq.mpr (by rw [wi_on (by omega)]; omega)⟩
theorem rw_br_n {n : Nat} {ii jj : Int32} (hn : n ≤ 24) (h : ¬ rw_br (Int32.ofNat n) ii jj) : ∃ i j : Nat, i ≤ j ∧ j ≤ n ∧ ii = Int32.ofNat i ∧ jj = Int32.ofNat j := by
  unfold rw_br at h
  rw [wi_lt, wi_lt, wi_lt, wi_0, wi_on (by omega)] at h
  exact ⟨ii.toInt.toNat, jj.toInt.toNat, by omega, by omega, wi_eq.mpr (by rw [wi_on (by omega)]; omega), wi_eq.mpr (by rw [wi_on (by omega)]; omega)⟩
def rw_c190 : wv_c1 := fun as T N I L R q => ∃ (pi ii jj : Int32) (C : Nat → Nat), as = [.ref 0, .int pi, .int ii, .int jj] ∧ (∃ k1, T 27 = some (.inr (k1 + 4, 2))) ∧ (∀ p, p < 2 → R 27 p = some (C p) ∧ T (C p) = some (.inl 7)) ∧ (rw_bp pi → q (.inr 2) T N I L R 1 6) ∧ (¬ rw_bp pi → rw_br (I 0 16) ii jj → q (.inr 0) T N I L R 1 6) ∧ ∀ p, p < 2 → pi = Int32.ofNat p → ¬ rw_br (I 0 16) ii jj → (I (C p) 9 = 0 → q (.inr 3) T N I L R 1 6) ∧ (¬ I (C p) 9 = 0 → q (.inl none) T N I L R 0 0)
set_option maxRecDepth 100000 in
theorem wM_190 : ∃ cb ci np, pt_mt 190 = some (1, cb, 4, false, none, ci, np) := ⟨_, _, _, rfl⟩
set_option maxRecDepth 100000 in
set_option maxHeartbeats 4000000 in
theorem rw_checkRow {sc : pt_Sc} {d : Nat} : wv_C wm_fx sc (d + 1 + 1 + 1) 190 rw_c190 := by
  rintro as T N I L R q ⟨pi, ii, jj, C, rfl, t27, hR, hb, hr, h⟩ w0 HR
  obtain ⟨cb, ci, np, hm⟩ := wM_190
  have hc101 : wv_C wm_fx sc (d + 1 + 1) 101 wq_c101 := wv_C_deep (by omega) (wq_checkP (d := d))
  have hc191 : wv_C wm_fx sc (d + 1 + 1) 191 rw_c191 := wv_C_deep (by omega) (rw_checkSeq (d := d))
  refine wv_meth (hh := none) rfl (sp := wv_sp [(101, wq_c101), (191, rw_c191)]) (hd := fun _ => none) (n := 0) (n1 := 300) hm zc_190 rfl (wv_sp_ok (fun q hq => by
    rcases List.mem_cons.mp hq with h | h
    · rw [h]; exact hc101
    rw [List.mem_singleton.mp h]; exact hc191)) ?_ (fun pc P h => by cases h) HR
  refine ⟨pi, rfl, fun z => ⟨Or.inr rfl, hb z⟩, fun z => ?_⟩
  refine ⟨fun w => ?_, fun w => ?_⟩
  · exact hr z (Or.inl w)
  refine ⟨fun w2 => ?_, fun w2 => ?_⟩
  · exact hr z (Or.inr (Or.inl w2))
  refine ⟨fun w3 => ?_, fun w3 => ?_⟩
  · obtain ⟨p, hp, e⟩ := rw_bp_n z
    have nr : ¬ rw_br (I 0 16) ii jj := fun y => y.elim w (fun y2 => y2.elim w2 (fun y3 => Int32.not_lt.mpr w3 y3))
    obtain ⟨h1, h2⟩ := h p hp e nr
    exact ⟨p, C p, by rw [e]; rfl, hp, t27, (hR p hp).1, (hR p hp).2, fun y => ⟨Or.inl rfl, h1 y⟩, fun y => h2 y⟩
  · exact hr z (Or.inr (Or.inr (Int32.not_le.mp w3)))
def rw_h195 (Q i j : Nat) (A : nt_A) (v : Nat → Nat) (T : wv_T) (N : Nat) (I : Nat → Nat → Int32) (L : Nat → Nat → Int64) (R : Nat → Nat → Option Nat) : Nat → Option (Nat → wv_P) := fun pc =>
  if pc = 6 then some (fun mm lv st T1 N1 I1 L1 R1 nc ns => ∃ (k : Nat) (x : Int64), lv = [some (.ref 0), some (.ref Q), some (.int (Int32.ofNat i)), some (.int (Int32.ofNat j)), some (.long x), none, some (.int (Int32.ofNat k)), none, none, none, none] ∧ st = [] ∧ T1 = T ∧ N1 = N ∧ I1 = I ∧ L1 = L ∧ R1 = R ∧ nc = 0 ∧ ns = 0 ∧ i ≤ k ∧ k ≤ j ∧ mm = 100 - k ∧ ∀ t, t < 64 → (nb x t = true ↔ nz_s A (pd_w v) i (k - i) t))
  else none
def rw_c195 : wv_c1 := fun as T N I L R q => ∃ (Q i j w g : Nat) (A : nt_A) (v : Nat → Nat), as = [.ref 0, .ref Q, .int (Int32.ofNat i), .int (Int32.ofNat j)] ∧ wm_T T ∧ sq_D T I L R Q A w g ∧ ni_A g A ∧ i ≤ j ∧ j ≤ 24 ∧ (∀ k, k < j → I 341 k = Int32.ofNat (v k) ∧ v k < 64) ∧ ∀ x, (∀ t, t < 64 → (nb x t = true ↔ nz_s A (pd_w v) i (j - i) t)) → q (.inl (some (.long x))) T N I L R 0 0
set_option maxRecDepth 100000 in
theorem wM_195 : ∃ cb ci np, pt_mt 195 = some (1, cb, 7, false, some .long, ci, np) := ⟨_, _, _, rfl⟩
set_option maxRecDepth 100000 in
set_option maxHeartbeats 4000000 in
theorem rw_states {sc : pt_Sc} {d : Nat} : wv_C wm_fx sc (d + 1 + 1) 195 rw_c195 := by
  rintro as T N I L R q ⟨Q, i, j, w, g, A, v, rfl, hT, hD, hni, hij, hj, hv, h⟩ w0 HR
  obtain ⟨cb, ci, np, hm⟩ := wM_195
  have hc181 : wv_C wm_fx sc (d + 1) 181 sq_c181 := wv_C_deep (by omega) (sq_next (d := d))
  refine wv_meth (hh := none) rfl (sp := wv_sp [(181, sq_c181)]) (hd := rw_h195 Q i j A v T N I L R) (n := 300) (n1 := 300) hm zc_195 rfl (wv_sp_ok (fun q hq => by rw [List.mem_singleton.mp hq]; exact hc181)) ?_ ?_ HR
  · refine ⟨_, i, _, rfl, rfl, rfl, rfl, rfl, rfl, rfl, rfl, rfl, Nat.le_refl _, hij, rfl, fun t ht => ?_⟩
    rw [Nat.sub_self, nz_s_0]
    have e : nb (Int64.ofNat 1) t = decide (t = 0) := nb_1 t
    exact (Bool.eq_iff_iff.mp e).trans decide_eq_true_iff
  · intro pc P hP m lv st T1 N1 I1 L1 R1 nc ns hh
    unfold rw_h195 at hP
    split at hP
    · cases hP
      rename_i hpc
      subst hpc
      obtain ⟨k, x, rfl, rfl, rfl, rfl, rfl, rfl, rfl, rfl, rfl, hik, hkj, rfl, hx⟩ := hh
      have ek := wi_on (n := k) (by omega)
      have ekn := wi_onn (n := k) (by omega)
      have ej := wi_on (n := j) (by omega)
      refine ⟨fun w2 => ?_, fun w2 => ?_⟩
      · rw [wi_le, ek, ej] at w2
        have e : k = j := by omega
        subst e
        exact h x hx
      rw [wi_le, ek, ej] at w2
      obtain ⟨v1, v2⟩ := hv k (by omega)
      refine ⟨_, wm_t hT rfl, pp_b (c := 24) (by omega) (by omega), ?_⟩
      rw [ekn, v1]
      refine ⟨hD.1, Q, w, g, v k, A, x, rfl, hD, v2, fun y hy => ?_⟩
      refine ⟨100 - (k + 1), by omega, k + 1, y, by rw [← wq_4s k]; rfl, rfl, rfl, rfl, rfl, rfl, rfl, rfl, rfl, by omega, by omega, rfl, fun t ht => ?_⟩
      have hn40 := hD.2.2.2.2.2.1
      rw [hy t ht, show k + 1 - i = (k - i) + 1 by omega, nz_s_1, show i + (k - i) = k by omega]
      constructor
      · rintro ⟨s, s1, s2, s3, s4⟩
        exact ⟨s, (hx s (by omega)).mp s2, (sc_ni hni).mp s3, s4⟩
      · rintro ⟨s, s2, s3, s4⟩
        have hb := (nz_D_b s3).1
        exact ⟨s, hb, (hx s (by omega)).mpr s2, (sc_ni hni).mpr s3, s4⟩
    · cases hP
/-- which rows a sequence has, and what goes on -/
theorem rw_acc {A : nt_A} {v : Nat → Nat} {i j : Nat} {x F : Int64} (hij : i ≤ j) (hn : nt_n A ≤ 40) (hx : ∀ t, t < 64 → (nb x t = true ↔ nz_s A (pd_w v) i (j - i) t)) (hF : ∀ t, t < 64 → (nb F t = true ↔ nz_F A t)) : (∃ t, t < 64 ∧ nb x t = true ∧ nb F t = true) ↔ nt_a A (pd_w v) i j := by
  have h2 := nz_s_a (A := A) (w := pd_w v) (i := i) (n := j - i)
  rw [show i + (j - i) = j by omega] at h2
  rw [h2]
  constructor
  · rintro ⟨t, z1, z2, z3⟩
    exact ⟨t, (hx t z1).mp z2, (hF t z1).mp z3⟩
  · rintro ⟨t, z1, z2⟩
    have ht : t < nt_n A + 1 := by
      rcases z2 with ⟨z, _⟩ | ⟨x, z, z2⟩
      · omega
      · have := z2.1
        omega
    exact ⟨t, by omega, (hx t (by omega)).mpr z1, (hF t (by omega)).mpr z2⟩
def rw_on (A : nt_A) (v : Nat → Nat) (i j : Nat) : Prop := ∃ t, nz_s A (pd_w v) i (j - i) t ∧ nz_l A t
theorem rw_nz {A : nt_A} {w : Nat → Option Nat} {i n t : Nat} (h : nz_s A w i n t) : t < nt_n A + 1 := by
  cases n with
  | zero =>
    rw [nz_s_0.mp h]
    omega
  | succ n =>
    obtain ⟨s, _, s2, _⟩ := nz_s_1.mp h
    exact (nz_D_b s2).2
theorem rw_can {A : nt_A} {v : Nat → Nat} {i j : Nat} {x F : Int64} (hn : nt_n A ≤ 40) (hx : ∀ t, t < 64 → (nb x t = true ↔ nz_s A (pd_w v) i (j - i) t)) (hF : ∀ t, t < 64 → (nb F t = true ↔ t < nt_n A + 1 ∧ nz_l A t)) : (∃ t, t < 64 ∧ nb x t = true ∧ nb F t = true) ↔ rw_on A v i j := by
  constructor
  · rintro ⟨t, z1, z2, z3⟩
    exact ⟨t, (hx t z1).mp z2, ((hF t z1).mp z3).2⟩
  · rintro ⟨t, z1, z2⟩
    have ht := rw_nz z1
    exact ⟨t, by omega, (hx t (by omega)).mpr z1, (hF t (by omega)).mpr ⟨ht, z2⟩⟩
/-- what the calls row and goesOn are given -/
def rw_I (T : wv_T) (I : Nat → Nat → Int32) (L : Nat → Nat → Int64) (R : Nat → Nat → Option Nat) (n : Nat) (v : Nat → Nat) (C : Nat → Nat) (P : Nat → pd_P) (S : Nat → rn_N) (sq : Nat → List Nat) : Prop := wm_T T ∧ (∃ k1, T 27 = some (.inr (k1 + 4, 2))) ∧ I 0 16 = Int32.ofNat n ∧ n ≤ 24 ∧ (∀ k, k < n → I 341 k = Int32.ofNat (v k) ∧ v k < 64) ∧ ∀ p, p < 2 → R 27 p = some (C p) ∧ pp_D T R (C p) ∧ pq_S T I L R (C p) (S p) (sq p) (P p) ∧ (sq p).length ≤ 67
def rw_O (X : nt_A → (Nat → Nat) → Nat → Nat → Prop) (q : wv_Q) (pi ii jj : Int32) (T : wv_T) (N : Nat) (I : Nat → Nat → Int32) (L : Nat → Nat → Int64) (R : Nat → Nat → Option Nat) (n : Nat) (v : Nat → Nat) (S : Nat → rn_N) (sq : Nat → List Nat) : Prop := (rw_bp pi → q (.inr 2) T N I L R 1 6) ∧ (¬ rw_bp pi → rw_br (Int32.ofNat n) ii jj → q (.inr 0) T N I L R 1 6) ∧ ∀ p, p < 2 → pi = Int32.ofNat p → ¬ rw_br (Int32.ofNat n) ii jj → (sq p = [] → q (.inr 3) T N I L R 1 6) ∧ ∀ y i j, (sq p)[0]? = some y → i ≤ j → j ≤ n → ii = Int32.ofNat i → jj = Int32.ofNat j → ∀ b : Bool, (b = true ↔ X (rn_t (S p) y) v i j) → q (.inl (some (.int (wb_i b)))) T N I L R 0 0
def rw_c189 : wv_c1 := fun as T N I L R q => ∃ (pi ii jj : Int32) (n : Nat) (v : Nat → Nat) (C : Nat → Nat) (P : Nat → pd_P) (S : Nat → rn_N) (sq : Nat → List Nat), as = [.ref 0, .int pi, .int ii, .int jj] ∧ rw_I T I L R n v C P S sq ∧ rw_O (fun A v i j => nt_a A (pd_w v) i j) q pi ii jj T N I L R n v S sq
set_option maxRecDepth 100000 in
theorem wM_189 : ∃ cb ci np, pt_mt 189 = some (1, cb, 5, false, some .boolean, ci, np) := ⟨_, _, _, rfl⟩
set_option maxRecDepth 100000 in
set_option maxHeartbeats 4000000 in
theorem rw_row {sc : pt_Sc} {d : Nat} : wv_C wm_fx sc (d + 1 + 1 + 1 + 1) 189 rw_c189 := by
  rintro as T N I L R q ⟨pi, ii, jj, n, v, C, P, S, sq, rfl, ⟨hT, t27, h16, hn, hv, hQ⟩, hb, hr, h⟩ w0 HR
  obtain ⟨cb, ci, np, hm⟩ := wM_189
  have hc190 : wv_C wm_fx sc (d + 1 + 1 + 1) 190 rw_c190 := wv_C_deep (by omega) (rw_checkRow (d := d))
  have hc194 : wv_C wm_fx sc (d + 1 + 1 + 1) 194 rw_c194 := wv_C_deep (by omega) (rw_sequence (d := d))
  have hc195 : wv_C wm_fx sc (d + 1 + 1 + 1) 195 rw_c195 := wv_C_deep (by omega) (rw_states (d := d))
  have hc180 : wv_C wm_fx sc (d + 1 + 1 + 1) 180 sq_c180 := wv_C_deep (by omega) (sq_accepts (d := d))
  refine wv_meth (hh := none) rfl (sp := wv_sp [(190, rw_c190), (194, rw_c194), (195, rw_c195), (180, sq_c180)]) (hd := fun _ => none) (n := 0) (n1 := 300) hm zc_189 rfl (wv_sp_ok (fun q hq => by
    rcases List.mem_cons.mp hq with h | h
    · rw [h]; exact hc190
    rcases List.mem_cons.mp h with h | h
    · rw [h]; exact hc194
    rcases List.mem_cons.mp h with h | h
    · rw [h]; exact hc195
    rw [List.mem_singleton.mp h]; exact hc180)) ?_ (fun pc P h => by cases h) HR
  refine ⟨pi, ii, jj, C, rfl, t27, fun p hp => ⟨(hQ p hp).1, (hQ p hp).2.1.1⟩, fun z => ⟨Or.inl rfl, hb z⟩, fun z1 z2 => ?_, fun p hp e nr => ?_⟩
  · rw [h16] at z2
    exact ⟨Or.inl rfl, hr z1 z2⟩
  rw [h16] at nr
  obtain ⟨h1, h2⟩ := h p hp e nr
  obtain ⟨q1, q2, ⟨s1, s2, s3⟩, q4⟩ := hQ p hp
  obtain ⟨k1, t27⟩ := t27
  refine ⟨fun z => ⟨Or.inl rfl, h1 ?_⟩, fun z => ?_⟩
  · rw [s1] at z
    have := wi_eq.mp z
    rw [wi_on (by omega), wi_0] at this
    exact List.length_eq_zero_iff.mp (by omega)
  have hlen : 0 < (sq p).length := by
    refine Nat.pos_of_ne_zero (fun y => z ?_)
    rw [s1, y]
    rfl
  obtain ⟨y, hy⟩ : ∃ y, (sq p)[0]? = some y := ⟨_, List.getElem?_eq_getElem hlen⟩
  obtain ⟨i, j, ij, jn, ei, ej⟩ := rw_br_n hn nr
  have h3 := h2 y i j hy ij jn ei ej
  obtain ⟨y1, g, hD, hni⟩ := s2 0 y hy
  subst ei
  subst ej
  subst e
  refine ⟨_, _, _, t27, pp_b (c := 2) hp (by omega), by rw [wi_onn (by omega)]; exact q1, ?_⟩
  refine ⟨q2.1, C p, 0, rfl, q2, by omega, ?_⟩
  refine ⟨C p + 9 + 0, i, j, rn_w (S p) y, g, rn_t (S p) y, v, rfl, hT, hD, hni, ij, by omega, fun k hk => hv k (by omega), fun x hx => ?_⟩
  refine ⟨hD.1, C p + 9 + 0, x, rfl, hD.1, fun z => ⟨⟨rfl, rfl⟩, ?_⟩, fun z => ⟨⟨rfl, rfl⟩, ?_⟩⟩
  · have z := (rw_acc ij hD.2.2.2.2.2.1 hx hD.2.2.2.2.2.2.1).mp z
    exact h3 true ⟨fun _ => z, fun _ => rfl⟩
  · have z := fun y => z ((rw_acc ij hD.2.2.2.2.2.1 hx hD.2.2.2.2.2.2.1).mpr y)
    exact h3 false ⟨fun y => (by cases y), fun y => (z y).elim⟩
def rw_c197 : wv_c1 := fun as T N I L R q => ∃ (pi ii jj : Int32) (n : Nat) (v : Nat → Nat) (C : Nat → Nat) (P : Nat → pd_P) (S : Nat → rn_N) (sq : Nat → List Nat), as = [.ref 0, .int pi, .int ii, .int jj] ∧ rw_I T I L R n v C P S sq ∧ rw_O rw_on q pi ii jj T N I L R n v S sq
set_option maxRecDepth 100000 in
theorem wM_197 : ∃ cb ci np, pt_mt 197 = some (1, cb, 5, false, some .boolean, ci, np) := ⟨_, _, _, rfl⟩
set_option maxRecDepth 100000 in
set_option maxHeartbeats 4000000 in
theorem rw_goesOn {sc : pt_Sc} {d : Nat} : wv_C wm_fx sc (d + 1 + 1 + 1 + 1) 197 rw_c197 := by
  rintro as T N I L R q ⟨pi, ii, jj, n, v, C, P, S, sq, rfl, ⟨hT, t27, h16, hn, hv, hQ⟩, hb, hr, h⟩ w0 HR
  obtain ⟨cb, ci, np, hm⟩ := wM_197
  have hc190 : wv_C wm_fx sc (d + 1 + 1 + 1) 190 rw_c190 := wv_C_deep (by omega) (rw_checkRow (d := d))
  have hc194 : wv_C wm_fx sc (d + 1 + 1 + 1) 194 rw_c194 := wv_C_deep (by omega) (rw_sequence (d := d))
  have hc195 : wv_C wm_fx sc (d + 1 + 1 + 1) 195 rw_c195 := wv_C_deep (by omega) (rw_states (d := d))
  have hc198 : wv_C wm_fx sc (d + 1 + 1 + 1) 198 sq_c198 := wv_C_deep (by omega) (sq_canGoOn (d := d))
  refine wv_meth (hh := none) rfl (sp := wv_sp [(190, rw_c190), (194, rw_c194), (195, rw_c195), (198, sq_c198)]) (hd := fun _ => none) (n := 0) (n1 := 300) hm zc_197 rfl (wv_sp_ok (fun q hq => by
    rcases List.mem_cons.mp hq with h | h
    · rw [h]; exact hc190
    rcases List.mem_cons.mp h with h | h
    · rw [h]; exact hc194
    rcases List.mem_cons.mp h with h | h
    · rw [h]; exact hc195
    rw [List.mem_singleton.mp h]; exact hc198)) ?_ (fun pc P h => by cases h) HR
  refine ⟨pi, ii, jj, C, rfl, t27, fun p hp => ⟨(hQ p hp).1, (hQ p hp).2.1.1⟩, fun z => ⟨Or.inl rfl, hb z⟩, fun z1 z2 => ?_, fun p hp e nr => ?_⟩
  · rw [h16] at z2
    exact ⟨Or.inl rfl, hr z1 z2⟩
  rw [h16] at nr
  obtain ⟨h1, h2⟩ := h p hp e nr
  obtain ⟨q1, q2, ⟨s1, s2, s3⟩, q4⟩ := hQ p hp
  obtain ⟨k1, t27⟩ := t27
  refine ⟨fun z => ⟨Or.inl rfl, h1 ?_⟩, fun z => ?_⟩
  · rw [s1] at z
    have := wi_eq.mp z
    rw [wi_on (by omega), wi_0] at this
    exact List.length_eq_zero_iff.mp (by omega)
  have hlen : 0 < (sq p).length := by
    refine Nat.pos_of_ne_zero (fun y => z ?_)
    rw [s1, y]
    rfl
  obtain ⟨y, hy⟩ : ∃ y, (sq p)[0]? = some y := ⟨_, List.getElem?_eq_getElem hlen⟩
  obtain ⟨i, j, ij, jn, ei, ej⟩ := rw_br_n hn nr
  have h3 := h2 y i j hy ij jn ei ej
  obtain ⟨y1, g, hD, hni⟩ := s2 0 y hy
  subst ei
  subst ej
  subst e
  refine ⟨_, _, _, t27, pp_b (c := 2) hp (by omega), by rw [wi_onn (by omega)]; exact q1, ?_⟩
  refine ⟨q2.1, C p, 0, rfl, q2, by omega, ?_⟩
  refine ⟨C p + 9 + 0, i, j, rn_w (S p) y, g, rn_t (S p) y, v, rfl, hT, hD, hni, ij, by omega, fun k hk => hv k (by omega), fun x hx => ?_⟩
  refine ⟨hD.1, C p + 9 + 0, x, rfl, hD.1, fun z => ⟨⟨rfl, rfl⟩, ?_⟩, fun z => ⟨⟨rfl, rfl⟩, ?_⟩⟩
  · have z := (rw_can hD.2.2.2.2.2.1 hx hD.2.2.2.2.2.2.2.1).mp z
    exact h3 true ⟨fun _ => z, fun _ => rfl⟩
  · have z := fun y => z ((rw_can hD.2.2.2.2.2.1 hx hD.2.2.2.2.2.2.2.1).mpr y)
    exact h3 false ⟨fun y => (by cases y), fun y => (z y).elim⟩
def rw_L (X : nt_A → (Nat → Nat) → Nat → Nat → Prop) (q : wv_Q) (pi ii jj : Int32) (T : wv_T) (N : Nat) (I : Nat → Nat → Int32) (L : Nat → Nat → Int64) (R : Nat → Nat → Option Nat) (n : Nat) (v : Nat → Nat) (S : Nat → rn_N) (sq : Nat → List Nat) : Prop := (rw_bp pi → q (.inl (some (.int 1))) T N I L R 1 6) ∧ (¬ rw_bp pi → rw_br (Int32.ofNat n) ii jj → q (.inl (some (.int 2))) T N I L R 1 6) ∧ ∀ p, p < 2 → pi = Int32.ofNat p → ¬ rw_br (Int32.ofNat n) ii jj → (sq p = [] → q (.inl (some (.int 3))) T N I L R 1 6) ∧ ∀ y i j, (sq p)[0]? = some y → i ≤ j → j ≤ n → ii = Int32.ofNat i → jj = Int32.ofNat j → ∀ b : Bool, (b = true ↔ X (rn_t (S p) y) v i j) → q (.inl (some (.int 0))) T N I (wv_u L 536 0 (Int64.ofNat (if b = true then 1 else 0))) R 0 0
def wl_c188 : wv_c1 := fun as T N I L R q => ∃ (pi ii jj : Int32) (n : Nat) (v : Nat → Nat) (C : Nat → Nat) (P : Nat → pd_P) (S : Nat → rn_N) (sq : Nat → List Nat), as = [.ref 0, .int pi, .int ii, .int jj, .ref 536] ∧ T 536 = some (.inr (1, 1)) ∧ rw_I T I L R n v C P S sq ∧ rw_L (fun A v i j => nt_a A (pd_w v) i j) q pi ii jj T N I L R n v S sq
set_option maxRecDepth 100000 in
theorem wM_188 : ∃ cb ci np, pt_mt 188 = some (0, cb, 6, false, some .int, ci, np) := ⟨_, _, _, rfl⟩
set_option maxRecDepth 100000 in
theorem wl_188 : wl_ok 188 7 [(2, 1), (0, 2), (3, 3)] = true := by decide +kernel
set_option maxRecDepth 100000 in
set_option maxHeartbeats 4000000 in
theorem wl_row {sc : pt_Sc} {d : Nat} : wv_C wm_fx sc (d + 1 + 1 + 1 + 1 + 1) 188 wl_c188 := by
  rintro as T N I L R q ⟨pi, ii, jj, n, v, C, P, S, sq, rfl, h537, hI, hb, hr, h⟩ w0 HR
  obtain ⟨cb, ci, np, hm⟩ := wM_188
  have hc189 : wv_C wm_fx sc (d + 1 + 1 + 1 + 1) 189 rw_c189 := wv_C_deep (by omega) (rw_row (d := d))
  refine wv_meth (hh := some (wl_f 7 [(2, 1), (0, 2), (3, 3)])) rfl (sp := wv_sp [(189, rw_c189)]) (hd := fun _ => none) (n := 0) (n1 := 300) hm zc_188 (wl_HH hm wl_188) (wv_sp_ok (fun q hq => by rw [List.mem_singleton.mp hq]; exact hc189)) ?_ (fun pc P h => by cases h) HR
  refine ⟨pi, ii, jj, n, v, C, P, S, sq, rfl, hI, fun z => ⟨Or.inl rfl, hb z⟩, fun z1 z2 => ⟨Or.inl rfl, hr z1 z2⟩, fun p hp e nr => ⟨fun z => ⟨Or.inl rfl, (h p hp e nr).1 z⟩, fun y i j h1 h2 h3 h4 h5 b hbb => ?_⟩⟩
  have hq := (h p hp e nr).2 y i j h1 h2 h3 h4 h5 b hbb
  refine ⟨fun w => ?_, fun w => ?_⟩
  · rw [wb_i_2.mp (fun z => z w)] at hq
    exact ⟨_, h537, ⟨by decide, by decide⟩, by decide, hq⟩
  · rw [wb_i_1.mp w] at hq
    exact ⟨_, h537, ⟨by decide, by decide⟩, by decide, hq⟩
def wl_c196 : wv_c1 := fun as T N I L R q => ∃ (pi ii jj : Int32) (n : Nat) (v : Nat → Nat) (C : Nat → Nat) (P : Nat → pd_P) (S : Nat → rn_N) (sq : Nat → List Nat), as = [.ref 0, .int pi, .int ii, .int jj, .ref 536] ∧ T 536 = some (.inr (1, 1)) ∧ rw_I T I L R n v C P S sq ∧ rw_L rw_on q pi ii jj T N I L R n v S sq
set_option maxRecDepth 100000 in
theorem wM_196 : ∃ cb ci np, pt_mt 196 = some (0, cb, 6, false, some .int, ci, np) := ⟨_, _, _, rfl⟩
set_option maxRecDepth 100000 in
theorem wl_196 : wl_ok 196 7 [(2, 1), (0, 2), (3, 3)] = true := by decide +kernel
set_option maxRecDepth 100000 in
set_option maxHeartbeats 4000000 in
theorem wl_goesOn {sc : pt_Sc} {d : Nat} : wv_C wm_fx sc (d + 1 + 1 + 1 + 1 + 1) 196 wl_c196 := by
  rintro as T N I L R q ⟨pi, ii, jj, n, v, C, P, S, sq, rfl, h537, hI, hb, hr, h⟩ w0 HR
  obtain ⟨cb, ci, np, hm⟩ := wM_196
  have hc197 : wv_C wm_fx sc (d + 1 + 1 + 1 + 1) 197 rw_c197 := wv_C_deep (by omega) (rw_goesOn (d := d))
  refine wv_meth (hh := some (wl_f 7 [(2, 1), (0, 2), (3, 3)])) rfl (sp := wv_sp [(197, rw_c197)]) (hd := fun _ => none) (n := 0) (n1 := 300) hm zc_196 (wl_HH hm wl_196) (wv_sp_ok (fun q hq => by rw [List.mem_singleton.mp hq]; exact hc197)) ?_ (fun pc P h => by cases h) HR
  refine ⟨pi, ii, jj, n, v, C, P, S, sq, rfl, hI, fun z => ⟨Or.inl rfl, hb z⟩, fun z1 z2 => ⟨Or.inl rfl, hr z1 z2⟩, fun p hp e nr => ⟨fun z => ⟨Or.inl rfl, (h p hp e nr).1 z⟩, fun y i j h1 h2 h3 h4 h5 b hbb => ?_⟩⟩
  have hq := (h p hp e nr).2 y i j h1 h2 h3 h4 h5 b hbb
  refine ⟨fun w => ?_, fun w => ?_⟩
  · rw [wb_i_2.mp (fun z => z w)] at hq
    exact ⟨_, h537, ⟨by decide, by decide⟩, by decide, hq⟩
  · rw [wb_i_1.mp w] at hq
    exact ⟨_, h537, ⟨by decide, by decide⟩, by decide, hq⟩
