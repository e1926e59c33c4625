/-! ===== the reference: row, goesOn; the law: row, goesOn ===== -/
def rw_sq (S : Nat → rn_N) (sq : Nat → List Nat) : Prop := ∀ p, p < 2 → (∀ y, y ∈ sq p → y < rn_n (S p) ∧ nq_row (rn_k (S p) y)) ∧ sc_Zq (S p) (sq p)
def rw_MQ (X : nt_A → (Nat → Nat) → Nat → Nat → Prop) (q : wv_Q) (pi ii jj : Int32) (T : wv_T) (N : Nat) (I : Nat → Nat → Int32) (L : Nat → Nat → Int64) (R : Nat → Nat → Option Nat) (n : Nat) (v : Nat → Nat) (S : Nat → rn_N) (sq : Nat → List Nat) : Prop := (rw_bp pi → q (.inl (some (.int 0))) T N (wv_u I 460 0 1) L R 0 0) ∧ (¬ rw_bp pi → rw_br (Int32.ofNat n) ii jj → q (.inl (some (.int 0))) T N (wv_u I 460 0 2) L R 0 0) ∧ ∀ p, p < 2 → pi = Int32.ofNat p → ¬ rw_br (Int32.ofNat n) ii jj → (sq p = [] → ∀ I1, rw_F I I1 → I1 460 0 = 3 → q (.inl (some (.int 0))) T N I1 L R 0 0) ∧ ∀ y i j, (sq p)[0]? = some y → i ≤ j → j ≤ n → ii = Int32.ofNat i → jj = Int32.ofNat j → ∀ I1 L1 b, rw_F I I1 → I1 460 0 = 0 → mr_FL L L1 → (b = true ↔ X (rn_t (S p) y) v i j) → q (.inl (some (.int (wb_i b)))) T N I1 L1 R 0 0
theorem rw_end {L : Nat → Nat → Int64} {S : rn_N} {v : Nat → Nat} {i j k Z y : Nat} (hi : rn_i S) (h : ns_sol (rn_d S) (rn_h S) (pd_wn v j) Z (rn_n S) (mr_S L Z)) (hy : y < rn_n S) (hr : nq_row (rn_k S y)) (hi2 : i ≤ Z) : mr_e L 492 (172 * y) i k = true ↔ k ≤ Z ∧ nt_a (rn_t S y) (pd_wn v j) i k := by
  have g := ns_main h hi.1 hi.2.1 y hy hr i hi2 k
  exact Iff.trans ⟨fun z => ⟨hi2, z⟩, fun z => z.2⟩ g
def rw_c412 : wv_c1 := fun as T N I L R q => ∃ (pi ii jj : Int32) (n : Nat) (v : Nat → Nat) (S : Nat → rn_N) (m0 x : Nat → Nat) (sq : Nat → List Nat), as = [.ref 460, .int pi, .int ii, .int jj] ∧ rw_MI T I n v S m0 x sq ∧ rw_sq S sq ∧ rw_MQ (fun A v i j => nt_a A (pd_w v) i j) q pi ii jj T N I L R n v S sq
set_option maxRecDepth 100000 in
theorem wM_412 : ∃ cb ci np, pt_mt 412 = some (32, cb, 4, false, some .boolean, ci, np) := ⟨_, _, _, rfl⟩
set_option maxRecDepth 100000 in
set_option maxHeartbeats 4000000 in
theorem rw_mrow {sc : pt_Sc} {d : Nat} : wv_C wm_fx sc (d + 1 + 1 + 1 + 1 + 1 + 1 + 1 + 1) 412 rw_c412 := by
  rintro as T N I L R q ⟨pi, ii, jj, n, v, S, m0, x, sq, rfl, hMI, hsq, hb, hr, h⟩ w0 HR
  obtain ⟨cb, ci, np, hm⟩ := wM_412
  have h500 : ∀ p, p < 2 → ∀ y, y ∈ sq p → y < 500 := fun p hp y hy => by
    have a := ((hsq p hp).1 y hy).1
    have b := ((hMI.2.2.2.2 p hp).2).1
    omega
  have hT := hMI.1
  have hn := hMI.2.2.1
  have hc413 : wv_C wm_fx sc (d + 1 + 1 + 1 + 1 + 1 + 1 + 1) 413 rw_c413 := wv_C_deep (by omega) (rw_begin (d := d))
  have hc390 : wv_C wm_fx sc (d + 1 + 1 + 1 + 1 + 1 + 1 + 1) 390 mr_c390 := wv_C_deep (by omega) (mr_ends (d := d))
  refine wv_meth (hh := none) rfl (sp := wv_sp [(413, rw_c413), (390, mr_c390)]) (hd := fun _ => none) (n := 0) (n1 := 300) hm zc_412 rfl (wv_sp_ok (fun q hq => by
    rcases List.mem_cons.mp hq with h | h
    · rw [h]; exact hc413
    rw [List.mem_singleton.mp h]; exact hc390)) ?_ (fun pc P h => by cases h) HR
  refine ⟨pi, ii, jj, n, v, S, m0, x, sq, rfl, hMI, h500, fun z => ?_, fun z1 z2 => ?_, fun p hp e ng => ⟨fun z I1 f1 f2 => ?_, fun y i j hy ij jn ei ej I1 L1 f1 f2 f3 f4 f5 f6 f7 => ?_⟩⟩
  · exact ⟨fun _ => ⟨⟨rfl, rfl⟩, hb z⟩, fun y => absurd rfl y⟩
  · exact ⟨fun _ => ⟨⟨rfl, rfl⟩, hr z1 z2⟩, fun y => absurd rfl y⟩
  · exact ⟨fun _ => ⟨⟨rfl, rfl⟩, (h p hp e ng).1 z I1 f1 f2⟩, fun y => absurd rfl y⟩
  · have hym : y ∈ sq p := List.mem_of_getElem? hy
    obtain ⟨y1, y2⟩ := (hsq p hp).1 y hym
    have hok := (hMI.2.2.2.2 p hp).2
    have y5 := h500 p hp y hym
    have hw := mr_wd_le (S p)
    refine ⟨fun z => absurd z (by decide), fun _ => ?_⟩
    refine ⟨y, i, j, by rw [f4, ei, ej]; rfl, hT, by omega, by omega, by omega, ?_⟩
    have key : mr_e L1 492 (172 * y) i j = true ↔ nt_a (rn_t (S p) y) (pd_w v) i j := by
      rw [rw_end hok.2.2.2.1 f7 y1 y2 (by omega), pd_a_wn (Nat.le_refl _)]
      exact ⟨fun z => z.2, fun z => ⟨by omega, z⟩⟩
    refine ⟨fun w => ⟨⟨rfl, rfl⟩, ?_⟩, fun w => ⟨⟨rfl, rfl⟩, ?_⟩⟩
    · have w := wb_i_2.mp (fun z => z w)
      refine (h p hp e ng).2 y i j hy ij jn ei ej I1 L1 false f1 f2 f3 ⟨fun z => (by cases z), fun z => ?_⟩
      have := key.mpr z
      rw [w] at this
      cases this
    · have w := wb_i_1.mp w
      exact (h p hp e ng).2 y i j hy ij jn ei ej I1 L1 true f1 f2 f3 ⟨fun _ => key.mp w, fun _ => rfl⟩
def rw_l14 (pi ii jj : Int32) (f : Bool) (k : Nat) : List (Option Value) := [some (.ref 460), some (.int pi), some (.int ii), some (.int jj), some (.int (wb_i f)), some (.int (Int32.ofNat k)), none, none, none, none]
def rw_14 (pi ii jj : Int32) (n : Nat) (v : Nat → Nat) (S : Nat → rn_N) (sq : Nat → List Nat) (I : Nat → Nat → Int32) (L : Nat → Nat → Int64) (p i j y : Nat) (I1 : Nat → Nat → Int32) (L1 : Nat → Nat → Int64) : Prop := p < 2 ∧ pi = Int32.ofNat p ∧ ¬ rw_br (Int32.ofNat n) ii jj ∧ (sq p)[0]? = some y ∧ i ≤ j ∧ j ≤ n ∧ ii = Int32.ofNat i ∧ jj = Int32.ofNat j ∧ rw_F I I1 ∧ I1 460 0 = 0 ∧ mr_FL L L1 ∧ I1 460 39 = Int32.ofNat y ∧ I1 460 49 = Int32.ofNat j ∧ I1 460 32 = Int32.ofNat (mr_wd (S p)) ∧ ns_sol (rn_d (S p)) (rn_h (S p)) (pd_wn v j) (j + mr_wd (S p)) (rn_n (S p)) (mr_S L1 (j + mr_wd (S p)))
def rw_h414 (pi ii jj : Int32) (n : Nat) (v : Nat → Nat) (S : Nat → rn_N) (sq : Nat → List Nat) (T : wv_T) (N : Nat) (I : Nat → Nat → Int32) (L : Nat → Nat → Int64) (R : Nat → Nat → Option Nat) : Nat → Option (Nat → wv_P) := fun pc =>
  if pc = 18 then some (fun mm lv st T1 N1 I1 L1 R1 nc ns => ∃ (k p i j y : Nat) (f : Bool), lv = rw_l14 pi ii jj f k ∧ st = [] ∧ T1 = T ∧ N1 = N ∧ R1 = R ∧ nc = 0 ∧ ns = 0 ∧ rw_14 pi ii jj n v S sq I L p i j y I1 L1 ∧ j ≤ k ∧ k ≤ j + mr_wd (S p) + 1 ∧ mm = 2 * (1000 - k) ∧ (f = true ↔ ∃ a, j ≤ a ∧ a < k ∧ mr_e L1 492 (172 * y) i a = true))
  else if pc = 51 then some (fun mm lv st T1 N1 I1 L1 R1 nc ns => ∃ (k p i j y : Nat) (f f2 : Bool), lv = rw_l14 pi ii jj f k ∧ st = [.int (wb_i f2)] ∧ T1 = T ∧ N1 = N ∧ R1 = R ∧ nc = 0 ∧ ns = 0 ∧ rw_14 pi ii jj n v S sq I L p i j y I1 L1 ∧ j ≤ k ∧ k ≤ j + mr_wd (S p) ∧ mm = 2 * (1000 - k) - 1 ∧ (f2 = true ↔ ∃ a, j ≤ a ∧ a < k + 1 ∧ mr_e L1 492 (172 * y) i a = true))
  else none
theorem rw_goes {L : Nat → Nat → Int64} {S : rn_N} {v : Nat → Nat} {i j Z y : Nat} (hi : rn_i S) (h : ns_sol (rn_d S) (rn_h S) (pd_wn v j) Z (rn_n S) (mr_S L Z)) (hy : y < rn_n S) (hr : nq_row (rn_k S y)) (ij : i ≤ j) (hZ : j + nt_n (rn_t S y) + 1 ≤ Z) : (∃ a, j ≤ a ∧ a < Z + 1 ∧ mr_e L 492 (172 * y) i a = true) ↔ rw_on (rn_t S y) v i j := by
  have g := nz_goes (A := rn_t S y) (w := pd_wn v j) (i := i) (n := j - i) (Z := Z) (by omega) (fun k hk => pd_wn_ge (by omega))
  rw [show i + (j - i) = j by omega] at g
  unfold rw_on
  constructor
  · rintro ⟨a, a1, a2, a3⟩
    obtain ⟨t, t1, t2⟩ := g.mp ⟨a, a1, by omega, ((rw_end hi h hy hr (by omega)).mp a3).2⟩
    exact ⟨t, (nz_s_w (fun k _ hk => pd_wn_lt (by omega))).mp t1, t2⟩
  · rintro ⟨t, t1, t2⟩
    obtain ⟨a, a1, a2, a3⟩ := g.mpr ⟨t, (nz_s_w (fun k _ hk => pd_wn_lt (by omega))).mpr t1, t2⟩
    exact ⟨a, a1, by omega, (rw_end hi h hy hr (by omega)).mpr ⟨a2, a3⟩⟩
def rw_c414 : wv_c1 := fun as T N I L R q => ∃ (pi ii jj : Int32) (n : Nat) (v : Nat → Nat) (S : Nat → rn_N) (m0 x : Nat → Nat) (sq : Nat → List Nat), as = [.ref 460, .int pi, .int ii, .int jj] ∧ rw_MI T I n v S m0 x sq ∧ rw_sq S sq ∧ rw_MQ rw_on q pi ii jj T N I L R n v S sq
set_option maxRecDepth 100000 in
theorem wM_414 : ∃ cb ci np, pt_mt 414 = some (32, cb, 6, false, some .boolean, ci, np) := ⟨_, _, _, rfl⟩
set_option maxRecDepth 100000 in
set_option maxHeartbeats 4000000 in
theorem rw_mgoes {sc : pt_Sc} {d : Nat} : wv_C wm_fx sc (d + 1 + 1 + 1 + 1 + 1 + 1 + 1 + 1) 414 rw_c414 := by
  rintro as T N I L R q ⟨pi, ii, jj, n, v, S, m0, x, sq, rfl, hMI, hsq, hb, hr, h⟩ w0 HR
  obtain ⟨cb, ci, np, hm⟩ := wM_414
  have h500 : ∀ p, p < 2 → ∀ y, y ∈ sq p → y < 500 := fun p hp y hy => by
    have a := ((hsq p hp).1 y hy).1
    have b := ((hMI.2.2.2.2 p hp).2).1
    omega
  have hT := hMI.1
  have hn := hMI.2.2.1
  have hc413 : wv_C wm_fx sc (d + 1 + 1 + 1 + 1 + 1 + 1 + 1) 413 rw_c413 := wv_C_deep (by omega) (rw_begin (d := d))
  have hc382 : wv_C wm_fx sc (d + 1 + 1 + 1 + 1 + 1 + 1 + 1) 382 mr_c382 := wv_C_deep (by omega) (mr_last (d := d))
  have hc390 : wv_C wm_fx sc (d + 1 + 1 + 1 + 1 + 1 + 1 + 1) 390 mr_c390 := wv_C_deep (by omega) (mr_ends (d := d))
  refine wv_meth (hh := none) rfl (sp := wv_sp [(413, rw_c413), (382, mr_c382), (390, mr_c390)]) (hd := rw_h414 pi ii jj n v S sq T N I L R) (n := 300) (n1 := 300) hm zc_414 rfl (wv_sp_ok (fun q hq => by
    rcases List.mem_cons.mp hq with h | h
    · rw [h]; exact hc413
    rcases List.mem_cons.mp h with h | h
    · rw [h]; exact hc382
    rw [List.mem_singleton.mp h]; exact hc390)) ?_ ?_ HR
  · refine ⟨pi, ii, jj, n, v, S, m0, x, sq, rfl, hMI, h500, fun z => ?_, fun z1 z2 => ?_, fun p hp e ng => ⟨fun z I1 f1 f2 => ?_, fun y i j hy ij jn ei ej I1 L1 f1 f2 f3 f4 f5 f6 f7 => ?_⟩⟩
    · exact ⟨fun y => absurd rfl y, fun _ => ⟨⟨rfl, rfl⟩, hb z⟩⟩
    · exact ⟨fun y => absurd rfl y, fun _ => ⟨⟨rfl, rfl⟩, hr z1 z2⟩⟩
    · exact ⟨fun y => absurd rfl y, fun _ => ⟨⟨rfl, rfl⟩, (h p hp e ng).1 z I1 f1 f2⟩⟩
    · refine ⟨fun _ => ?_, fun z => absurd (fun e => by cases e) z⟩
      exact ⟨_, j, p, i, j, y, false, by unfold rw_l14; rw [← ej]; rfl, rfl, rfl, rfl, rfl, rfl, rfl, ⟨hp, e, ng, hy, ij, jn, ei, ej, f1, f2, f3, f4, f5, f6, f7⟩, Nat.le_refl _, by omega, rfl, ⟨fun z => (by cases z), fun ⟨a, a1, a2, _⟩ => by omega⟩⟩
  · intro pc P hP m lv st T1 N1 I1 L1 R1 nc ns hh
    unfold rw_h414 at hP
    by_cases p18 : pc = 18
    · rw [if_pos p18] at hP
      cases hP
      subst p18
      obtain ⟨k, p, i, j, y, f, rfl, rfl, rfl, rfl, rfl, rfl, rfl, h14, hjk, hk, rfl, hf⟩ := hh
      have h14b := h14
      obtain ⟨hp, e, ng, hy, ij, jn, ei, ej, f1, f2, f3, f4, f5, f6, f7⟩ := h14b
      have hym : y ∈ sq p := List.mem_of_getElem? hy
      have yy := (hsq p hp).1 y hym
      have hZq := (hsq p hp).2 y hym
      have hok := (hMI.2.2.2.2 p hp).2
      have y5 := h500 p hp y hym
      have hw := mr_wd_le (S p)
      have ek := wi_on (n := k) (by omega)
      have ez := wi_on (n := j + mr_wd (S p)) (by omega)
      refine ⟨j, mr_wd (S p), rfl, f5, f6, by omega, ?_⟩
      refine ⟨fun w => ?_, fun w => ?_⟩
      · rw [wi_lt, ek, ez] at w
        have e2 : k = j + mr_wd (S p) + 1 := by omega
        subst e2
        have hq := (h p hp e ng).2 y i j hy ij jn ei ej I1 L1 f f1 f2 f3 (hf.trans (rw_goes hok.2.2.2.1 f7 yy.1 yy.2 ij (by omega)))
        cases f with
        | true => exact ⟨⟨rfl, rfl⟩, hq⟩
        | false => exact ⟨⟨rfl, rfl⟩, hq⟩
      rw [wi_lt, ek, ez] at w
      have key : (∃ a, j ≤ a ∧ a < k + 1 ∧ mr_e L1 492 (172 * y) i a = true) ↔ f = true ∨ mr_e L1 492 (172 * y) i k = true := by
        rw [hf]
        constructor
        · rintro ⟨a, a1, a2, a3⟩
          by_cases c : a = k
          · subst c
            exact Or.inr a3
          · exact Or.inl ⟨a, a1, by omega, a3⟩
        · rintro (⟨a, a1, a2, a3⟩ | z)
          · exact ⟨a, a1, by omega, a3⟩
          · exact ⟨k, hjk, by omega, z⟩
      refine ⟨fun w2 => ?_, fun w2 => ?_⟩
      · have w2 := wb_i_1.mp w2
        exact ⟨2 * (1000 - k) - 1, by omega, k, p, i, j, y, f, true, rfl, rfl, rfl, rfl, rfl, rfl, rfl, h14, hjk, by omega, rfl, ⟨fun _ => key.mpr (Or.inl w2), fun _ => rfl⟩⟩
      have w2 := wb_i_2.mp w2
      refine ⟨y, i, k, by rw [f4, ei]; rfl, hT, by omega, by omega, by omega, ?_⟩
      refine ⟨fun w3 => ?_, fun w3 => ?_⟩
      · have w3 := wb_i_2.mp (fun z => z w3)
        refine ⟨2 * (1000 - k) - 1, by omega, k, p, i, j, y, f, false, rfl, rfl, rfl, rfl, rfl, rfl, rfl, h14, hjk, by omega, rfl, ⟨fun z => (by cases z), fun z => ?_⟩⟩
        rcases key.mp z with y2 | y2
        · rw [w2] at y2
          cases y2
        · rw [w3] at y2
          cases y2
      · have w3 := wb_i_1.mp w3
        exact ⟨2 * (1000 - k) - 1, by omega, k, p, i, j, y, f, true, rfl, rfl, rfl, rfl, rfl, rfl, rfl, h14, hjk, by omega, rfl, ⟨fun _ => key.mpr (Or.inr w3), fun _ => rfl⟩⟩
    rw [if_neg p18] at hP
    by_cases p51 : pc = 51
    · rw [if_pos p51] at hP
      cases hP
      subst p51
      obtain ⟨k, p, i, j, y, f, f2, rfl, rfl, rfl, rfl, rfl, rfl, rfl, h14, hjk, hk, rfl, hf⟩ := hh
      have hw := mr_wd_le (S p)
      have jn := h14.2.2.2.2.2.1
      exact ⟨2 * (1000 - (k + 1)), by omega, k + 1, p, i, j, y, f2, by unfold rw_l14; rw [← wq_4s k]; rfl, rfl, rfl, rfl, rfl, rfl, rfl, h14, by omega, by omega, rfl, hf⟩
    rw [if_neg p51] at hP
    cases hP
/-- behind row and goesOn -/
def rw_L2 (L M : Nat → Nat → Int64) : Prop := ∀ c j, ¬ (492 ≤ c ∧ c ≤ 494) → ¬ c = 536 → ¬ (c = 460 ∧ (j = 53 ∨ j = 54)) → M c j = L c j
def wL_6 (Rel : wv_T → Nat → (Nat → Nat → Int32) → (Nat → Nat → Int64) → (Nat → Nat → Option Nat) → Nat → Nat → Nat → Prop) : Prop := ∀ T N I L R nc ns i, i ≤ 2044 → Rel T N I L R nc ns i → ∃ (n : Nat) (v : Nat → Nat) (C : Nat → Nat) (P : Nat → pd_P) (S : Nat → rn_N) (m0 x : Nat → Nat) (sq : Nat → List Nat), T 536 = some (.inr (1, 1)) ∧ rw_I T I L R n v C P S sq ∧ rw_MI T I n v S m0 x sq ∧ rw_sq S sq ∧ Rel T N (wv_u I 460 0 1) L R (nc + 1) (ns + 6) (i + 4) ∧ Rel T N (wv_u I 460 0 2) L R (nc + 1) (ns + 6) (i + 4) ∧ (∀ I2, rw_F I I2 → I2 460 0 = 3 → Rel T N I2 L R (nc + 1) (ns + 6) (i + 4)) ∧ ∀ I2 L2, rw_F I I2 → I2 460 0 = 0 → rw_L2 L L2 → Rel T N I2 L2 R nc ns (i + 4)
set_option maxRecDepth 100000 in
set_option maxHeartbeats 4000000 in
theorem wL_case6 {Rel : wv_T → Nat → (Nat → Nat → Int32) → (Nat → Nat → Int64) → (Nat → Nat → Option Nat) → Nat → Nat → Nat → Prop} {xs : Nat → Int32} {Lg : Nat} {fv : Value} {q : wv_Q} {sp : wv_K} (hLg : Lg ≤ 2048) (H : wL_6 Rel)
    (s188 : ∀ as T N I L R q, wl_c188 as T N I L R q → sp 188 as T N I L R q) (s412 : ∀ as T N I L R q, rw_c412 as T N I L R q → sp 412 as T N I L R q) (s343 : ∀ as T N I L R q, wp_c343 as T N I L R q → sp 343 as T N I L R q) :
    ∀ m lv st T N I L R nc ns, wL_P Rel xs Lg (some 6) m lv st T N I L R nc ns → wv_S wm_fx fv none sp 0 7 false (some .boolean) zt_0 q (wv wm_fx fv none sp 0 7 false (some .boolean) zt_0 (wv_h2 (wL_hd Rel xs Lg) m) q 100) (zk_at zt_0 427) lv st T N I L R nc ns := by
  rintro m lv st T N I L R nc ns ⟨i, x5, x6, rfl, rfl, hT, hx, hR, hi, hm, hop⟩
  obtain ⟨n, v, C, P, S, m0, x, sq, h537, hI, hMI, hsq, r1, r2, r3, r4⟩ := H T N I L R nc ns i (by omega) hR
  have e1 : I 1099511627776 (Int32.ofNat i + Int32.ofInt 1).toNatClampNeg = xs (i + 1) := (wL_x (k := 1) hx hLg hi (by omega)).1
  have b1 : 0 ≤ Int32.ofNat i + Int32.ofInt 1 ∧ (Int32.ofNat i + Int32.ofInt 1).toInt < Lg := (wL_x (k := 1) hx hLg hi (by omega)).2
  have e2 : I 1099511627776 (Int32.ofNat i + Int32.ofInt 2).toNatClampNeg = xs (i + 2) := (wL_x (k := 2) hx hLg hi (by omega)).1
  have b2 : 0 ≤ Int32.ofNat i + Int32.ofInt 2 ∧ (Int32.ofNat i + Int32.ofInt 2).toInt < Lg := (wL_x (k := 2) hx hLg hi (by omega)).2
  have e3 : I 1099511627776 (Int32.ofNat i + Int32.ofInt 3).toNatClampNeg = xs (i + 3) := (wL_x (k := 3) hx hLg hi (by omega)).1
  have b3 : 0 ≤ Int32.ofNat i + Int32.ofInt 3 ∧ (Int32.ofNat i + Int32.ofInt 3).toInt < Lg := (wL_x (k := 3) hx hLg hi (by omega)).2
  have n10 : ¬ (1 : Int32) = 0 := by decide
  have n20 : ¬ (2 : Int32) = 0 := by decide
  have n30 : ¬ (3 : Int32) = 0 := by decide
  refine ⟨_, hT, b1, _, hT, b2, _, hT, b3, ?_⟩
  rw [e1, e2, e3]
  have bd := hI.2.2.2.1
  refine s188 _ _ _ _ _ _ _ ⟨_, _, _, n, v, C, P, S, sq, rfl, h537, hI, fun hb => ?_, fun hb hr => ?_, fun p hp e ng => ⟨fun hs => ?_, fun y i1 j1 hy ij jn ei ej b hbb => ?_⟩⟩
  · refine ⟨_, hT, b1, _, hT, b2, _, hT, b3, ?_⟩
    rw [e1, e2, e3]
    refine s412 _ _ _ _ _ _ _ ⟨_, _, _, n, v, S, m0, x, sq, rfl, hMI, hsq, fun _ => ?_, fun z => (z hb).elim, fun p hp e _ => ?_⟩
    · refine s343 _ _ _ _ _ _ _ ⟨rfl, ?_⟩
      refine ⟨fun _ => ?_, fun h => (h (wv_u_at _ _ _ _)).elim⟩
      refine ⟨fun _ => ?_, fun h => (h n10).elim⟩
      exact wL_fin hLg hi hm hx hT (fun j => wv_u_no _ _ (by omega)) r1
    · exfalso
      unfold rw_bp at hb
      rw [e, wi_lt, wi_le, wi_on (by omega), wi_0, show (Int32.ofInt 2).toInt = 2 from rfl] at hb
      omega
  · refine ⟨_, hT, b1, _, hT, b2, _, hT, b3, ?_⟩
    rw [e1, e2, e3]
    refine s412 _ _ _ _ _ _ _ ⟨_, _, _, n, v, S, m0, x, sq, rfl, hMI, hsq, fun z => (hb z).elim, fun _ _ => ?_, fun p hp e z => (z hr).elim⟩
    refine s343 _ _ _ _ _ _ _ ⟨rfl, ?_⟩
    refine ⟨fun _ => ?_, fun h => (h (wv_u_at _ _ _ _)).elim⟩
    refine ⟨fun _ => ?_, fun h => (h n20).elim⟩
    exact wL_fin hLg hi hm hx hT (fun j => wv_u_no _ _ (by omega)) r2
  · have nb : ¬ rw_bp (xs (i + 1)) := fun hb => by
      unfold rw_bp at hb
      rw [e, wi_lt, wi_le, wi_on (by omega), wi_0, show (Int32.ofInt 2).toInt = 2 from rfl] at hb
      omega
    refine ⟨_, hT, b1, _, hT, b2, _, hT, b3, ?_⟩
    rw [e1, e2, e3]
    refine s412 _ _ _ _ _ _ _ ⟨_, _, _, n, v, S, m0, x, sq, rfl, hMI, hsq, fun z => (nb z).elim, fun _ z => (ng z).elim, fun p2 hp2 e2 _ => ⟨fun _ I2 f1 f2 => ?_, fun y i1 j1 hy => ?_⟩⟩
    · refine s343 _ _ _ _ _ _ _ ⟨rfl, ?_⟩
      rw [f2]
      refine ⟨fun _ => ?_, fun h => (h rfl).elim⟩
      refine ⟨fun _ => ?_, fun h => (h n30).elim⟩
      exact wL_fin hLg hi hm hx hT (fun j => f1 _ _ (by omega) (by omega) (by omega) (by omega)) (r3 I2 f1 f2)
    · exfalso
      have ep : p2 = p := by
        have := congrArg Int32.toInt (e2.symm.trans e)
        rw [wi_on (by omega), wi_on (by omega)] at this
        omega
      rw [ep, hs] at hy
      cases hy
  · have nb : ¬ rw_bp (xs (i + 1)) := fun hb => by
      unfold rw_bp at hb
      rw [e, wi_lt, wi_le, wi_on (by omega), wi_0, show (Int32.ofInt 2).toInt = 2 from rfl] at hb
      omega
    refine ⟨_, hT, b1, _, hT, b2, _, hT, b3, ?_⟩
    rw [e1, e2, e3]
    refine s412 _ _ _ _ _ _ _ ⟨_, _, _, n, v, S, m0, x, sq, rfl, hMI, hsq, fun z => (nb z).elim, fun _ z => (ng z).elim, fun p2 hp2 e2 _ => ⟨fun hs => ?_, fun y2 i2 j2 hy2 ij2 jn2 ei2 ej2 I2 L2 b2x f1 f2 f3 hb2 => ?_⟩⟩
    · exfalso
      have ep : p2 = p := by
        have := congrArg Int32.toInt (e2.symm.trans e)
        rw [wi_on (by omega), wi_on (by omega)] at this
        omega
      rw [← ep, hs] at hy
      cases hy
    have ep : p2 = p := by
      have := congrArg Int32.toInt (e2.symm.trans e)
      rw [wi_on (by omega), wi_on (by omega)] at this
      omega
    subst ep
    have eyy : y2 = y := Option.some.inj (hy2.symm.trans hy)
    have eii : i2 = i1 := by
      have := congrArg Int32.toInt (ei2.symm.trans ei)
      rw [wi_on (by omega), wi_on (by omega)] at this
      omega
    have ejj : j2 = j1 := by
      have := congrArg Int32.toInt (ej2.symm.trans ej)
      rw [wi_on (by omega), wi_on (by omega)] at this
      omega
    subst eyy
    subst eii
    subst ejj
    have eb : b = b2x := Bool.eq_iff_iff.mpr (hbb.trans hb2.symm)
    subst eb
    have hL2 : rw_L2 L L2 := fun c j c1 c2 c3 => by
      rw [f3 c j (by omega) (by omega) (by omega) c3, wv_u_no _ _ (by omega)]
    have e537 : L2 536 0 = Int64.ofNat (if b = true then 1 else 0) := by
      rw [f3 _ _ (by omega) (by omega) (by omega) (by omega), wv_u_at]
    have fin := wL_fin (c1 := nc) (s1 := ns) (Rel := Rel) (I1 := I2) (L1 := L2) (y5 := some (.int 0)) (y6 := some (.int (wb_i b))) hLg hi hm hx hT (fun j => f1 _ _ (by omega) (by omega) (by omega) (by omega)) (r4 I2 L2 f1 f2 hL2)
    refine s343 _ _ _ _ _ _ _ ⟨rfl, ?_⟩
    rw [f2]
    refine ⟨fun _ => ?_, fun h => (h rfl).elim⟩
    refine ⟨fun h => (h rfl).elim, fun _ => ?_⟩
    refine ⟨_, h537, ⟨by decide, by decide⟩, ?_⟩
    cases b with
    | true =>
      refine ⟨fun z => absurd z (by decide), fun _ => ?_⟩
      refine ⟨fun _ => fin, fun h => (h (lg_cmp_0.mpr e537)).elim⟩
    | false =>
      refine ⟨fun _ => ?_, fun z => absurd rfl z⟩
      refine ⟨fun _ => fin, fun h => (h (lg_cmp_0.mpr e537)).elim⟩
def wL_7 (Rel : wv_T → Nat → (Nat → Nat → Int32) → (Nat → Nat → Int64) → (Nat → Nat → Option Nat) → Nat → Nat → Nat → Prop) : Prop := ∀ T N I L R nc ns i, i ≤ 2044 → Rel T N I L R nc ns i → ∃ (n : Nat) (v : Nat → Nat) (C : Nat → Nat) (P : Nat → pd_P) (S : Nat → rn_N) (m0 x : Nat → Nat) (sq : Nat → List Nat), T 536 = some (.inr (1, 1)) ∧ rw_I T I L R n v C P S sq ∧ rw_MI T I n v S m0 x sq ∧ rw_sq S sq ∧ Rel T N (wv_u I 460 0 1) L R (nc + 1) (ns + 6) (i + 4) ∧ Rel T N (wv_u I 460 0 2) L R (nc + 1) (ns + 6) (i + 4) ∧ (∀ I2, rw_F I I2 → I2 460 0 = 3 → Rel T N I2 L R (nc + 1) (ns + 6) (i + 4)) ∧ ∀ I2 L2, rw_F I I2 → I2 460 0 = 0 → rw_L2 L L2 → Rel T N I2 L2 R nc ns (i + 4)
set_option maxRecDepth 100000 in
set_option maxHeartbeats 4000000 in
theorem wL_case7 {Rel : wv_T → Nat → (Nat → Nat → Int32) → (Nat → Nat → Int64) → (Nat → Nat → Option Nat) → Nat → Nat → Nat → Prop} {xs : Nat → Int32} {Lg : Nat} {fv : Value} {q : wv_Q} {sp : wv_K} (hLg : Lg ≤ 2048) (H : wL_7 Rel)
    (s196 : ∀ as T N I L R q, wl_c196 as T N I L R q → sp 196 as T N I L R q) (s414 : ∀ as T N I L R q, rw_c414 as T N I L R q → sp 414 as T N I L R q) (s343 : ∀ as T N I L R q, wp_c343 as T N I L R q → sp 343 as T N I L R q) :
    ∀ m lv st T N I L R nc ns, wL_P Rel xs Lg (some 7) m lv st T N I L R nc ns → wv_S wm_fx fv none sp 0 7 false (some .boolean) zt_0 q (wv wm_fx fv none sp 0 7 false (some .boolean) zt_0 (wv_h2 (wL_hd Rel xs Lg) m) q 100) (zk_at zt_0 514) lv st T N I L R nc ns := by
  rintro m lv st T N I L R nc ns ⟨i, x5, x6, rfl, rfl, hT, hx, hR, hi, hm, hop⟩
  obtain ⟨n, v, C, P, S, m0, x, sq, h537, hI, hMI, hsq, r1, r2, r3, r4⟩ := H T N I L R nc ns i (by omega) hR
  have e1 : I 1099511627776 (Int32.ofNat i + Int32.ofInt 1).toNatClampNeg = xs (i + 1) := (wL_x (k := 1) hx hLg hi (by omega)).1
  have b1 : 0 ≤ Int32.ofNat i + Int32.ofInt 1 ∧ (Int32.ofNat i + Int32.ofInt 1).toInt < Lg := (wL_x (k := 1) hx hLg hi (by omega)).2
  have e2 : I 1099511627776 (Int32.ofNat i + Int32.ofInt 2).toNatClampNeg = xs (i + 2) := (wL_x (k := 2) hx hLg hi (by omega)).1
  have b2 : 0 ≤ Int32.ofNat i + Int32.ofInt 2 ∧ (Int32.ofNat i + Int32.ofInt 2).toInt < Lg := (wL_x (k := 2) hx hLg hi (by omega)).2
  have e3 : I 1099511627776 (Int32.ofNat i + Int32.ofInt 3).toNatClampNeg = xs (i + 3) := (wL_x (k := 3) hx hLg hi (by omega)).1
  have b3 : 0 ≤ Int32.ofNat i + Int32.ofInt 3 ∧ (Int32.ofNat i + Int32.ofInt 3).toInt < Lg := (wL_x (k := 3) hx hLg hi (by omega)).2
  have n10 : ¬ (1 : Int32) = 0 := by decide
  have n20 : ¬ (2 : Int32) = 0 := by decide
  have n30 : ¬ (3 : Int32) = 0 := by decide
  refine ⟨_, hT, b1, _, hT, b2, _, hT, b3, ?_⟩
  rw [e1, e2, e3]
  have bd := hI.2.2.2.1
  refine s196 _ _ _ _ _ _ _ ⟨_, _, _, n, v, C, P, S, sq, rfl, h537, hI, fun hb => ?_, fun hb hr => ?_, fun p hp e ng => ⟨fun hs => ?_, fun y i1 j1 hy ij jn ei ej b hbb => ?_⟩⟩
  · refine ⟨_, hT, b1, _, hT, b2, _, hT, b3, ?_⟩
    rw [e1, e2, e3]
    refine s414 _ _ _ _ _ _ _ ⟨_, _, _, n, v, S, m0, x, sq, rfl, hMI, hsq, fun _ => ?_, fun z => (z hb).elim, fun p hp e _ => ?_⟩
    · refine s343 _ _ _ _ _ _ _ ⟨rfl, ?_⟩
      refine ⟨fun _ => ?_, fun h => (h (wv_u_at _ _ _ _)).elim⟩
      refine ⟨fun _ => ?_, fun h => (h n10).elim⟩
      exact wL_fin hLg hi hm hx hT (fun j => wv_u_no _ _ (by omega)) r1
    · exfalso
      unfold rw_bp at hb
      rw [e, wi_lt, wi_le, wi_on (by omega), wi_0, show (Int32.ofInt 2).toInt = 2 from rfl] at hb
      omega
  · refine ⟨_, hT, b1, _, hT, b2, _, hT, b3, ?_⟩
    rw [e1, e2, e3]
    refine s414 _ _ _ _ _ _ _ ⟨_, _, _, n, v, S, m0, x, sq, rfl, hMI, hsq, fun z => (hb z).elim, fun _ _ => ?_, fun p hp e z => (z hr).elim⟩
    refine s343 _ _ _ _ _ _ _ ⟨rfl, ?_⟩
    refine ⟨fun _ => ?_, fun h => (h (wv_u_at _ _ _ _)).elim⟩
    refine ⟨fun _ => ?_, fun h => (h n20).elim⟩
    exact wL_fin hLg hi hm hx hT (fun j => wv_u_no _ _ (by omega)) r2
  · have nb : ¬ rw_bp (xs (i + 1)) := fun hb => by
      unfold rw_bp at hb
      rw [e, wi_lt, wi_le, wi_on (by omega), wi_0, show (Int32.ofInt 2).toInt = 2 from rfl] at hb
      omega
    refine ⟨_, hT, b1, _, hT, b2, _, hT, b3, ?_⟩
    rw [e1, e2, e3]
    refine s414 _ _ _ _ _ _ _ ⟨_, _, _, n, v, S, m0, x, sq, rfl, hMI, hsq, fun z => (nb z).elim, fun _ z => (ng z).elim, fun p2 hp2 e2 _ => ⟨fun _ I2 f1 f2 => ?_, fun y i1 j1 hy => ?_⟩⟩
    · refine s343 _ _ _ _ _ _ _ ⟨rfl, ?_⟩
      rw [f2]
      refine ⟨fun _ => ?_, fun h => (h rfl).elim⟩
      refine ⟨fun _ => ?_, fun h => (h n30).elim⟩
      exact wL_fin hLg hi hm hx hT (fun j => f1 _ _ (by omega) (by omega) (by omega) (by omega)) (r3 I2 f1 f2)
    · exfalso
      have ep : p2 = p := by
        have := congrArg Int32.toInt (e2.symm.trans e)
        rw [wi_on (by omega), wi_on (by omega)] at this
        omega
      rw [ep, hs] at hy
      cases hy
  · have nb : ¬ rw_bp (xs (i + 1)) := fun hb => by
      unfold rw_bp at hb
      rw [e, wi_lt, wi_le, wi_on (by omega), wi_0, show (Int32.ofInt 2).toInt = 2 from rfl] at hb
      omega
    refine ⟨_, hT, b1, _, hT, b2, _, hT, b3, ?_⟩
    rw [e1, e2, e3]
    refine s414 _ _ _ _ _ _ _ ⟨_, _, _, n, v, S, m0, x, sq, rfl, hMI, hsq, fun z => (nb z).elim, fun _ z => (ng z).elim, fun p2 hp2 e2 _ => ⟨fun hs => ?_, fun y2 i2 j2 hy2 ij2 jn2 ei2 ej2 I2 L2 b2x f1 f2 f3 hb2 => ?_⟩⟩
    · exfalso
      have ep : p2 = p := by
        have := congrArg Int32.toInt (e2.symm.trans e)
        rw [wi_on (by omega), wi_on (by omega)] at this
        omega
      rw [← ep, hs] at hy
      cases hy
    have ep : p2 = p := by
      have := congrArg Int32.toInt (e2.symm.trans e)
      rw [wi_on (by omega), wi_on (by omega)] at this
      omega
    subst ep
    have eyy : y2 = y := Option.some.inj (hy2.symm.trans hy)
    have eii : i2 = i1 := by
      have := congrArg Int32.toInt (ei2.symm.trans ei)
      rw [wi_on (by omega), wi_on (by omega)] at this
      omega
    have ejj : j2 = j1 := by
      have := congrArg Int32.toInt (ej2.symm.trans ej)
      rw [wi_on (by omega), wi_on (by omega)] at this
      omega
    subst eyy
    subst eii
    subst ejj
    have eb : b = b2x := Bool.eq_iff_iff.mpr (hbb.trans hb2.symm)
    subst eb
    have hL2 : rw_L2 L L2 := fun c j c1 c2 c3 => by
      rw [f3 c j (by omega) (by omega) (by omega) c3, wv_u_no _ _ (by omega)]
    have e537 : L2 536 0 = Int64.ofNat (if b = true then 1 else 0) := by
      rw [f3 _ _ (by omega) (by omega) (by omega) (by omega), wv_u_at]
    have fin := wL_fin (c1 := nc) (s1 := ns) (Rel := Rel) (I1 := I2) (L1 := L2) (y5 := some (.int 0)) (y6 := some (.int (wb_i b))) hLg hi hm hx hT (fun j => f1 _ _ (by omega) (by omega) (by omega) (by omega)) (r4 I2 L2 f1 f2 hL2)
    refine s343 _ _ _ _ _ _ _ ⟨rfl, ?_⟩
    rw [f2]
    refine ⟨fun _ => ?_, fun h => (h rfl).elim⟩
    refine ⟨fun h => (h rfl).elim, fun _ => ?_⟩
    refine ⟨_, h537, ⟨by decide, by decide⟩, ?_⟩
    cases b with
    | true =>
      refine ⟨fun z => absurd z (by decide), fun _ => ?_⟩
      refine ⟨fun _ => fin, fun h => (h (lg_cmp_0.mpr e537)).elim⟩
    | false =>
      refine ⟨fun _ => ?_, fun z => absurd rfl z⟩
      refine ⟨fun _ => fin, fun h => (h (lg_cmp_0.mpr e537)).elim⟩
