/-! ===== the class: looks ===== -/
theorem lo_le {x y : Int64} : lg_cmp x y ≤ 0 ↔ x.toInt ≤ y.toInt := by
  unfold lg_cmp
  split
  · rename_i h
    have h : y < x := h
    rw [Int64.lt_iff_toInt_lt] at h
    exact ⟨fun z => absurd z (by decide), fun z => by omega⟩
  · rename_i h
    have h : ¬ y < x := h
    rw [Int64.lt_iff_toInt_lt] at h
    split
    · exact ⟨fun _ => by omega, fun _ => by decide⟩
    · exact ⟨fun _ => by omega, fun _ => by decide⟩
theorem lo_mul {a k : Nat} (ha : a ≤ 3) (hk : k < 2147483648) : ((Int32.ofNat a).toInt64 * (Int32.ofNat k).toInt64).toInt = a * k := by
  have hm : a * k ≤ 3 * 2147483647 := Nat.mul_le_mul ha (by omega)
  rw [Int64.toInt_mul, Int32.toInt_toInt64, Int32.toInt_toInt64, wi_on (by omega), wi_on hk]
  apply Int.bmod_eq_of_le
  · omega
  · have : ((a : Int) * k) = ((a * k : Nat) : Int) := by simp
    omega
def lo_c321 : wv_c1 := fun as T N I L R q => ∃ (a : Nat) (ki : Int32) (bb : Bool), as = [.ref 0, .int (Int32.ofNat a), .int ki, .int (wb_i bb)] ∧ 1 ≤ a ∧ a ≤ 3 ∧ ((¬ ∃ k, se_ok a (se_lm bb) ki k) → q (.inr 0) T N I L R 1 6) ∧ ∀ k, se_ok a (se_lm bb) ki k → (¬ I 0 17 < Int32.ofInt 5 → q (.inr 1) T N I L R 1 6) ∧ (I 0 17 < Int32.ofInt 5 → q (.inl none) T N I L R 0 0)
set_option maxRecDepth 100000 in
theorem wM_321 : ∃ cb ci np, pt_mt 321 = some (1, cb, 4, false, none, ci, np) := ⟨_, _, _, rfl⟩
set_option maxRecDepth 100000 in
set_option maxHeartbeats 4000000 in
theorem lo_checkLook {sc : pt_Sc} {d : Nat} : wv_C wm_fx sc (d + 1) 321 lo_c321 := by
  rintro as T N I L R q ⟨a, ki, bb, rfl, ha1, ha, hbad, hok⟩ w0 HR
  obtain ⟨cb, ci, np, hm⟩ := wM_321
  refine wv_meth (hh := none) rfl (sp := fun _ _ _ _ _ _ _ _ => False) (hd := fun _ => none) (n := 0) (n1 := 300) hm zc_321 rfl (fun k as T N I L R q h => by cases h) ?_ (fun pc P h => by cases h) HR
  refine ⟨fun w1 => ?_, fun w1 => ?_⟩
  · have w1 : ki < Int32.ofInt 1 := w1
    rw [wi_lt, show (Int32.ofInt 1).toInt = 1 from rfl] at w1
    refine hbad (fun ⟨k, e, k1, k2, _⟩ => ?_)
    rw [e, wi_on (by omega)] at w1
    omega
  have w1 : ¬ ki < Int32.ofInt 1 := w1
  rw [wi_lt, show (Int32.ofInt 1).toInt = 1 from rfl] at w1
  have hk : ki.toInt.toNat < 2147483648 := by
    have := Int32.toInt_lt ki
    omega
  have ek : ki = Int32.ofNat ki.toInt.toNat := wi_eq.mpr (by rw [wi_on hk]; omega)
  obtain ⟨k, hkk⟩ : ∃ k, ki.toInt.toNat = k := ⟨_, rfl⟩
  rw [hkk] at hk ek
  have hm := lo_mul ha hk
  have h1k : 1 ≤ k := by omega
  have two : ∀ lm : Nat, lm ≤ 12 → (a * k ≤ lm ↔ ∃ k2, se_ok a lm ki k2) := fun lm hlm => by
    constructor
    · intro z
      have : k ≤ a * k := Nat.le_mul_of_pos_left k (by omega)
      exact ⟨k, ek, h1k, by omega, z⟩
    · rintro ⟨k2, e2, _, h12, z⟩
      have : k2 = k := fd_on (by omega) hk (e2.symm.trans ek)
      subst this
      exact z
  have cmp : ∀ (c : Int32) (lm : Nat), c = Int32.ofNat lm → lm ≤ 12 → (lg_cmp ((Int32.ofNat a).toInt64 * ki.toInt64) c.toInt64 ≤ 0 ↔ a * k ≤ lm) := fun c lm hc hlm => by
    rw [lo_le, ek, hm, hc, Int32.toInt_toInt64, wi_on (by omega)]
    have : ((a : Int) * k) = ((a * k : Nat) : Int) := by simp
    omega
  cases bb with
  | true =>
    refine ⟨fun w2 => absurd w2 (by decide), fun _ => ?_⟩
    have c12 := cmp (Int8.ofInt 12).toInt32 12 rfl (by omega)
    refine ⟨fun w3 => ?_, fun w3 => hbad (fun z => w3 (c12.mpr ((two 12 (by omega)).mpr z)))⟩
    obtain ⟨k2, hk2⟩ := (two 12 (by omega)).mp (c12.mp w3)
    obtain ⟨o1, o2⟩ := hok k2 hk2
    exact ⟨fun w4 => o2 w4, fun w4 => o1 w4⟩
  | false =>
    refine ⟨fun _ => ?_, fun w2 => absurd (by decide) w2⟩
    have c12 := cmp (Int8.ofInt 9).toInt32 9 rfl (by omega)
    refine ⟨fun w3 => ?_, fun w3 => hbad (fun z => w3 (c12.mpr ((two 9 (by omega)).mpr z)))⟩
    obtain ⟨k2, hk2⟩ := (two 9 (by omega)).mp (c12.mp w3)
    obtain ⟨o1, o2⟩ := hok k2 hk2
    exact ⟨fun w4 => o2 w4, fun w4 => o1 w4⟩
theorem hu_p_I {H B0 len0 C C1 C2 N : Nat} {P1 P2 : pd_P} {S1 S2 : rn_N} {sq1 sq2 : List Nat} {a b g : Nat} {nx : Nat → Nat} {fi : Nat → Bool} {sg on tw : Nat → Nat} {T : wv_T} {I J : Nat → Nat → Int32} {L : Nat → Nat → Int64} {R : Nat → Nat → Option Nat} (h : hu_p H B0 len0 C C1 P1 S1 sq1 C2 P2 S2 sq2 a b g nx fi sg on tw T N I L R) (hC : 0 < C) (h1 : 0 < C1) (h2 : 0 < C2) (f : ∀ c j, 0 < c → J c j = I c j) : hu_p H B0 len0 C C1 P1 S1 sq1 C2 P2 S2 sq2 a b g nx fi sg on tw T N J L R := by
  obtain ⟨a1, ⟨⟨Ba, ba, la, z1⟩, ⟨Bb, bb, lb, z2⟩, g1, g2, g3, g4⟩, ⟨b1, b2, b3, b4, b5⟩, c⟩ := h
  have e1 : hu_e C1 P1 J = hu_e C1 P1 I := hu_e_c (fun j => f _ _ (by omega))
  have e2 : hu_e C2 P2 J = hu_e C2 P2 I := hu_e_c (fun j => f _ _ (by omega))
  obtain ⟨n1, n2, n3, n4, n5, n6⟩ := b4
  exact ⟨a1, ⟨⟨Ba, ba, la, sc_E_I z1 (fun c j c1 c2 => f c j (by omega))⟩, ⟨Bb, bb, lb, sc_E_I z2 (fun c j c1 c2 => f c j (by omega))⟩, by omega, by omega, by omega, by omega⟩, ⟨b1, b2, b3, ⟨(f _ _ (by omega)).trans n1, (f _ _ (by omega)).trans n2, (f _ _ (by omega)).trans n3, fun i hi => ⟨(f _ _ (by omega)).trans (n4 i hi).1, (f _ _ (by omega)).trans (n4 i hi).2⟩, fun i hi => (f _ _ (by omega)).trans (n5 i hi), fun i hi => ⟨(f _ _ (by omega)).trans (n6 i hi).1, (f _ _ (by omega)).trans (n6 i hi).2⟩⟩, (f _ _ (by omega)).trans b5⟩, c⟩
/-- behind a hunt -/
def lo_O (H B0 C k : Nat) (C1 : Nat) (P1 : pd_P) (S1 : rn_N) (sq1 : List Nat) (C2 : Nat) (P2 : pd_P) (S2 : rn_N) (sq2 : List Nat) (a b g : Nat) (nx : Nat → Nat) (fi : Nat → Bool) (sg on tw : Nat → Nat) (T : wv_T) (N : Nat) (I : Nat → Nat → Int32) (L : Nat → Nat → Int64) (R : Nat → Nat → Option Nat) (fd : Nat) (w : Nat → Nat) (T1 : wv_T) (N1 : Nat) (I1 : Nat → Nat → Int32) (L1 : Nat → Nat → Int64) (R1 : Nat → Nat → Option Nat) (n1 s1 : Nat) : Prop := ∃ B len Ip Lp, hu_23 H B0 C k C1 P1 S1 sq1 C2 P2 S2 sq2 a b g nx fi sg on tw T N I L R B len T1 N1 Ip Lp R1 n1 s1 ∧ hu_f H C B Ip Lp I1 L1 ∧ hu_Z H B len C C1 P1 S1 sq1 C2 P2 S2 sq2 a b g nx fi sg on tw T1 I1 L1 R1 ∧ hu_K H fd w a b g nx fi sg on tw I1 ∧ hd_R (2 ^ a) k (hu_g P1 a b g nx fi sg on tw) (hu_g P2 a b g nx fi sg on tw) fd w
def lo_c320 : wv_c1 := fun as T N I L R q => ∃ (pi ki : Int32) (B0 len0 C : Nat) (Cp n : Nat → Nat) (W : Nat → Nat → Nat) (Pp : Nat → pd_P) (Sp : Nat → rn_N) (sqp : Nat → List Nat) (Pt : pd_P) (St : rn_N) (sqt : List Nat) (a b g : Nat) (nx : Nat → Nat) (fi : Nat → Bool) (sg on tw : Nat → Nat), as = [.ref 0, .int pi, .int ki] ∧ R 0 14 = some C ∧ 0 < C ∧ (∀ p, p < 2 → 0 < Cp p) ∧ (∃ k1, T 27 = some (.inr (k1 + 4, 2))) ∧ (∀ p, p < 2 → R 27 p = some (Cp p) ∧ pp_D T R (Cp p) ∧ I (Cp p) 9 = Int32.ofNat (n p) ∧ n p ≤ 67 ∧ ∀ k, k < n p → I (Cp p + 9 + k) 2 = Int32.ofNat (W p k) ∧ W p k < 2147483648) ∧ (∀ p, p < 2 → hu_p 325 B0 len0 C (Cp p) (Pp p) (Sp p) (sqp p) 220 Pt St sqt a b g nx fi sg on tw T N I L R) ∧ (rw_bp pi → q (.inr 2) T N I L R 1 6) ∧ ∀ p, p < 2 → pi = Int32.ofNat p → ∀ bb : Bool, (bb = true ↔ cf_s (n p) (W p) (n p)) → ((¬ ∃ k, se_ok a (se_lm bb) ki k) → q (.inr 0) T N I L R 1 6) ∧ ∀ k, se_ok a (se_lm bb) ki k → (¬ I 0 17 < Int32.ofInt 5 → q (.inr 1) T N I L R 1 6) ∧ (I 0 17 < Int32.ofInt 5 → ∀ fd w T1 N1 I1 L1 R1 n1 s1, lo_O 325 B0 C k (Cp p) (Pp p) (Sp p) (sqp p) 220 Pt St sqt a b g nx fi sg on tw T N (wv_u I 0 17 (I 0 17 + Int32.ofInt 1)) L R fd w T1 N1 I1 L1 R1 n1 s1 → q (.inl (some (.int (Int32.ofNat fd)))) T1 N1 I1 L1 R1 n1 s1)
set_option maxRecDepth 100000 in
theorem wM_320 : ∃ cb ci np, pt_mt 320 = some (1, cb, 3, false, some .int, ci, np) := ⟨_, _, _, rfl⟩
set_option maxRecDepth 100000 in
set_option maxHeartbeats 4000000 in
theorem lo_search {sc : pt_Sc} {d : Nat} : wv_C wm_fx sc (d + 1 + 1 + 1 + 1 + 1 + 1 + 1) 320 lo_c320 := by
  rintro as T N I L R q ⟨pi, ki, B0, len0, C, Cp, n, W, Pp, Sp, sqp, Pt, St, sqt, a, b, g, nx, fi, sg, on, tw, rfl, h14, hC0, hCp, t27, hR, hp, hbad, h⟩ w0 HR
  obtain ⟨cb, ci, np, hm⟩ := wM_320
  have hc101 : wv_C wm_fx sc (d + 1 + 1 + 1 + 1 + 1 + 1) 101 wq_c101 := wv_C_deep (by omega) (wq_checkP (d := d))
  have hc308 : wv_C wm_fx sc (d + 1 + 1 + 1 + 1 + 1 + 1) 308 (wd_g 8) := wv_C_deep (by omega) (wd_inputs (d := d))
  have hc227 : wv_C wm_fx sc (d + 1 + 1 + 1 + 1 + 1 + 1) 227 cf_c227 := wv_C_deep (by omega) (cf_isSmall (d := d))
  have hc321 : wv_C wm_fx sc (d + 1 + 1 + 1 + 1 + 1 + 1) 321 lo_c321 := wv_C_deep (by omega) (lo_checkLook (d := d))
  have hc322 : wv_C wm_fx sc (d + 1 + 1 + 1 + 1 + 1 + 1) 322 hu_c322 := wv_C_deep (by omega) (hu_seek (d := d))
  refine wv_meth (hh := none) rfl (sp := wv_sp [(101, wq_c101), (308, wd_g 8), (227, cf_c227), (321, lo_c321), (322, hu_c322)]) (hd := fun _ => none) (n := 0) (n1 := 300) hm zc_320 rfl (wv_sp_ok (fun q hq => by
    rcases List.mem_cons.mp hq with h | h
    · rw [h]; exact hc101
    rcases List.mem_cons.mp h with h | h
    · rw [h]; exact hc308
    rcases List.mem_cons.mp h with h | h
    · rw [h]; exact hc227
    rcases List.mem_cons.mp h with h | h
    · rw [h]; exact hc321
    rw [List.mem_singleton.mp h]; exact hc322)) ?_ (fun pc P h => by cases h) HR
  refine ⟨pi, rfl, fun z => ⟨Or.inr rfl, hbad z⟩, fun z => ?_⟩
  obtain ⟨p, hpp, e⟩ : ∃ p : Nat, p < 2 ∧ pi = Int32.ofNat p := by
    rw [wi_lt, wi_0, wi_le, show (Int32.ofInt 2).toInt = 2 from rfl] at z
    exact ⟨pi.toInt.toNat, by omega, wi_eq.mpr (by rw [wi_on (by omega)]; omega)⟩
  have hpu := hp p hpp
  have hD := hpu.2.2.1.1
  have hVV := hpu.2.2.1.2.2.1
  have hM := hpu.2.2.1.2.2.2.1
  obtain ⟨k1, t27⟩ := t27
  obtain ⟨q1, q2, q3, q4, q5⟩ := hR p hpp
  have epn := wi_onn (n := p) (by omega)
  refine ⟨C, h14, hD.1, C, rfl, hD.1, ?_⟩
  refine ⟨_, _, _, t27, by rw [e]; exact pp_b (c := 2) hpp (by omega), by rw [e, epn]; exact q1, ?_⟩
  refine ⟨q2.1, Cp p, n p, W p, rfl, q2, q3, q4, q5, fun bb hbb => ?_⟩
  obtain ⟨h1, h2⟩ := h p hpp e bb hbb
  refine ⟨a, ki, bb, (by first | rfl | exact congrArg (fun y => [Value.ref 0, Value.int y, Value.int ki, Value.int (wb_i bb)]) hM.1), hVV.1, hVV.2.1, fun z => ⟨Or.inl rfl, h1 z⟩, fun k hk => ?_⟩
  obtain ⟨h3, h4⟩ := h2 k hk
  refine ⟨fun z => ⟨Or.inl rfl, h3 z⟩, fun z => ?_⟩
  have h5 := h4 z
  refine ⟨_, _, _, t27, by rw [e]; exact pp_b (c := 2) hpp (by omega), by rw [e, epn]; exact q1, ?_⟩
  refine ⟨C, h14, ?_⟩
  obtain ⟨J, hJ⟩ : ∃ J, J = wv_u I 0 17 (I 0 17 + Int32.ofInt 1) := ⟨_, rfl⟩
  rw [← hJ] at h5
  have pJ : hu_p 325 B0 len0 C (Cp p) (Pp p) (Sp p) (sqp p) 220 Pt St sqt a b g nx fi sg on tw T N J L R := hu_p_I hpu hC0 (hCp p hpp) (by omega) (fun c j hc => by
    rw [hJ]
    exact wv_u_no _ _ (by omega))
  have hak : a * k ≤ 12 := Nat.le_trans hk.2.2.2 (se_lm_le _)
  subst hJ
  refine ⟨hpu.1.1.1, 325, B0, len0, C, k, Cp p, Pp p, Sp p, sqp p, 220, Pt, St, sqt, a, b, g, nx, fi, sg, on, tw, (by first | rfl | exact (by rw [hk.1]; rfl)), hk.2.1, hk.2.2.1, hak, pJ, fun B len T1 N1 Ip Lp R1 n1 s1 I1 L1 fd w x1 x2 x3 x4 x5 => ?_⟩
  have hq := h5 fd w T1 N1 I1 L1 R1 n1 s1 ⟨B, len, Ip, Lp, x1, x2, x3, x4, x5⟩
  have e1 : 0 + 0 + 0 + 0 + 0 + n1 = n1 := by omega
  have e2 : 0 + 0 + 0 + 0 + 0 + s1 = s1 := by omega
  have e3 : 0 + 0 + 0 + 0 + n1 = n1 := by omega
  have e4 : 0 + 0 + 0 + 0 + s1 = s1 := by omega
  first
    | (rw [← e3, ← e4] at hq; exact hq)
    | (rw [← e1, ← e2] at hq; exact hq)
