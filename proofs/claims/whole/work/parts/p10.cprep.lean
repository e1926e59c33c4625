/-! ===== the class: a hunt is prepared ===== -/
/-- a rows' array that was there, or a new one -/
def hu_A (H B0 B len : Nat) (T : wv_T) (N : Nat) (R : Nat → Nat → Option Nat) (T1 : wv_T) (N1 : Nat) (R1 : Nat → Nat → Option Nat) (n1 s1 : Nat) : Prop := (B = B0 ∧ T1 = T ∧ N1 = N ∧ R1 = R ∧ n1 = 0 ∧ s1 = 0) ∨ (B = N ∧ T N = none ∧ T1 = wv_n T N (.inr (1, len)) ∧ N1 = N + 1 ∧ R1 = wv_u (wv_z R N none) H 7 (some N) ∧ n1 = 1 ∧ s1 = len)
/-- what stands before a hunt -/
def hu_p (H B0 len0 C : Nat) (C1 : Nat) (P1 : pd_P) (S1 : rn_N) (sq1 : List Nat) (C2 : Nat) (P2 : pd_P) (S2 : rn_N) (sq2 : List Nat) (a b g : Nat) (nx : Nat → Nat) (fi : Nat → Bool) (sg on tw : Nat → Nat) (T : wv_T) (N : Nat) (I : Nat → Nat → Int32) (L : Nat → Nat → Int64) (R : Nat → Nat → Option Nat) : Prop := (wh_H T R H ∧ R H 7 = some B0 ∧ T B0 = some (.inr (1, len0)) ∧ len0 < 100000 ∧ H + 8 < 460 ∧ 535 < N ∧ N < 1000000000) ∧ ((∃ Ba ba la, sc_E T I L R C1 P1 S1 sq1 Ba ba la) ∧ (∃ Ba ba la, sc_E T I L R C2 P2 S2 sq2 Ba ba la) ∧ hu_e C1 P1 I ≤ 1918 ∧ hu_e C2 P2 I ≤ 1918 ∧ 0 < hu_e C1 P1 I ∧ 0 < hu_e C2 P2 I) ∧ (wd_D T R C ∧ C + 6 < 460 ∧ dz_V a b g nx fi sg on tw ∧ tw_N C a b g nx fi sg on tw I ∧ I (C + 6) 0 = 0) ∧ (H + 7 < C ∨ C + 6 < H) ∧ ((C1 + 75 < C ∨ C + 6 < C1) ∧ (C1 + 75 < H ∨ H + 7 < C1)) ∧ ((C2 + 75 < C ∨ C + 6 < C2) ∧ (C2 + 75 < H ∨ H + 7 < C2)) ∧ (0 < len0 → B0 < 1099511627776 ∧ sc_h R C1 B0 ∧ sc_h R C2 B0) ∧ (C1 + 75 < 460 ∧ ∀ k, k < 67 → ∀ B, R (C1 + 9 + k) 0 = some B → ¬ T B = none) ∧ C2 + 75 < 460 ∧ ∀ k, k < 67 → ∀ B, R (C2 + 9 + k) 0 = some B → ¬ T B = none
def hu_b (H B N n1 : Nat) (I : Nat → Nat → Int32) (L : Nat → Nat → Int64) (I1 : Nat → Nat → Int32) (L1 : Nat → Nat → Int64) : Prop := (∀ c j, ¬ (H + 1 ≤ c ∧ c ≤ H + 7) → ¬ (c = H ∧ j = 8) → (c = N → n1 = 0) → I1 c j = I c j) ∧ ∀ c j, ¬ c = B → (c = N → n1 = 0) → L1 c j = L c j
def hu_23 (H B0 C k : Nat) (C1 : Nat) (P1 : pd_P) (S1 : rn_N) (sq1 : List Nat) (C2 : Nat) (P2 : pd_P) (S2 : rn_N) (sq2 : List Nat) (a b g : Nat) (nx : Nat → Nat) (fi : Nat → Bool) (sg on tw : Nat → Nat) (T : wv_T) (N : Nat) (I : Nat → Nat → Int32) (L : Nat → Nat → Int64) (R : Nat → Nat → Option Nat) (B len : Nat) (T1 : wv_T) (N1 : Nat) (I1 : Nat → Nat → Int32) (L1 : Nat → Nat → Int64) (R1 : Nat → Nat → Option Nat) (n1 s1 : Nat) : Prop := hu_Z H B len C C1 P1 S1 sq1 C2 P2 S2 sq2 a b g nx fi sg on tw T1 I1 L1 R1 ∧ (k + 1) * (hu_e C1 P1 I1 + hu_e C2 P2 I1) ≤ len ∧ (∀ v, hu_r B C1 P1 S1 sq1 C2 P2 S2 sq2 v I1 L1 0) ∧ I1 (H + 1) 0 = 0 ∧ I1 (H + 2) 0 = Int32.ofNat (dz_B fi b) ∧ I1 H 8 = 0 ∧ hu_A H B0 B len T N R T1 N1 R1 n1 s1 ∧ s1 ≤ 49868 ∧ hu_b H B N n1 I L I1 L1
def hu_l23 (H C1 C2 C k : Nat) (l5 : Nat) : List (Option Value) := [some (.ref H), some (.ref C1), some (.ref C2), some (.ref C), some (.int (Int32.ofNat k)), some (.int (Int32.ofNat l5)), none, none, none, none, none]
def hu_J (H : Nat) (s0 : Int32) (I : Nat → Nat → Int32) : Nat → Nat → Int32 := wg_f (H + 7) (Int32.ofInt (-1)) (wv_u (wv_u (wv_u I H 8 (Int32.ofInt 0)) (H + 1) 0 (Int32.ofInt 0)) (H + 2) 0 s0) 256
def hu_h323 (H B0 C k : Nat) (C1 : Nat) (P1 : pd_P) (S1 : rn_N) (sq1 : List Nat) (C2 : Nat) (P2 : pd_P) (S2 : rn_N) (sq2 : List Nat) (a b g : Nat) (nx : Nat → Nat) (fi : Nat → Bool) (sg on tw : Nat → Nat) (T : wv_T) (N : Nat) (I : Nat → Nat → Int32) (L : Nat → Nat → Int64) (R : Nat → Nat → Option Nat) : Nat → Option (Nat → wv_P) := fun pc =>
  if pc = 69 then some (fun mm lv st T1 N1 I1 L1 R1 nc ns => ∃ B len, lv = hu_l23 H C1 C2 C k ((hu_e C1 P1 I + hu_e C2 P2 I) * (k + 1)) ∧ st = [] ∧ hu_A H B0 B len T N R T1 N1 R1 nc ns ∧ (hu_e C1 P1 I + hu_e C2 P2 I) * (k + 1) ≤ len ∧ len < 100000 ∧ ns ≤ 49868 ∧ B < 1099511627776 ∧ T1 B = some (.inr (1, len)) ∧ sc_h R1 C1 B ∧ sc_h R1 C2 B ∧ (∀ c j, (c = N → nc = 0) → I1 c j = hu_J H (Int32.ofNat (dz_B fi b)) I c j) ∧ (∀ c j, (c = N → nc = 0) → L1 c j = L c j) ∧ mm = 1)
  else none
theorem hu_J_o {H c j : Nat} {s0 : Int32} {I : Nat → Nat → Int32} (h1 : ¬ (H + 1 ≤ c ∧ c ≤ H + 7)) (h2 : ¬ (c = H ∧ j = 8)) : hu_J H s0 I c j = I c j := by
  unfold hu_J
  rw [hu_fill, if_neg (by omega), wv_u_no _ _ (by omega), wv_u_no _ _ (by omega), wv_u_no _ _ (by omega)]
def hu_c323 : wv_c1 := fun as T N I L R q => ∃ (H B0 len0 C k : Nat) (C1 : Nat) (P1 : pd_P) (S1 : rn_N) (sq1 : List Nat) (C2 : Nat) (P2 : pd_P) (S2 : rn_N) (sq2 : List Nat) (a b g : Nat) (nx : Nat → Nat) (fi : Nat → Bool) (sg on tw : Nat → Nat), as = [.ref H, .ref C1, .ref C2, .ref C, .int (Int32.ofNat k)] ∧ 1 ≤ k ∧ k ≤ 12 ∧ hu_p H B0 len0 C C1 P1 S1 sq1 C2 P2 S2 sq2 a b g nx fi sg on tw T N I L R ∧ ∀ B len T1 N1 I1 L1 R1 n1 s1, hu_23 H B0 C k C1 P1 S1 sq1 C2 P2 S2 sq2 a b g nx fi sg on tw T N I L R B len T1 N1 I1 L1 R1 n1 s1 → q (.inl none) T1 N1 I1 L1 R1 n1 s1
set_option maxRecDepth 100000 in
theorem wM_323 : ∃ cb ci np, pt_mt 323 = some (16, cb, 6, false, none, ci, np) := ⟨_, _, _, rfl⟩
set_option maxRecDepth 100000 in
set_option maxHeartbeats 4000000 in
theorem hu_prepare {sc : pt_Sc} {d : Nat} : wv_C wm_fx sc (d + 1 + 1) 323 hu_c323 := by
  rintro as T N I L R q ⟨H, B0, len0, C, k, C1, P1, S1, sq1, C2, P2, S2, sq2, a, b, g, nx, fi, sg, on, tw, rfl, hk1, hk, hp, hok⟩ w0 HR
  obtain ⟨cb, ci, np, hm⟩ := wM_323
  have hc324 : wv_C wm_fx sc (d + 1) 324 dz_c324 := wv_C_deep (by omega) (dz_firstLatches (d := d))
  have hc16 : wv_C wm_fx sc (d + 1) 16 wj_c16 := wv_C_deep (by omega) (wj_fill (d := d))
  have hc325 : wv_C wm_fx sc (d + 1) 325 hu_c325 := wv_C_deep (by omega) (hu_rowSize (d := d))
  have hc175 : wv_C wm_fx sc (d + 1) 175 sc_c175 := wv_C_deep (by omega) (sc_startRow (d := d))
  refine wv_meth (hh := none) rfl (sp := wv_sp [(324, dz_c324), (16, wj_c16), (325, hu_c325), (175, sc_c175)]) (hd := hu_h323 H B0 C k C1 P1 S1 sq1 C2 P2 S2 sq2 a b g nx fi sg on tw T N I L R) (n := 300) (n1 := 300) hm zc_323 rfl (wv_sp_ok (fun q hq => by
    rcases List.mem_cons.mp hq with h | h
    · rw [h]; exact hc324
    rcases List.mem_cons.mp h with h | h
    · rw [h]; exact hc16
    rcases List.mem_cons.mp h with h | h
    · rw [h]; exact hc325
    rw [List.mem_singleton.mp h]; exact hc175)) ?_ ?_ HR
  · obtain ⟨⟨hH, hR7, tB0, hl0, hH4, hN5, hN9⟩, ⟨⟨Ba, ba, la, z1⟩, ⟨Bb, bb, lb, z2⟩, g1, g2, g3, g4⟩, ⟨hD, hC4, hV, hM, h0⟩, s1, s2, s3, hB0, ⟨hC1, o1⟩, hC2, o2⟩ := id hp
    obtain ⟨e10, _, _, tC1, _, _⟩ := hu_e10 z1
    obtain ⟨f10, _, _, tC2, _, _⟩ := hu_e10 z2
    have a0 : H < 1099511627776 := by omega
    have a1 : H + 1 < 1099511627776 := by omega
    have a2 : H + 2 < 1099511627776 := by omega
    have a7 : H + 7 < 1099511627776 := by omega
    refine ⟨⟨hH.1, a0⟩, ?_⟩
    refine ⟨hH.1, H + 1, hH.2.1 0 (by omega), _, hH.2.2.1, ⟨by decide, by decide⟩, a1, ?_⟩
    refine ⟨hH.1, H + 2, hH.2.1 1 (by omega), ?_⟩
    have nC : ∀ c j, ¬ c = H → ¬ c = H + 1 → wv_u (wv_u I H 8 (Int32.ofInt 0)) (H + 1) (Int32.ofInt 0).toNatClampNeg (Int32.ofInt 0) c j = I c j := fun c j c1 c2 => by
      rw [wv_u_no _ _ (by omega), wv_u_no _ _ (by omega)]
    refine ⟨hD.1, C, b, fi, rfl, hD, (nC _ _ (by omega) (by omega)).trans hM.2.1, hV.2.2.1, fun i hi => (nC _ _ (by omega) (by omega)).trans (hM.2.2.2.1 i hi).2, ?_⟩
    refine ⟨_, hH.2.2.2.1, ⟨by decide, by decide⟩, a2, ?_⟩
    refine ⟨hH.1, H + 7, hH.2.1 6 (by omega), ?_⟩
    refine ⟨H + 7, 256, _, rfl, hH.2.2.2.2.2.2.2.2, by omega, a7, ?_⟩
    obtain ⟨J, hJ⟩ : ∃ J, J = hu_J H (Int32.ofNat (dz_B fi b)) I := ⟨_, rfl⟩
    have hJ2 : wg_f (H + 7) (Int32.ofInt (-1)) (wv_u (wv_u (wv_u I H 8 (Int32.ofInt 0)) (H + 1) (Int32.ofInt 0).toNatClampNeg (Int32.ofInt 0)) (H + 2) (Int32.ofInt 0).toNatClampNeg (Int32.ofNat (dz_B fi b))) 256 = J := by
      rw [hJ]
      rfl
    rw [hJ2]
    refine ⟨tC1, C1, rfl, tC1, ?_⟩
    refine ⟨tC2, C2, rfl, tC2, ?_⟩
    have j1 : J C1 10 = Int32.ofNat (hu_e C1 P1 I) := by
      rw [hJ, hu_J_o (by omega) (by omega)]
      exact e10
    have j2 : J C2 10 = Int32.ofNat (hu_e C2 P2 I) := by
      rw [hJ, hu_J_o (by omega) (by omega)]
      exact f10
    have hmx : (hu_e C1 P1 I + hu_e C2 P2 I) * (k + 1) ≤ 3836 * 13 := Nat.mul_le_mul (by omega) (by omega)
    have hmn : 1 ≤ (hu_e C1 P1 I + hu_e C2 P2 I) * (k + 1) := Nat.mul_pos (by omega) (by omega)
    have emin : (if (Int8.ofInt 12).toInt32 < Int32.ofNat k then (Int8.ofInt 12).toInt32 else Int32.ofNat k) = Int32.ofNat k := if_neg (by rw [show (Int8.ofInt 12).toInt32 = Int32.ofNat 12 from rfl, wi_lt, wi_on (by omega), wi_on (by omega)]; omega)
    have esz : (J C1 10 + J C2 10) * ((if (Int8.ofInt 12).toInt32 < Int32.ofNat k then (Int8.ofInt 12).toInt32 else Int32.ofNat k) + Int32.ofInt 1) = Int32.ofNat ((hu_e C1 P1 I + hu_e C2 P2 I) * (k + 1)) := by
      rw [emin, j1, j2, wi_ona, wq_4s, Int32.ofNat_mul]
    refine ⟨hH.1, B0, hR7, _, _, tB0, ?_⟩
    rw [esz]
    have esn := wi_on (n := (hu_e C1 P1 I + hu_e C2 P2 I) * (k + 1)) (by omega)
    refine ⟨fun w1 => ?_, fun w1 => ?_⟩
    · have w1 : Int32.ofNat ((hu_e C1 P1 I + hu_e C2 P2 I) * (k + 1)) ≤ Int32.ofNat len0 := w1
      rw [wi_le, esn, wi_on (by omega)] at w1
      obtain ⟨b1, b2, b3⟩ := hB0 (by omega)
      exact ⟨1, B0, len0, rfl, rfl, Or.inl ⟨rfl, rfl, rfl, rfl, rfl, rfl⟩, by omega, hl0, by omega, b1, tB0, b2, b3, fun c j _ => by rw [hJ], fun _ _ _ => rfl, rfl⟩
    · obtain ⟨sz, hsz⟩ : ∃ sz, sz = (hu_e C1 P1 I + hu_e C2 P2 I) * (k + 1) := ⟨_, rfl⟩
      rw [← hsz] at esn hmx hmn ⊢
      have esm := wi_onn (n := sz) (by omega)
      refine ⟨⟨hN9, by rw [wi_le, esn, wi_0]; omega, by rw [esn]; omega⟩, fun hNn => ?_⟩
      rw [esm]
      have hHN : ¬ H = N := by omega
      refine ⟨⟨(if_neg hHN).trans hH.1, a0⟩, ?_⟩
      have nB : ∀ C5, C5 + 75 < 460 → (∀ k, k < 67 → ∀ B, R (C5 + 9 + k) 0 = some B → ¬ T B = none) → sc_h (wv_u (wv_z R N none) H 7 (some N)) C5 N := fun C5 h5 o5 => ⟨by omega, by omega, fun k hk => ⟨by omega, fun z => ?_⟩⟩
      · refine ⟨1, N, sz, (by rw [hsz]; rfl), rfl, Or.inr ⟨rfl, hNn, rfl, rfl, rfl, by omega, by omega⟩, by omega, by omega, by omega, by omega, if_pos rfl, nB C1 hC1 o1, nB C2 hC2 o2, fun c j hc => ?_, fun c j hc => if_neg (fun e => by have := hc e; omega), rfl⟩
        rw [hJ]
        exact if_neg (fun e => by have := hc e; omega)
      · rw [wv_u_no _ _ (by omega)] at z
        have z2 : R (C5 + 9 + k) 0 = some N := (if_neg (by omega)).symm.trans z
        exact o5 k hk N z2 hNn
  · intro pc P hP m lv st T1 N1 I1 L1 R1 nc ns hh
    obtain ⟨⟨hH, hR7, tB0, hl0, hH4, hN5, hN9⟩, ⟨⟨Ba, ba, la, z1⟩, ⟨Bb, bb, lb, z2⟩, g1, g2, g3, g4⟩, ⟨hD, hC4, hV, hM, h0⟩, s1, s2, s3, hB0, ⟨hC1, o1⟩, hC2, o2⟩ := id hp
    obtain ⟨e10, _, _, tC1, _, _⟩ := hu_e10 z1
    obtain ⟨f10, _, _, tC2, _, _⟩ := hu_e10 z2
    unfold hu_h323 at hP
    by_cases p69 : pc = 69
    · rw [if_pos p69] at hP
      cases hP
      subst p69
      obtain ⟨B, len, rfl, rfl, hA, hle, hlen, hns, hB, tB, sh1, sh2, hI, hL, rfl⟩ := hh
      have hmul : (hu_e C1 P1 I + hu_e C2 P2 I) * 1 ≤ (hu_e C1 P1 I + hu_e C2 P2 I) * (k + 1) := Nat.mul_le_mul_left _ (by omega)
      have hT : ∀ c, ¬ T c = none → T1 c = T c := fun c hc => by
        rcases hA with ⟨_, y, _⟩ | ⟨_, y1, y, _⟩
        · rw [y]
        · rw [y]
          exact if_neg (fun e => hc (by rw [e]; exact y1))
      have hs : ∀ {c v}, T c = some v → T1 c = some v := fun {c v} e => by
        rw [hT c (by rw [e]; simp)]
        exact e
      have hR : ∀ c j, c < 460 → ¬ (c = H ∧ j = 7) → R1 c j = R c j := fun c j hc hcj => by
        rcases hA with ⟨_, _, _, y, _⟩ | ⟨_, _, _, _, y, _⟩
        · rw [y]
        · rw [y, wv_u_no _ _ hcj]
          exact if_neg (by omega)
      have hR7b : R1 H 7 = some B := by
        rcases hA with ⟨y0, _, _, y, _⟩ | ⟨y0, _, _, _, y, _⟩
        · rw [y, y0]
          exact hR7
        · rw [y, y0, wv_u_at]
      have hnN : ∀ c, ¬ T c = none → (c = N → nc = 0) := fun c hc e => by
        rcases hA with ⟨_, _, _, _, y, _⟩ | ⟨_, y1, _⟩
        · exact y
        · exact (hc (by rw [e]; exact y1)).elim
      have hlo : ∀ c, c < 460 → (c = N → nc = 0) := fun c hc e => by omega
      have hI2 : ∀ c j, c < 460 → ¬ (H + 1 ≤ c ∧ c ≤ H + 7) → ¬ (c = H ∧ j = 8) → I1 c j = I c j := fun c j c1 c2 c3 => (hI c j (hlo c c1)).trans (hu_J_o c2 c3)
      have y1 : sc_E T1 I1 L1 R1 C1 P1 S1 sq1 B 0 len := hu_E_n z1 hT (fun c j c1 c2 => hI2 c j (by omega) (by omega) (by omega)) (fun c j hc => hL c j (hnN c hc)) (fun c j c1 c2 => hR c j (by omega) (by omega)) tB (by omega) hlen hB sh1
      have y2 : sc_E T1 I1 L1 R1 C2 P2 S2 sq2 B 0 len := hu_E_n z2 hT (fun c j c1 c2 => hI2 c j (by omega) (by omega) (by omega)) (fun c j hc => hL c j (hnN c hc)) (fun c j c1 c2 => hR c j (by omega) (by omega)) tB (by omega) hlen hB sh2
      have q1 : hu_e C1 P1 I1 = hu_e C1 P1 I := hu_e_c (fun j => hI2 _ _ (by omega) (by omega) (by omega))
      have q2 : hu_e C2 P2 I1 = hu_e C2 P2 I := hu_e_c (fun j => hI2 _ _ (by omega) (by omega) (by omega))
      obtain ⟨k1, _, _, u1, _, _⟩ := hu_e10 y1
      obtain ⟨k2, _, _, u2, _, _⟩ := hu_e10 y2
      have tH := hs hH.1
      refine ⟨tH, B, hR7b, u1, C1, B, 0, len, hu_e C1 P1 I1, rfl, u1, k1, tB, by omega, by omega, hlen, hB, fun L2 x1 x2 x3 => ?_⟩
      refine ⟨tH, B, hR7b, u1, C1, rfl, u1, ?_⟩
      refine ⟨u2, C2, B, hu_e C1 P1 I1, len, hu_e C2 P2 I1, (by first | rfl | exact (by rw [k1]; rfl)), u2, k2, tB, by omega, by omega, hlen, hB, fun L3 w1 w2 w3 => ?_⟩
      have x3 : ∀ d j, ¬ (d = B ∧ 0 ≤ j ∧ j < 0 + hu_e C1 P1 I1) → L2 d j = L1 d j := x3
      have w3 : ∀ d j, ¬ (d = B ∧ hu_e C1 P1 I1 ≤ j ∧ j < hu_e C1 P1 I1 + hu_e C2 P2 I1) → L3 d j = L2 d j := w3
      have Lo : ∀ d j, ¬ d = B → L3 d j = L1 d j := fun d j hd => (w3 d j (fun y => hd y.1)).trans (x3 d j (fun y => hd y.1))
      have hwh : wh_H T1 R1 H := ⟨hs hH.1, fun i hi => (hR _ _ (by omega) (by omega)).trans (hH.2.1 i hi), hs hH.2.2.1, hs hH.2.2.2.1, hs hH.2.2.2.2.1, hs hH.2.2.2.2.2.1, hs hH.2.2.2.2.2.2.1, hs hH.2.2.2.2.2.2.2.1, hs hH.2.2.2.2.2.2.2.2⟩
      have hwd : wd_D T1 R1 C := ⟨hs hD.1, fun i hi => (hR _ _ (by omega) (by omega)).trans (hD.2.1 i hi), hs hD.2.2.1, hs hD.2.2.2.1, hs hD.2.2.2.2.1, hs hD.2.2.2.2.2.1, hs hD.2.2.2.2.2.2.1, hs hD.2.2.2.2.2.2.2⟩
      have hM1 : tw_N C a b g nx fi sg on tw I1 := by
        obtain ⟨n1, n2, n3, n4, n5, n6⟩ := hM
        exact ⟨(hI2 _ _ (by omega) (by omega) (by omega)).trans n1, (hI2 _ _ (by omega) (by omega) (by omega)).trans n2, (hI2 _ _ (by omega) (by omega) (by omega)).trans n3, fun i hi => ⟨(hI2 _ _ (by omega) (by omega) (by omega)).trans (n4 i hi).1, (hI2 _ _ (by omega) (by omega) (by omega)).trans (n4 i hi).2⟩, fun i hi => (hI2 _ _ (by omega) (by omega) (by omega)).trans (n5 i hi), fun i hi => ⟨(hI2 _ _ (by omega) (by omega) (by omega)).trans (n6 i hi).1, (hI2 _ _ (by omega) (by omega) (by omega)).trans (n6 i hi).2⟩⟩
      have hq := hok B len T1 N1 I1 L3 R1 nc ns ⟨⟨⟨hwh, hR7b, hH4⟩, ⟨sc_E_L y1 Lo, sc_E_L y2 Lo⟩, ⟨hwd, hC4, hV, hM1, (hI2 _ _ (by omega) (by omega) (by omega)).trans h0, fun s x hs2 hx2 => Or.inl ?_⟩, s1, s2, s3⟩, ?_, fun v => ⟨?_, ?_⟩, ?_, ?_, ?_, hA, hns, fun c j c1 c2 c3 => (hI c j c3).trans (hu_J_o c1 c2), fun c j c1 c2 => (Lo c j c1).trans (hL c j c2)⟩
      rotate_left
      · rw [hI _ _ (hlo _ (by omega))]
        unfold hu_J
        rw [hu_fill, if_pos ⟨rfl, by omega⟩]
      · rw [q1, q2, Nat.mul_comm]
        exact hle
      · rw [Nat.zero_mul]
        refine sc_M_0 ?_ (fun j j1 j2 => ?_)
        · rw [w3 _ _ (by omega)]
          exact x1
        · have j2 : j < hu_e C1 P1 I1 := j2
          rw [w3 _ _ (by omega)]
          exact x2 j j1 j2
      · rw [Nat.zero_mul, Nat.zero_add]
        exact sc_M_0 w1 w2
      · rw [hI _ _ (hlo _ (by omega))]
        unfold hu_J
        rw [hu_fill, if_neg (by omega), wv_u_no _ _ (by omega), wv_u_at]
        rfl
      · rw [hI _ _ (hlo _ (by omega))]
        unfold hu_J
        rw [hu_fill, if_neg (by omega), wv_u_at]
      · rw [hI _ _ (hlo _ (by omega))]
        unfold hu_J
        rw [hu_fill, if_neg (by omega), wv_u_no _ _ (by omega), wv_u_no _ _ (by omega), wv_u_at]
        rfl
      exact hq
    rw [if_neg p69] at hP
    cases hP
