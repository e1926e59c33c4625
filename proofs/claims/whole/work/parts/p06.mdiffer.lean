/-! ===== the reference: differ ===== -/
def di_ok (lm : Nat) (ni ki : Int32) (n k : Nat) : Prop := ni = Int32.ofNat n ∧ ki = Int32.ofNat k ∧ 1 ≤ n ∧ n ≤ 3 ∧ 1 ≤ k ∧ k ≤ 12 ∧ n * k ≤ lm
def di_F (I J : Nat → Nat → Int32) : Prop := ∀ c j, ¬ c = 491 → ¬ c = 505 → ¬ (469 ≤ c ∧ c ≤ 475) → ¬ c = 495 → ¬ (c = 460 ∧ (j = 0 ∨ j = 32 ∨ (37 ≤ j ∧ j ≤ 39) ∨ j = 49 ∨ j = 65 ∨ j = 70)) → J c j = I c j
def di_K (r : Int32) (I J : Nat → Nat → Int32) : Prop := J 460 0 = 0 ∧ J 460 65 = I 460 65 + Int32.ofInt 1 ∧ J 460 70 = r
/-- both properties tell the same of the words of l letters below m -/
def di_no (S : Nat → rn_N) (x : Nat → Nat) (n l m : Nat) : Prop := ∀ w, w < m → ∃ bb, mr_w (S 0) (x 0) (dz_u n l w) l bb ∧ mr_w (S 1) (x 1) (dz_u n l w) l bb
def di_W (n len w t : Nat) (I : Nat → Nat → Int32) : Prop := ∀ j, j < t → I 491 j = Int32.ofNat (dz_u n len w j) ∧ I 505 j = Int32.ofNat (dz_u n len w j)
def di_lm (S : Nat → rn_N) : Nat := se_lm (fw (S 0) && fw (S 1))
def di_l (ni ki : Int32) (l3 l4 l5 : Option Value) : List (Option Value) := [some (.ref 460), some (.int ni), some (.int ki), l3, l4, l5, none, none, none]
def di_h463 (ni ki : Int32) (S : Nat → rn_N) (x : Nat → Nat) (T : wv_T) (N : Nat) (I : Nat → Nat → Int32) (L : Nat → Nat → Int64) (R : Nat → Nat → Option Nat) : Nat → Option (Nat → wv_P) := fun pc =>
  if pc = 39 then some (fun mm lv st T1 N1 I1 L1 R1 nc ns => ∃ b1 : Bool, lv = di_l ni ki none none none ∧ st = [.int (wb_i b1), .ref 460] ∧ T1 = T ∧ N1 = N ∧ R1 = R ∧ nc = 0 ∧ ns = 0 ∧ I1 = I ∧ L1 = L ∧ (b1 = false ↔ ∃ n k, di_ok (di_lm S) ni ki n k) ∧ mm = 90000000)
  else if pc = 77 then some (fun mm lv st T1 N1 I1 L1 R1 nc ns => ∃ (n k len : Nat) (l4 l5 : Option Value), lv = di_l ni ki (some (.int (Int32.ofNat len))) l4 l5 ∧ st = [] ∧ T1 = T ∧ N1 = N ∧ R1 = R ∧ nc = 0 ∧ ns = 0 ∧ di_ok (di_lm S) ni ki n k ∧ ¬ I 460 65 = Int32.ofInt 5 ∧ 1 ≤ len ∧ len ≤ k + 1 ∧ (∀ l, 1 ≤ l → l < len → di_no S x n l (2 ^ (n * l))) ∧ di_F I I1 ∧ di_K 0 I I1 ∧ mr_FL L L1 ∧ mm = 100 * (10000 * (20 - len) + 9999))
  else if pc = 85 then some (fun mm lv st T1 N1 I1 L1 R1 nc ns => ∃ (n k len w : Nat) (l5 : Option Value), lv = di_l ni ki (some (.int (Int32.ofNat len))) (some (.int (Int32.ofNat w))) l5 ∧ st = [] ∧ T1 = T ∧ N1 = N ∧ R1 = R ∧ nc = 0 ∧ ns = 0 ∧ di_ok (di_lm S) ni ki n k ∧ ¬ I 460 65 = Int32.ofInt 5 ∧ 1 ≤ len ∧ len ≤ k ∧ (∀ l, 1 ≤ l → l < len → di_no S x n l (2 ^ (n * l))) ∧ w ≤ 2 ^ (n * len) ∧ di_no S x n len w ∧ di_F I I1 ∧ di_K 0 I I1 ∧ mr_FL L L1 ∧ mm = 100 * (10000 * (20 - len) + (5000 - w)))
  else if pc = 98 then some (fun mm lv st T1 N1 I1 L1 R1 nc ns => ∃ (n k len w t : Nat), lv = di_l ni ki (some (.int (Int32.ofNat len))) (some (.int (Int32.ofNat w))) (some (.int (Int32.ofNat t))) ∧ st = [] ∧ T1 = T ∧ N1 = N ∧ R1 = R ∧ nc = 0 ∧ ns = 0 ∧ di_ok (di_lm S) ni ki n k ∧ ¬ I 460 65 = Int32.ofInt 5 ∧ 1 ≤ len ∧ len ≤ k ∧ (∀ l, 1 ≤ l → l < len → di_no S x n l (2 ^ (n * l))) ∧ w < 2 ^ (n * len) ∧ di_no S x n len w ∧ t ≤ len ∧ di_W n len w t I1 ∧ di_F I I1 ∧ di_K 0 I I1 ∧ mr_FL L L1 ∧ mm = 100 * (10000 * (20 - len) + (5000 - w)) - t - 1)
  else none
theorem di_eq_b {a b : Bool} : wb_i a = wb_i b ↔ a = b := ⟨wb_i_inj, fun h => by rw [h]⟩
def di_c463 : wv_c1 := fun as T N I L R q => ∃ (ni ki : Int32) (S : Nat → rn_N) (m0 x : Nat → Nat) (sq : Nat → List Nat), as = [.ref 460, .int ni, .int ki] ∧ wm_T T ∧ (∀ pp, pp < 2 → kp_K I pp (S pp) (m0 pp) (x pp) (sq pp)) ∧ (∀ pp, pp < 2 → mr_ok (S pp) (m0 pp) (x pp)) ∧ ((¬ ∃ n k, di_ok (di_lm S) ni ki n k) → q (.inl (some (.int 0))) T N (wv_u I 460 0 1) L R 0 0) ∧ ∀ n k, di_ok (di_lm S) ni ki n k → (I 460 65 = Int32.ofInt 5 → q (.inl (some (.int 0))) T N (wv_u I 460 0 2) L R 0 0) ∧ (¬ I 460 65 = Int32.ofInt 5 → (∀ J L1, di_F I J → di_K 0 I J → mr_FL L L1 → (∀ l, 1 ≤ l → l ≤ k → di_no S x n l (2 ^ (n * l))) → q (.inl (some (.int 0))) T N J L1 R 0 0) ∧ (∀ J L1 len w b0 b1, 1 ≤ len → len ≤ k → w < 2 ^ (n * len) → di_F I J → di_K (Int32.ofNat len) I J → mr_FL L L1 → di_W n len w len J → mr_w (S 0) (x 0) (dz_u n len w) len b0 → mr_w (S 1) (x 1) (dz_u n len w) len b1 → ¬ b0 = b1 → di_no S x n len w → (∀ l, 1 ≤ l → l < len → di_no S x n l (2 ^ (n * l))) → q (.inl (some (.int (Int32.ofNat len)))) T N J L1 R 0 0))
set_option maxRecDepth 100000 in
theorem wM_463 : ∃ cb ci np, pt_mt 463 = some (32, cb, 6, false, some .int, ci, np) := ⟨_, _, _, rfl⟩
set_option maxRecDepth 100000 in
set_option maxHeartbeats 4000000 in
theorem di_differ {sc : pt_Sc} {d : Nat} : wv_C wm_fx sc (d + 1 + 1 + 1 + 1 + 1 + 1 + 1 + 1) 463 di_c463 := by
  rintro as T N I L R q ⟨ni, ki, S, m0, x, sq, rfl, hT, hK, hmr, hbad, hok⟩ w0 HR
  obtain ⟨cb, ci, np, hm⟩ := wM_463
  have hc345 : wv_C wm_fx sc (d + 1 + 1 + 1 + 1 + 1 + 1 + 1) 345 wp_c345 := wv_C_deep (by omega) (wp_refuse (d := d))
  have hc457 : wv_C wm_fx sc (d + 1 + 1 + 1 + 1 + 1 + 1 + 1) 457 se_c457 := wv_C_deep (by omega) (se_longest (d := d))
  have hc376 : wv_C wm_fx sc (d + 1 + 1 + 1 + 1 + 1 + 1 + 1) 376 mr_c376 := wv_C_deep (by omega) (mr_wordFails (d := d))
  refine wv_meth (hh := none) rfl (sp := wv_sp [(345, wp_c345), (457, se_c457), (376, mr_c376)]) (hd := di_h463 ni ki S x T N I L R) (n := 300) (n1 := 300) hm zc_463 rfl (wv_sp_ok (fun q hq => by
    rcases List.mem_cons.mp hq with h | h
    · rw [h]; exact hc345
    rcases List.mem_cons.mp h with h | h
    · rw [h]; exact hc457
    rw [List.mem_singleton.mp h]; exact hc376)) ?_ ?_ HR
  · have no : ¬ ((1 ≤ ni.toInt ∧ ni.toInt ≤ 3) ∧ (1 ≤ ki.toInt ∧ ki.toInt ≤ 12)) → ¬ ∃ n k, di_ok (di_lm S) ni ki n k := fun hn ⟨n, k, e1, e2, n1, n2, k1, k2, _⟩ => by
      rw [e1, e2, wi_on (by omega), wi_on (by omega)] at hn
      omega
    have o1 : (Int32.ofInt 1).toInt = 1 := rfl
    have o3 : (Int32.ofInt 3).toInt = 3 := rfl
    refine ⟨fun w1 => ?_, fun w1 => ?_⟩
    · have w1 : ni < Int32.ofInt 1 := w1
      rw [wi_lt, o1] at w1
      exact ⟨90000000, true, rfl, rfl, rfl, rfl, rfl, rfl, rfl, rfl, rfl, ⟨fun z => (by cases z), fun z => (no (by omega) z).elim⟩, rfl⟩
    have w1 : ¬ ni < Int32.ofInt 1 := w1
    rw [wi_lt, o1] at w1
    refine ⟨fun w2 => ?_, fun w2 => ?_⟩
    · have w2 : Int32.ofInt 3 < ni := w2
      rw [wi_lt, o3] at w2
      exact ⟨90000000, true, rfl, rfl, rfl, rfl, rfl, rfl, rfl, rfl, rfl, ⟨fun z => (by cases z), fun z => (no (by omega) z).elim⟩, rfl⟩
    have w2 : ¬ Int32.ofInt 3 < ni := w2
    rw [wi_lt, o3] at w2
    refine ⟨fun w3 => ?_, fun w3 => ?_⟩
    · have w3 : ki < Int32.ofInt 1 := w3
      rw [wi_lt, o1] at w3
      exact ⟨90000000, true, rfl, rfl, rfl, rfl, rfl, rfl, rfl, rfl, rfl, ⟨fun z => (by cases z), fun z => (no (by omega) z).elim⟩, rfl⟩
    have w3 : ¬ ki < Int32.ofInt 1 := w3
    rw [wi_lt, o1] at w3
    refine ⟨fun w4 => ?_, fun w4 => ?_⟩
    · have w4 : Int32.ofNat 12 < ki := w4
      rw [wi_lt, wi_on (by omega)] at w4
      exact ⟨90000000, true, rfl, rfl, rfl, rfl, rfl, rfl, rfl, rfl, rfl, ⟨fun z => (by cases z), fun z => (no (by omega) z).elim⟩, rfl⟩
    have w4 : ¬ Int32.ofNat 12 < ki := w4
    rw [wi_lt, wi_on (by omega)] at w4
    obtain ⟨n, hn, en⟩ : ∃ n : Nat, (1 ≤ n ∧ n ≤ 3) ∧ ni = Int32.ofNat n := ⟨ni.toInt.toNat, by omega, wi_eq.mpr (by rw [wi_on (by omega)]; omega)⟩
    obtain ⟨k, hk, ek⟩ : ∃ k : Nat, (1 ≤ k ∧ k ≤ 12) ∧ ki = Int32.ofNat k := ⟨ki.toInt.toNat, by omega, wi_eq.mpr (by rw [wi_on (by omega)]; omega)⟩
    have hnk : n * k ≤ 36 := Nat.mul_le_mul hn.2 hk.2
    have e12 := se_lm_le (fw (S 0) && fw (S 1))
    refine ⟨_, _, rfl, hT, fun hb => (kl_bp (p := 0) (by omega) rfl hb).elim, fun i hi ei => ⟨1, fw (S 0), fw (S 1), by omega, rfl, ?_, (hK 1 (by omega)).2.2.2, ?_⟩⟩
    · have e0 : i = 0 := (fd_on (a := 0) (by omega) (by omega) ei).symm
      rw [e0]
      exact (hK 0 (by omega)).2.2.2
    have w6 : ni * ki ≤ Int32.ofNat (se_lm (fw (S 0) && fw (S 1))) ↔ n * k ≤ se_lm (fw (S 0) && fw (S 1)) := by
      rw [en, ek, ← Int32.ofNat_mul, wi_le, wi_on (by omega), wi_on (by omega)]
      omega
    refine ⟨fun w5 => ?_, fun w5 => ?_⟩
    · have w7 := w6.mp w5
      exact ⟨90000000, false, rfl, rfl, rfl, rfl, rfl, rfl, rfl, rfl, rfl, ⟨fun _ => ⟨n, k, en, ek, hn.1, hn.2, hk.1, hk.2, w7⟩, fun _ => rfl⟩, rfl⟩
    · have w7 : ¬ n * k ≤ se_lm (fw (S 0) && fw (S 1)) := fun y => w5 (w6.mpr y)
      refine ⟨90000000, true, rfl, rfl, rfl, rfl, rfl, rfl, rfl, rfl, rfl, ⟨fun z => (by cases z), fun z => ?_⟩, rfl⟩
      obtain ⟨n2, k2, e1, e2, _, q2, _, q4, q5⟩ := z
      have a1 : n2 = n := fd_on (by omega) (by omega) (e1.symm.trans en)
      have a2 : k2 = k := fd_on (by omega) (by omega) (e2.symm.trans ek)
      subst a1 a2
      exact (w7 q5).elim
  · intro pc P hP m lv st T1 N1 I1 L1 R1 nc ns hh
    unfold di_h463 at hP
    by_cases p39 : pc = 39
    · rw [if_pos p39] at hP
      cases hP
      subst p39
      obtain ⟨b1, rfl, rfl, rfl, rfl, rfl, rfl, rfl, rfl, rfl, hb1, rfl⟩ := hh
      cases b1 with
      | true =>
        have hno : ¬ ∃ n k, di_ok (di_lm S) ni ki n k := fun z => by
          have := hb1.mpr z
          cases this
        refine ⟨fun w1 => ?_, fun w1 => ?_⟩
        · refine ⟨wb_i true, 0, rfl, ?_⟩
          rw [if_neg (wb_i_1.mpr rfl)]
          exact ⟨fun w2 => absurd w2 (by decide), fun _ => hbad hno⟩
        · refine ⟨wb_i true, 1, rfl, ?_⟩
          rw [if_neg (wb_i_1.mpr rfl)]
          exact ⟨fun w2 => absurd w2 (by decide), fun _ => hbad hno⟩
      | false =>
        obtain ⟨n, k, hk⟩ := hb1.mp rfl
        obtain ⟨o3, o4⟩ := hok n k hk
        refine ⟨fun w1 => ?_, fun w1 => ?_⟩
        · refine ⟨wb_i false, 0, rfl, ?_⟩
          rw [if_pos (wb_i_0.mpr rfl), if_pos rfl]
          refine ⟨fun _ => ?_, fun w2 => absurd rfl w2⟩
          refine ⟨100 * (10000 * (20 - 1) + 9999), by omega, n, k, 1, none, none, rfl, rfl, rfl, rfl, rfl, rfl, rfl, hk, w1, Nat.le_refl _, by have := hk.2.2.2.2.1; omega, fun l l1 l2 => by omega, fun c j c1 c2 c3 c4 c5 => ?_, ⟨?_, ?_, ?_⟩, fun _ _ _ _ _ _ => rfl, rfl⟩
          · rw [wv_u_no _ _ (by omega), wv_u_no _ _ (by omega), wv_u_no _ _ (by omega)]
          · rw [wv_u_no _ _ (by omega), wv_u_no _ _ (by omega), wv_u_at]
          · rw [wv_u_no _ _ (by omega), wv_u_at, wv_u_no _ _ (by omega)]
          · rw [wv_u_at]
            rfl
        · refine ⟨wb_i false, 1, rfl, ?_⟩
          rw [if_pos (wb_i_0.mpr rfl), if_neg (by decide)]
          exact ⟨fun w2 => absurd w2 (by decide), fun _ => o3 (Classical.not_not.mp w1)⟩
    rw [if_neg p39] at hP
    by_cases p77 : pc = 77
    · rw [if_pos p77] at hP
      cases hP
      subst p77
      obtain ⟨n, k, len, l4, l5, rfl, rfl, rfl, rfl, rfl, rfl, rfl, hk, h65, hl1, hlk, hno, hF, hKK, hL, rfl⟩ := hh
      have hk12 := hk.2.2.2.2.2.1
      have ek := hk.2.1
      refine ⟨fun w1 => ?_, fun w1 => ?_⟩
      · have w1 : ki < Int32.ofNat len := w1
        rw [ek, wi_lt, wi_on (by omega), wi_on (by omega)] at w1
        exact ((hok n k hk).2 h65).1 I1 L1 hF hKK hL (fun l l1 l2 => hno l l1 (by omega))
      · have w1 : ¬ ki < Int32.ofNat len := w1
        rw [ek, wi_lt, wi_on (by omega), wi_on (by omega)] at w1
        exact ⟨100 * (10000 * (20 - len) + (5000 - 0)), by omega, n, k, len, 0, l5, rfl, rfl, rfl, rfl, rfl, rfl, rfl, hk, h65, hl1, by omega, hno, Nat.zero_le _, fun w hw => by omega, hF, hKK, hL, rfl⟩
    rw [if_neg p77] at hP
    by_cases p85 : pc = 85
    · rw [if_pos p85] at hP
      cases hP
      subst p85
      obtain ⟨n, k, len, w, l5, rfl, rfl, rfl, rfl, rfl, rfl, rfl, hk, h65, hl1, hlk, hno, hw, hnw, hF, hKK, hL, rfl⟩ := hh
      have hk12 := hk.2.2.2.2.2.1
      have en := hk.1
      have hal : n * len ≤ 12 := Nat.le_trans (Nat.mul_le_mul_left n hlk) (Nat.le_trans hk.2.2.2.2.2.2 (se_lm_le _))
      have hp12 : 2 ^ (n * len) ≤ 4096 := Nat.pow_le_pow_right (n := 2) (by omega) hal
      have esh : Int32.ofInt 1 <<< ((ni * Int32.ofNat len) &&& 31) = Int32.ofNat (2 ^ (n * len)) := by
        rw [en, ← Int32.ofNat_mul, dz_sh12 _ (by omega)]
      refine ⟨fun w1 => ?_, fun w1 => ?_⟩
      · have w1 : Int32.ofInt 1 <<< ((ni * Int32.ofNat len) &&& 31) ≤ Int32.ofNat w := w1
        rw [esh, wi_le, wi_on (by omega), wi_on (by omega)] at w1
        have e : w = 2 ^ (n * len) := by omega
        refine ⟨100 * (10000 * (20 - (len + 1)) + 9999), by omega, n, k, len + 1, some (.int (Int32.ofNat w)), l5, ?_, rfl, rfl, rfl, rfl, rfl, rfl, hk, h65, by omega, by omega, fun l l1 l2 => ?_, hF, hKK, hL, rfl⟩
        · unfold di_l
          rw [← wq_4s]
          rfl
        · by_cases el : l = len
          · subst el
            rw [← e]
            exact hnw
          · exact hno l l1 (by omega)
      · have w1 : ¬ Int32.ofInt 1 <<< ((ni * Int32.ofNat len) &&& 31) ≤ Int32.ofNat w := w1
        rw [esh, wi_le, wi_on (by omega), wi_on (by omega)] at w1
        exact ⟨100 * (10000 * (20 - len) + (5000 - w)) - 0 - 1, by omega, n, k, len, w, 0, rfl, rfl, rfl, rfl, rfl, rfl, rfl, hk, h65, hl1, hlk, hno, by omega, hnw, Nat.zero_le _, fun j hj => by omega, hF, hKK, hL, rfl⟩
    rw [if_neg p85] at hP
    by_cases p98 : pc = 98
    · rw [if_pos p98] at hP
      cases hP
      subst p98
      obtain ⟨n, k, len, w, t, rfl, rfl, rfl, rfl, rfl, rfl, rfl, hk, h65, hl1, hlk, hno, hw, hnw, ht, hW, hF, hKK, hL, rfl⟩ := hh
      have hk12 := hk.2.2.2.2.2.1
      have en := hk.1
      have hn3 := hk.2.2.2.1
      have hal : n * len ≤ 12 := Nat.le_trans (Nat.mul_le_mul_left n hlk) (Nat.le_trans hk.2.2.2.2.2.2 (se_lm_le _))
      have hp12 : 2 ^ (n * len) ≤ 4096 := Nat.pow_le_pow_right (n := 2) (by omega) hal
      have etn := wi_onn (n := t) (by omega)
      have et := wi_on (n := t) (by omega)
      refine ⟨fun w1 => ?_, fun w1 => ?_⟩
      rotate_left
      · have w1 : ¬ Int32.ofNat len ≤ Int32.ofNat t := w1
        rw [wi_le, wi_on (by omega), et] at w1
        have hd := dz_dig hk.2.2.1 hn3 hal (i := t) (w := w) (by omega) (by omega)
        rw [← en] at hd
        refine ⟨_, wm_t hT rfl, pp_b (c := 24) (by omega) (by omega), by decide, ?_⟩
        rw [hd, etn]
        refine ⟨_, wm_t hT rfl, pp_b (c := 24) (by omega) (by omega), ?_⟩
        rw [etn, wv_u_at]
        refine ⟨_, wm_t hT rfl, pp_b (c := 12) (by omega) (by omega), by decide, ?_⟩
        rw [etn]
        refine ⟨100 * (10000 * (20 - len) + (5000 - w)) - (t + 1) - 1, by omega, n, k, len, w, t + 1, ?_, rfl, rfl, rfl, rfl, rfl, rfl, hk, h65, hl1, hlk, hno, hw, hnw, by omega, fun j hj => ?_, fun c j c1 c2 c3 c4 c5 => ?_, ⟨?_, ?_, ?_⟩, hL, rfl⟩
        · unfold di_l
          rw [← wq_4s t]
          rfl
        · by_cases e : j = t
          · subst e
            refine ⟨?_, wv_u_at _ _ _ _⟩
            rw [wv_u_no _ _ (by omega), wv_u_at]
          · rw [wv_u_no _ _ (by omega), wv_u_no _ _ (by omega), wv_u_no _ _ (by omega), wv_u_no _ _ (by omega)]
            exact hW j (by omega)
        · rw [wv_u_no _ _ (by omega), wv_u_no _ _ (by omega)]
          exact hF c j c1 c2 c3 c4 c5
        · rw [wv_u_no _ _ (by omega), wv_u_no _ _ (by omega)]
          exact hKK.1
        · rw [wv_u_no _ _ (by omega), wv_u_no _ _ (by omega)]
          exact hKK.2.1
        · rw [wv_u_no _ _ (by omega), wv_u_no _ _ (by omega)]
          exact hKK.2.2
      · have w1 : Int32.ofNat len ≤ Int32.ofNat t := w1
        rw [wi_le, wi_on (by omega), et] at w1
        have e : t = len := by omega
        subst e
        have hv8 : ∀ j, dz_u n t w j < 64 := fun j => Nat.lt_trans (dz_u_lt hn3) (by omega)
        obtain ⟨J, hJ⟩ : ∃ J, J = wv_u I1 460 49 (Int32.ofNat t) := ⟨_, rfl⟩
        have jK : ∀ pp, pp < 2 → kp_K J pp (S pp) (m0 pp) (x pp) (sq pp) := fun pp hpp => kp_K_F (hK pp hpp) (fun c j c1 c2 => by
          rw [hJ, wv_u_no _ _ (by omega)]
          exact hF c j (by omega) (by omega) (by omega) (by omega) (by omega))
        have j49 : J 460 49 = Int32.ofNat t := by
          rw [hJ, wv_u_at]
        have j491 : ∀ j, j < t → J 491 j = Int32.ofNat (dz_u n t w j) := fun j hj => by
          rw [hJ, wv_u_no _ _ (by omega)]
          exact (hW j hj).1
        subst hJ
        refine ⟨S 0, m0 0, 0, x 0, t, sq 0, dz_u n t w, rfl, hT, by omega, jK 0 (by omega), hmr 0 (by omega), j49, by omega, by omega, fun j hj => ⟨j491 j hj, hv8 j⟩, fun I2 L2 b0 f2 g2 q0 => ?_⟩
        have f2 : ∀ c j, ¬ (469 ≤ c ∧ c ≤ 475) → ¬ c = 495 → ¬ (c = 460 ∧ (j = 32 ∨ (37 ≤ j ∧ j ≤ 39))) → I2 c j = wv_u I1 460 49 (Int32.ofNat t) c j := f2
        refine ⟨S 1, m0 1, 1, x 1, t, sq 1, dz_u n t w, rfl, hT, by omega, kp_K_F (jK 1 (by omega)) (fun c j c1 c2 => f2 c j (by omega) (by omega) (by omega)), hmr 1 (by omega), (f2 _ _ (by omega) (by omega) (by omega)).trans j49, by omega, by omega, fun j hj => ⟨(f2 _ _ (by omega) (by omega) (by omega)).trans (j491 j hj), hv8 j⟩, fun I3 L3 b1 f3 g3 q1 => ?_⟩
        have f3 : ∀ c j, ¬ (469 ≤ c ∧ c ≤ 475) → ¬ c = 495 → ¬ (c = 460 ∧ (j = 32 ∨ (37 ≤ j ∧ j ≤ 39))) → I3 c j = wv_u I1 460 49 (Int32.ofNat t) c j := fun c j c1 c2 c3 => (f3 c j c1 c2 c3).trans (f2 c j c1 c2 c3)
        have F3 : di_F I I3 := fun c j c1 c2 c3 c4 c5 => by
          rw [f3 c j c3 c4 (by omega), wv_u_no _ _ (by omega)]
          exact hF c j c1 c2 c3 c4 c5
        have k3 : ∀ j, (j = 0 ∨ j = 65 ∨ j = 70) → I3 460 j = I1 460 j := fun j hj => by
          rw [f3 460 j (by omega) (by omega) (by omega), wv_u_no _ _ (by omega)]
        have L3f : mr_FL L L3 := fun c j c1 c2 c3 c4 => (g3 c j c1 c2 c3 c4).trans ((g2 c j c1 c2 c3 c4).trans (hL c j c1 c2 c3 c4))
        refine ⟨fun w2 => ?_, fun w2 => ?_⟩
        · have eb : b0 = b1 := di_eq_b.mp w2
          subst eb
          refine ⟨100 * (10000 * (20 - t) + (5000 - (w + 1))), by omega, n, k, t, w + 1, some (.int (wb_i b0)), ?_, rfl, rfl, rfl, rfl, rfl, rfl, hk, h65, hl1, hlk, hno, by omega, fun w3 hw3 => ?_, F3, ⟨?_, ?_, ?_⟩, L3f, rfl⟩
          · unfold di_l
            rw [← wq_4s w]
            rfl
          · by_cases e : w3 = w
            · rw [e]
              exact ⟨b0, q0, q1⟩
            · exact hnw w3 (by omega)
          · rw [k3 0 (by omega)]
            exact hKK.1
          · rw [k3 65 (by omega)]
            exact hKK.2.1
          · rw [k3 70 (by omega)]
            exact hKK.2.2
        · have eb : ¬ b0 = b1 := fun y => w2 (di_eq_b.mpr y)
          have hq := ((hok n k hk).2 h65).2 (wv_u I3 460 70 (Int32.ofNat t)) L3 t w b0 b1 hl1 hlk hw (fun c j c1 c2 c3 c4 c5 => (wv_u_no _ _ (by omega)).trans (F3 c j c1 c2 c3 c4 c5)) ⟨?_, ?_, wv_u_at _ _ _ _⟩ L3f (fun j hj => ?_) q0 q1 eb hnw hno
          rotate_left
          · rw [wv_u_no _ _ (by omega), k3 0 (by omega)]
            exact hKK.1
          · rw [wv_u_no _ _ (by omega), k3 65 (by omega)]
            exact hKK.2.1
          · rw [wv_u_no _ _ (by omega), wv_u_no _ _ (by omega), f3 491 j (by omega) (by omega) (by omega), f3 505 j (by omega) (by omega) (by omega), wv_u_no _ _ (by omega), wv_u_no _ _ (by omega)]
            exact hW j hj
          exact hq
    rw [if_neg p98] at hP
    cases hP
