/-! ===== the reference: search ===== -/
theorem dz_sh12 : ∀ k, k < 13 → Int32.ofInt 1 <<< (Int32.ofNat k &&& 31) = Int32.ofNat (2 ^ k) := by decide +kernel
def se_12 (b : Bool) : Int32 := if b = true then (Int8.ofInt 12).toInt32 else (Int8.ofInt 60).toInt32
def se_lm (b : Bool) : Nat := if b = true then 12 else 9
theorem se_12_t {b : Bool} : se_12 b = (Int8.ofInt 12).toInt32 ↔ b = true := by
  cases b with
  | true => exact ⟨fun _ => rfl, fun _ => rfl⟩
  | false => exact ⟨fun h => absurd h (by decide), fun h => by cases h⟩
theorem se_lm_le (b : Bool) : se_lm b ≤ 12 := by
  unfold se_lm
  split <;> omega
def se_c457 : wv_c1 := fun as T N I L R q => ∃ (ii jj : Int32), as = [.ref 460, .int ii, .int jj] ∧ wm_T T ∧ (rw_bp ii → q (.inl (some (.int (Int32.ofNat 9)))) T N I L R 0 0) ∧ ∀ i, i < 2 → ii = Int32.ofNat i → ∃ (j : Nat) (bi bj : Bool), j < 2 ∧ jj = Int32.ofNat j ∧ I 479 i = se_12 bi ∧ I 479 j = se_12 bj ∧ q (.inl (some (.int (Int32.ofNat (se_lm (bi && bj)))))) T N I L R 0 0
set_option maxRecDepth 100000 in
theorem wM_457 : ∃ cb ci np, pt_mt 457 = some (32, cb, 4, false, some .int, ci, np) := ⟨_, _, _, rfl⟩
set_option maxRecDepth 100000 in
set_option maxHeartbeats 4000000 in
theorem se_longest {sc : pt_Sc} {d : Nat} : wv_C wm_fx sc (d + 1) 457 se_c457 := by
  rintro as T N I L R q ⟨ii, jj, rfl, hT, hb, h⟩ w0 HR
  obtain ⟨cb, ci, np, hm⟩ := wM_457
  refine wv_meth (hh := none) rfl (sp := fun _ _ _ _ _ _ _ _ => False) (hd := fun _ => none) (n := 0) (n1 := 300) hm zc_457 rfl (fun k as T N I L R q h => by cases h) ?_ (fun pc P h => by cases h) HR
  refine ⟨fun w1 => ⟨fun _ => hb (Or.inl w1), fun w2 => absurd rfl w2⟩, fun w1 => ?_⟩
  refine ⟨fun w2 => ⟨fun _ => hb (Or.inr w2), fun w3 => absurd rfl w3⟩, fun w2 => ?_⟩
  have w1 : ¬ ii < 0 := w1
  have w2 : ¬ Int32.ofInt 2 ≤ ii := w2
  rw [wi_lt, wi_0] at w1
  rw [wi_le, show (Int32.ofInt 2).toInt = 2 from rfl] at w2
  obtain ⟨i, hi, ei⟩ : ∃ i : Nat, i < 2 ∧ ii = Int32.ofNat i := ⟨ii.toInt.toNat, by omega, wi_eq.mpr (by rw [wi_on (by omega)]; omega)⟩
  obtain ⟨j, bi, bj, hj, ej, e1, e2, hq⟩ := h i hi ei
  subst ei ej
  refine ⟨_, wm_t hT rfl, pp_b (c := 2) (by omega) (by omega), ?_⟩
  rw [wi_onn (by omega), e1]
  refine ⟨fun w3 => ?_, fun w3 => ?_⟩
  · have b1 : bi = false := by
      cases bi with
      | false => rfl
      | true => exact absurd rfl w3
    rw [b1] at hq
    exact ⟨fun _ => hq, fun w4 => absurd rfl w4⟩
  have b1 : bi = true := se_12_t.mp (Classical.not_not.mp w3)
  refine ⟨_, wm_t hT rfl, pp_b (c := 2) (by omega) (by omega), ?_⟩
  rw [wi_onn (by omega), e2]
  refine ⟨fun w4 => ?_, fun w4 => ?_⟩
  · have b2 : bj = false := by
      cases bj with
      | false => rfl
      | true => exact absurd rfl w4
    rw [b1, b2] at hq
    exact ⟨fun _ => hq, fun w5 => absurd rfl w5⟩
  have b2 : bj = true := se_12_t.mp (Classical.not_not.mp w4)
  rw [b1, b2] at hq
  exact ⟨fun w5 => absurd w5 (by decide), fun _ => hq⟩
/-- a length that may be asked for -/
def se_ok (a lm : Nat) (ni : Int32) (k : Nat) : Prop := ni = Int32.ofNat k ∧ 1 ≤ k ∧ k ≤ 12 ∧ a * k ≤ lm
def se_F (I J : Nat → Nat → Int32) : Prop := ∀ c j, ¬ c = 491 → ¬ (501 ≤ c ∧ c ≤ 504) → ¬ (469 ≤ c ∧ c ≤ 475) → ¬ c = 495 → ¬ (c = 460 ∧ (j = 0 ∨ j = 32 ∨ (37 ≤ j ∧ j ≤ 39) ∨ j = 49 ∨ j = 65 ∨ j = 66)) → J c j = I c j
def se_K (r : Int32) (I J : Nat → Nat → Int32) : Prop := J 460 0 = 0 ∧ J 460 65 = I 460 65 + Int32.ofInt 1 ∧ J 460 66 = r
/-- no word of l cycles fails -/
def se_no (S : rn_N) (x l n : Nat) (a b g : Nat) (nx : Nat → Nat) (fi : Nat → Bool) (sg on tw : Nat → Nat) : Prop := ∀ w, w < n → mr_w S x (dz_w a b g nx fi sg on tw (dz_u a l w)) l false
theorem tw_M_se {a b g : Nat} {nx : Nat → Nat} {fi : Nat → Bool} {sg on tw : Nat → Nat} {I J : Nat → Nat → Int32} (h : tw_M a b g nx fi sg on tw I) (f : se_F I J) : tw_M a b g nx fi sg on tw J := by
  obtain ⟨h1, h2, h3, h4, h5, h6⟩ := h
  exact ⟨(f _ _ (by omega) (by omega) (by omega) (by omega) (by omega)).trans h1, (f _ _ (by omega) (by omega) (by omega) (by omega) (by omega)).trans h2, (f _ _ (by omega) (by omega) (by omega) (by omega) (by omega)).trans h3, fun i hi => ⟨(f _ _ (by omega) (by omega) (by omega) (by omega) (by omega)).trans (h4 i hi).1, (f _ _ (by omega) (by omega) (by omega) (by omega) (by omega)).trans (h4 i hi).2⟩, fun i hi => (f _ _ (by omega) (by omega) (by omega) (by omega) (by omega)).trans (h5 i hi), fun i hi => ⟨(f _ _ (by omega) (by omega) (by omega) (by omega) (by omega)).trans (h6 i hi).1, (f _ _ (by omega) (by omega) (by omega) (by omega) (by omega)).trans (h6 i hi).2⟩⟩
def se_l (pi ni : Int32) (l3 l4 : Option Value) : List (Option Value) := [some (.ref 460), some (.int pi), some (.int ni), l3, l4, none, none, none]
def se_h456 (pi ni : Int32) (S : Nat → rn_N) (x : Nat → Nat) (a b g : Nat) (nx : Nat → Nat) (fi : Nat → Bool) (sg on tw : Nat → Nat) (T : wv_T) (N : Nat) (I : Nat → Nat → Int32) (L : Nat → Nat → Int64) (R : Nat → Nat → Option Nat) : Nat → Option (Nat → wv_P) := fun pc =>
  if pc = 15 then some (fun mm lv st T1 N1 I1 L1 R1 nc ns => ∃ b1 : Bool, lv = se_l pi ni none none ∧ st = [.int (wb_i b1), .ref 460] ∧ T1 = T ∧ N1 = N ∧ R1 = R ∧ nc = 0 ∧ ns = 0 ∧ I1 = I ∧ L1 = L ∧ (b1 = true ↔ rw_bp pi) ∧ mm = 900000)
  else if pc = 46 then some (fun mm lv st T1 N1 I1 L1 R1 nc ns => ∃ b1 b2 : Bool, lv = se_l pi ni none none ∧ st = [.int (wb_i b2), .int (wb_i b1), .ref 460] ∧ T1 = T ∧ N1 = N ∧ R1 = R ∧ nc = 0 ∧ ns = 0 ∧ I1 = I ∧ L1 = L ∧ (b1 = true ↔ rw_bp pi) ∧ (∀ pp, pp < 2 → pi = Int32.ofNat pp → (b2 = false ↔ ∃ k, se_ok a (se_lm (fw (S pp))) ni k)) ∧ mm = 800000)
  else if pc = 86 then some (fun mm lv st T1 N1 I1 L1 R1 nc ns => ∃ (pp k len : Nat) (l4 : Option Value), lv = se_l pi ni (some (.int (Int32.ofNat len))) l4 ∧ st = [] ∧ T1 = T ∧ N1 = N ∧ R1 = R ∧ nc = 0 ∧ ns = 0 ∧ pp < 2 ∧ pi = Int32.ofNat pp ∧ se_ok a (se_lm (fw (S pp))) ni k ∧ ¬ I 460 65 = Int32.ofInt 5 ∧ 1 ≤ len ∧ len ≤ k + 1 ∧ (∀ l, 1 ≤ l → l < len → se_no (S pp) (x pp) l (2 ^ (a * l)) a b g nx fi sg on tw) ∧ se_F I I1 ∧ se_K 0 I I1 ∧ mr_FL L L1 ∧ mm = 10000 * (20 - len) + 9999)
  else if pc = 94 then some (fun mm lv st T1 N1 I1 L1 R1 nc ns => ∃ (pp k len w : Nat), lv = se_l pi ni (some (.int (Int32.ofNat len))) (some (.int (Int32.ofNat w))) ∧ st = [] ∧ T1 = T ∧ N1 = N ∧ R1 = R ∧ nc = 0 ∧ ns = 0 ∧ pp < 2 ∧ pi = Int32.ofNat pp ∧ se_ok a (se_lm (fw (S pp))) ni k ∧ ¬ I 460 65 = Int32.ofInt 5 ∧ 1 ≤ len ∧ len ≤ k ∧ (∀ l, 1 ≤ l → l < len → se_no (S pp) (x pp) l (2 ^ (a * l)) a b g nx fi sg on tw) ∧ w ≤ 2 ^ (a * len) ∧ se_no (S pp) (x pp) len w a b g nx fi sg on tw ∧ se_F I I1 ∧ se_K 0 I I1 ∧ mr_FL L L1 ∧ mm = 10000 * (20 - len) + (5000 - w))
  else none
theorem se_ok_u {a lm k k2 : Nat} {ni : Int32} (h : se_ok a lm ni k) (h2 : se_ok a lm ni k2) : k2 = k := by
  obtain ⟨h1, h3, h4, _⟩ := h
  obtain ⟨g1, g3, g4, _⟩ := h2
  exact fd_on (by omega) (by omega) (g1.symm.trans h1)
def se_c456 : wv_c1 := fun as T N I L R q => ∃ (pi ni : Int32) (S : Nat → rn_N) (m0 x : Nat → Nat) (sq : Nat → List Nat) (a b g : Nat) (nx : Nat → Nat) (fi : Nat → Bool) (sg on tw : Nat → Nat), as = [.ref 460, .int pi, .int ni] ∧ wm_T T ∧ (∀ pp, pp < 2 → kp_K I pp (S pp) (m0 pp) (x pp) (sq pp)) ∧ (∀ pp, pp < 2 → mr_ok (S pp) (m0 pp) (x pp)) ∧ dz_V a b g nx fi sg on tw ∧ tw_M a b g nx fi sg on tw I ∧ (rw_bp pi → q (.inl (some (.int 0))) T N (wv_u I 460 0 1) L R 0 0) ∧ ∀ pp, pp < 2 → pi = Int32.ofNat pp → ((¬ ∃ k, se_ok a (se_lm (fw (S pp))) ni k) → q (.inl (some (.int 0))) T N (wv_u I 460 0 2) L R 0 0) ∧ ∀ k, se_ok a (se_lm (fw (S pp))) ni k → (I 460 65 = Int32.ofInt 5 → q (.inl (some (.int 0))) T N (wv_u (wv_u I 460 0 0) 460 0 3) L R 0 0) ∧ (¬ I 460 65 = Int32.ofInt 5 → (∀ J L1, se_F I J → se_K 0 I J → mr_FL L L1 → (∀ l, 1 ≤ l → l ≤ k → se_no (S pp) (x pp) l (2 ^ (a * l)) a b g nx fi sg on tw) → q (.inl (some (.int 0))) T N J L1 R 0 0) ∧ (∀ J L1 len w, 1 ≤ len → len ≤ k → w < 2 ^ (a * len) → se_F I J → se_K (Int32.ofNat len) I J → mr_FL L L1 → dz_R a b g nx fi sg on tw (dz_u a len w) len J → mr_w (S pp) (x pp) (dz_w a b g nx fi sg on tw (dz_u a len w)) len true → se_no (S pp) (x pp) len w a b g nx fi sg on tw → (∀ l, 1 ≤ l → l < len → se_no (S pp) (x pp) l (2 ^ (a * l)) a b g nx fi sg on tw) → q (.inl (some (.int (Int32.ofNat len)))) T N J L1 R 0 0))
set_option maxRecDepth 100000 in
theorem wM_456 : ∃ cb ci np, pt_mt 456 = some (32, cb, 5, false, some .int, ci, np) := ⟨_, _, _, rfl⟩
set_option maxRecDepth 100000 in
set_option maxHeartbeats 4000000 in
theorem se_search {sc : pt_Sc} {d : Nat} : wv_C wm_fx sc (d + 1 + 1 + 1 + 1 + 1 + 1 + 1 + 1 + 1) 456 se_c456 := by
  rintro as T N I L R q ⟨pi, ni, S, m0, x, sq, a, b, g, nx, fi, sg, on, tw, rfl, hT, hK, hmr, hV, hM, hbad, hok⟩ w0 HR
  obtain ⟨cb, ci, np, hm⟩ := wM_456
  have hc345 : wv_C wm_fx sc (d + 1 + 1 + 1 + 1 + 1 + 1 + 1 + 1) 345 wp_c345 := wv_C_deep (by omega) (wp_refuse (d := d))
  have hc457 : wv_C wm_fx sc (d + 1 + 1 + 1 + 1 + 1 + 1 + 1 + 1) 457 se_c457 := wv_C_deep (by omega) (se_longest (d := d))
  have hc458 : wv_C wm_fx sc (d + 1 + 1 + 1 + 1 + 1 + 1 + 1 + 1) 458 dz_c458 := wv_C_deep (by omega) (dz_fails (d := d))
  refine wv_meth (hh := none) rfl (sp := wv_sp [(345, wp_c345), (457, se_c457), (458, dz_c458)]) (hd := se_h456 pi ni S x a b g nx fi sg on tw T N I L R) (n := 300) (n1 := 300) hm zc_456 rfl (wv_sp_ok (fun q hq => by
    rcases List.mem_cons.mp hq with h | h
    · rw [h]; exact hc345
    rcases List.mem_cons.mp h with h | h
    · rw [h]; exact hc457
    rw [List.mem_singleton.mp h]; exact hc458)) ?_ ?_ HR
  · refine ⟨fun w1 => ?_, fun w1 => ?_⟩
    · exact ⟨900000, true, rfl, rfl, rfl, rfl, rfl, rfl, rfl, rfl, rfl, ⟨fun _ => Or.inl w1, fun _ => rfl⟩, rfl⟩
    have w1 : ¬ pi < 0 := w1
    refine ⟨fun w2 => ?_, fun w2 => ?_⟩
    · have w2 : pi ≤ Int32.ofInt 1 := w2
      refine ⟨900000, false, rfl, rfl, rfl, rfl, rfl, rfl, rfl, rfl, rfl, ⟨fun z => (by cases z), fun z => ?_⟩, rfl⟩
      rcases z with z | z
      · exact (w1 z).elim
      · rw [wi_le, show (Int32.ofInt 2).toInt = 2 from rfl] at z
        rw [wi_le, show (Int32.ofInt 1).toInt = 1 from rfl] at w2
        omega
    · have w2 : ¬ pi ≤ Int32.ofInt 1 := w2
      refine ⟨900000, true, rfl, rfl, rfl, rfl, rfl, rfl, rfl, rfl, rfl, ⟨fun _ => Or.inr ?_, fun _ => rfl⟩, rfl⟩
      rw [wi_le, show (Int32.ofInt 1).toInt = 1 from rfl] at w2
      rw [wi_le, show (Int32.ofInt 2).toInt = 2 from rfl]
      omega
  · intro pc P hP m lv st T1 N1 I1 L1 R1 nc ns hh
    obtain ⟨va1, va, vb, vg, vn, vs, vw⟩ := id hV
    unfold se_h456 at hP
    by_cases p15 : pc = 15
    · rw [if_pos p15] at hP
      cases hP
      subst p15
      obtain ⟨b1, rfl, rfl, rfl, rfl, rfl, rfl, rfl, rfl, rfl, hb1, rfl⟩ := hh
      have no : ∀ {pp : Nat}, ¬ (1 ≤ ni.toInt ∧ ni.toInt ≤ 12) → ¬ ∃ k, se_ok a (se_lm (fw (S pp))) ni k := fun hn ⟨k, e, k1, k2, _⟩ => by
        rw [e, wi_on (by omega)] at hn
        omega
      refine ⟨fun w1 => ?_, fun w1 => ?_⟩
      · have w1 : ni < Int32.ofInt 1 := w1
        rw [wi_lt, show (Int32.ofInt 1).toInt = 1 from rfl] at w1
        exact ⟨800000, by omega, b1, true, rfl, rfl, rfl, rfl, rfl, rfl, rfl, rfl, rfl, hb1, fun pp _ _ => ⟨fun z => (by cases z), fun z => (no (by omega) z).elim⟩, rfl⟩
      have w1 : ¬ ni < Int32.ofInt 1 := w1
      rw [wi_lt, show (Int32.ofInt 1).toInt = 1 from rfl] at w1
      refine ⟨fun w2 => ?_, fun w2 => ?_⟩
      · have w2 : Int32.ofNat 12 < ni := w2
        rw [wi_lt, wi_on (by omega)] at w2
        exact ⟨800000, by omega, b1, true, rfl, rfl, rfl, rfl, rfl, rfl, rfl, rfl, rfl, hb1, fun pp _ _ => ⟨fun z => (by cases z), fun z => (no (by omega) z).elim⟩, rfl⟩
      have w2 : ¬ Int32.ofNat 12 < ni := w2
      rw [wi_lt, wi_on (by omega)] at w2
      obtain ⟨k, hk, ek⟩ : ∃ k : Nat, (1 ≤ k ∧ k ≤ 12) ∧ ni = Int32.ofNat k := ⟨ni.toInt.toNat, by omega, wi_eq.mpr (by rw [wi_on (by omega)]; omega)⟩
      have hak : a * k ≤ 36 := Nat.mul_le_mul (show a ≤ 3 from va) hk.2
      have emul : I1 460 56 * ni = Int32.ofNat (a * k) := by
        rw [hM.1, ek, Int32.ofNat_mul]
      have two : ∀ lm : Nat, lm ≤ 12 → ∀ b2 : Bool, (b2 = true ↔ lm < a * k) → (b2 = false ↔ ∃ k, se_ok a lm ni k) := fun lm hlm b2 hb2 => by
        constructor
        · intro z
          refine ⟨k, ek, hk.1, hk.2, ?_⟩
          rcases Nat.lt_or_ge lm (a * k) with y | y
          · rw [hb2.mpr y] at z
            cases z
          · exact y
        · rintro ⟨k2, e2, _, h12, h4⟩
          have : k2 = k := fd_on (by omega) (by omega) (e2.symm.trans ek)
          subst this
          cases b2 with
          | false => rfl
          | true =>
            have := hb2.mp rfl
            omega
      refine ⟨pi, pi, rfl, hT, fun hbp => ?_, fun i hi ei => ⟨i, fw (S i), fw (S i), hi, ei, (hK i hi).2.2.2, (hK i hi).2.2.2, ?_⟩⟩
      · have bad : ∀ b2 : Bool, ∀ pp, pp < 2 → pi = Int32.ofNat pp → (b2 = false ↔ ∃ k, se_ok a (se_lm (fw (S pp))) ni k) := fun b2 pp hpp e => (kl_bp hpp e hbp).elim
        exact ⟨fun w3 => ⟨800000, by omega, b1, false, rfl, rfl, rfl, rfl, rfl, rfl, rfl, rfl, rfl, hb1, bad _, rfl⟩, fun w3 => ⟨800000, by omega, b1, true, rfl, rfl, rfl, rfl, rfl, rfl, rfl, rfl, rfl, hb1, bad _, rfl⟩⟩
      · have e12 := se_lm_le (fw (S i) && fw (S i))
        have eand : (fw (S i) && fw (S i)) = fw (S i) := Bool.and_self _
        rw [eand] at e12 ⊢
        have w4 : I1 460 56 * ni ≤ Int32.ofNat (se_lm (fw (S i))) ↔ a * k ≤ se_lm (fw (S i)) := by
          rw [emul, wi_le, wi_on (by omega), wi_on (by omega)]
          omega
        refine ⟨fun w3 => ?_, fun w3 => ?_⟩
        · have w3 := w4.mp w3
          refine ⟨800000, by omega, b1, false, rfl, rfl, rfl, rfl, rfl, rfl, rfl, rfl, rfl, hb1, fun pp hpp e => ?_, rfl⟩
          have ep := kl_p2 hi hpp ei e
          subst ep
          exact two _ e12 false ⟨fun z => (by cases z), fun z => by omega⟩
        · have w3 : ¬ a * k ≤ se_lm (fw (S i)) := fun y => w3 (w4.mpr y)
          refine ⟨800000, by omega, b1, true, rfl, rfl, rfl, rfl, rfl, rfl, rfl, rfl, rfl, hb1, fun pp hpp e => ?_, rfl⟩
          have ep := kl_p2 hi hpp ei e
          subst ep
          exact two _ e12 true ⟨fun _ => by omega, fun _ => rfl⟩
    rw [if_neg p15] at hP
    by_cases p46 : pc = 46
    · rw [if_pos p46] at hP
      cases hP
      subst p46
      obtain ⟨b1, b2, rfl, rfl, rfl, rfl, rfl, rfl, rfl, rfl, rfl, hb1, hb2, rfl⟩ := hh
      refine ⟨wb_i b1, wb_i b2, rfl, ?_⟩
      cases b1 with
      | true =>
        rw [if_neg (wb_i_1.mpr rfl)]
        exact ⟨fun w1 => absurd w1 (by decide), fun _ => hbad (hb1.mp rfl)⟩
      | false =>
        rw [if_pos (wb_i_0.mpr rfl)]
        have hnb : ¬ rw_bp pi := fun z => by
          have := hb1.mpr z
          cases this
        obtain ⟨pp, hpp, epp⟩ : ∃ pp : Nat, pp < 2 ∧ pi = Int32.ofNat pp := by
          unfold rw_bp at hnb
          rw [wi_lt, wi_0, wi_le, show (Int32.ofInt 2).toInt = 2 from rfl] at hnb
          exact ⟨pi.toInt.toNat, by omega, wi_eq.mpr (by rw [wi_on (by omega)]; omega)⟩
        obtain ⟨o1, o2⟩ := hok pp hpp epp
        cases b2 with
        | true =>
          rw [if_neg (wb_i_1.mpr rfl)]
          refine ⟨fun w1 => absurd w1 (by decide), fun _ => o1 (fun z => ?_)⟩
          have := (hb2 pp hpp epp).mpr z
          cases this
        | false =>
          rw [if_pos (wb_i_0.mpr rfl)]
          obtain ⟨k, hk⟩ := (hb2 pp hpp epp).mp rfl
          obtain ⟨o3, o4⟩ := o2 k hk
          refine ⟨fun _ => ?_, fun w1 => absurd rfl w1⟩
          refine ⟨fun w1 => ?_, fun w1 => ?_⟩
          rotate_left
          · have w2 : I1 460 65 = Int32.ofInt 5 := (wv_u_no _ _ (by omega)).symm.trans (Classical.not_not.mp w1)
            exact o3 w2
          have w2 : ¬ I1 460 65 = Int32.ofInt 5 := fun y => w1 ((wv_u_no _ _ (by omega)).trans y)
          refine ⟨10000 * (20 - 1) + 9999, by omega, pp, k, 1, none, rfl, rfl, rfl, rfl, rfl, rfl, rfl, hpp, epp, hk, w2, Nat.le_refl _, by omega, fun l l1 l2 => by omega, fun c j c1 c2 c3 c4 c5 => ?_, ⟨?_, ?_, ?_⟩, fun _ _ _ _ _ _ => rfl, rfl⟩
          · rw [wv_u_no _ _ (by omega), wv_u_no _ _ (by omega), wv_u_no _ _ (by omega)]
          · rw [wv_u_no _ _ (by omega), wv_u_no _ _ (by omega), wv_u_at]
          · rw [wv_u_no _ _ (by omega), wv_u_at, wv_u_no _ _ (by omega)]
          · rw [wv_u_at]
            rfl
    rw [if_neg p46] at hP
    by_cases p86 : pc = 86
    · rw [if_pos p86] at hP
      cases hP
      subst p86
      obtain ⟨pp, k, len, l4, rfl, rfl, rfl, rfl, rfl, rfl, rfl, hpp, epp, hk, h65, hl1, hlk, hno, hF, hKK, hL, rfl⟩ := hh
      have hk12 := hk.2.2.1
      have ek := hk.1
      refine ⟨fun w1 => ?_, fun w1 => ?_⟩
      · have w1 : ni < Int32.ofNat len := w1
        rw [ek, wi_lt, wi_on (by omega), wi_on (by omega)] at w1
        exact (((hok pp hpp epp).2 k hk).2 h65).1 I1 L1 hF hKK hL (fun l l1 l2 => hno l l1 (by omega))
      · have w1 : ¬ ni < Int32.ofNat len := w1
        rw [ek, wi_lt, wi_on (by omega), wi_on (by omega)] at w1
        exact ⟨10000 * (20 - len) + (5000 - 0), by omega, pp, k, len, 0, rfl, rfl, rfl, rfl, rfl, rfl, rfl, hpp, epp, hk, h65, hl1, by omega, hno, Nat.zero_le _, fun w hw => by omega, hF, hKK, hL, rfl⟩
    rw [if_neg p86] at hP
    by_cases p94 : pc = 94
    · rw [if_pos p94] at hP
      cases hP
      subst p94
      obtain ⟨pp, k, len, w, rfl, rfl, rfl, rfl, rfl, rfl, rfl, hpp, epp, hk, h65, hl1, hlk, hno, hw, hnw, hF, hKK, hL, rfl⟩ := hh
      have hk12 := hk.2.2.1
      have hal : a * len ≤ 12 := Nat.le_trans (Nat.mul_le_mul_left a hlk) (Nat.le_trans hk.2.2.2 (se_lm_le _))
      have hp12 : 2 ^ (a * len) ≤ 4096 := Nat.pow_le_pow_right (n := 2) (by omega) hal
      have M1 := tw_M_se hM hF
      have esh : Int32.ofInt 1 <<< ((I1 460 56 * Int32.ofNat len) &&& 31) = Int32.ofNat (2 ^ (a * len)) := by
        rw [M1.1, ← Int32.ofNat_mul, dz_sh12 _ (by omega)]
      refine ⟨fun w1 => ?_, fun w1 => ?_⟩
      · have w1 : Int32.ofInt 1 <<< ((I1 460 56 * Int32.ofNat len) &&& 31) ≤ Int32.ofNat w := w1
        rw [esh, wi_le, wi_on (by omega), wi_on (by omega)] at w1
        have e : w = 2 ^ (a * len) := by omega
        refine ⟨10000 * (20 - (len + 1)) + 9999, by omega, pp, k, len + 1, some (.int (Int32.ofNat w)), ?_, rfl, rfl, rfl, rfl, rfl, rfl, hpp, epp, hk, h65, by omega, by omega, fun l l1 l2 => ?_, hF, hKK, hL, rfl⟩
        · unfold se_l
          rw [← wq_4s]
          rfl
        · by_cases el : l = len
          · subst el
            rw [← e]
            exact hnw
          · exact hno l l1 (by omega)
      · have w1 : ¬ Int32.ofInt 1 <<< ((I1 460 56 * Int32.ofNat len) &&& 31) ≤ Int32.ofNat w := w1
        rw [esh, wi_le, wi_on (by omega), wi_on (by omega)] at w1
        have hKp := hK pp hpp
        have hK1 : kp_K I1 pp (S pp) (m0 pp) (x pp) (sq pp) := kp_K_F hKp (fun c j c1 c2 => hF c j (by omega) (by omega) (by omega) (by omega) (by omega))
        refine ⟨pp, len, w, S pp, m0 pp, x pp, sq pp, a, b, g, nx, fi, sg, on, tw, (by first | rfl | exact congrArg (fun y => [Value.ref 460, Value.int y, Value.int (Int32.ofNat len), Value.int (Int32.ofNat w)]) epp), hT, hpp, hK1, hmr pp hpp, hV, M1, by omega, hal, by omega, fun J I2 L2 bb fJ rJ fw2 gL hw2 => ?_⟩
        have fw3 : ∀ c j, ¬ (469 ≤ c ∧ c ≤ 475) → ¬ c = 495 → ¬ (c = 460 ∧ (j = 32 ∨ (37 ≤ j ∧ j ≤ 39))) → I2 c j = wv_u J 460 49 (Int32.ofNat len) c j := fw2
        have f2 : se_F I I2 := fun c j c1 c2 c3 c4 c5 => by
          rw [fw3 c j c3 c4 (by omega), wv_u_no _ _ (by omega), fJ c j c1 c2]
          exact hF c j c1 c2 c3 c4 c5
        have k2 : ∀ j, (j = 0 ∨ j = 65 ∨ j = 66) → I2 460 j = I1 460 j := fun j hj => by
          rw [fw3 460 j (by omega) (by omega) (by omega), wv_u_no _ _ (by omega), fJ 460 j (by omega) (by omega)]
        have L2f : mr_FL L L2 := fun c j c1 c2 c3 c4 => (gL c j c1 c2 c3 c4).trans (hL c j c1 c2 c3 c4)
        cases bb with
        | true =>
          refine ⟨fun w2 => absurd w2 (by decide), fun _ => ?_⟩
          have hq := (((hok pp hpp epp).2 k hk).2 h65).2 (wv_u I2 460 66 (Int32.ofNat len)) L2 len w hl1 hlk (by omega) (fun c j c1 c2 c3 c4 c5 => (wv_u_no _ _ (by omega)).trans (f2 c j c1 c2 c3 c4 c5)) ⟨?_, ?_, wv_u_at _ _ _ _⟩ L2f (fun t ht => ?_) hw2 hnw hno
          rotate_left
          · rw [wv_u_no _ _ (by omega), k2 0 (by omega)]
            exact hKK.1
          · rw [wv_u_no _ _ (by omega), k2 65 (by omega)]
            exact hKK.2.1
          · have e : ∀ c, (c = 491 ∨ c = 502 ∨ c = 503 ∨ c = 504) → wv_u I2 460 66 (Int32.ofNat len) c t = J c t := fun c hc => by
              rw [wv_u_no _ _ (by omega), fw3 c t (by omega) (by omega) (by omega), wv_u_no _ _ (by omega)]
            rw [e 502 (by omega), e 503 (by omega), e 504 (by omega), e 491 (by omega)]
            exact rJ t ht
          exact hq
        | false =>
          refine ⟨fun _ => ?_, fun w2 => absurd (by decide) w2⟩
          refine ⟨10000 * (20 - len) + (5000 - (w + 1)), by omega, pp, k, len, w + 1, ?_, rfl, rfl, rfl, rfl, rfl, rfl, hpp, epp, hk, h65, hl1, hlk, hno, by omega, fun w2 hw3 => ?_, f2, ⟨?_, ?_, ?_⟩, L2f, rfl⟩
          · unfold se_l
            rw [← wq_4s w]
            rfl
          · by_cases e : w2 = w
            · rw [e]
              exact hw2
            · exact hnw w2 (by omega)
          · rw [k2 0 (by omega)]
            exact hKK.1
          · rw [k2 65 (by omega)]
            exact hKK.2.1
          · rw [k2 66 (by omega)]
            exact hKK.2.2
    rw [if_neg p94] at hP
    cases hP
