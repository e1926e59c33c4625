/-! ===== the reference: a letter ===== -/
/-- what holds of the nodes of a property that was read -/
def mr_ok (S : rn_N) (m0 x : Nat) : Prop := rn_n S ≤ 500 ∧ m0 ≤ 420 ∧ x < rn_n S ∧ rn_i S ∧ rn_q S ∧ ∀ x, x < rn_n S → nq_row (rn_k S x) → (rn_k S x = 42 → nq_b (rn_d S x) < 10000) ∧ (43 ≤ rn_k S x ∧ rn_k S x ≤ 44 → nq_a (rn_d S x) < 10000)
def mr_wd (S : rn_N) : Nat := if fw S = true then 12 else 60
theorem mr_wd_le (S : rn_N) : mr_wd S ≤ 60 := by
  unfold mr_wd
  split <;> omega
/-- whether a word fails -/
def mr_w (S : rn_N) (x : Nat) (v : Nat → Nat) (n : Nat) (b : Bool) : Prop := ∃ (SS : Nat → Nat → Nat → Prop) (Fl : Nat → Nat → Prop), ns_sol (rn_d S) (rn_h S) (pd_wn v n) (n + mr_wd S) (rn_n S) SS ∧ fl_sol (rn_d S) (rn_h S) v n (rn_n S) SS Fl ∧ (b = true ↔ Fl x 0)
def mr_Fw (I J : Nat → Nat → Int32) : Prop := ∀ c j, ¬ (469 ≤ c ∧ c ≤ 475) → ¬ c = 495 → ¬ (c = 460 ∧ (j = 32 ∨ (37 ≤ j ∧ j ≤ 39))) → J c j = I c j
def mr_c376 : wv_c1 := fun as T N I L R q => ∃ (S : rn_N) (m0 p x lk : Nat) (sq : List Nat) (v : Nat → Nat), as = [.ref 460, .int (Int32.ofNat p)] ∧ wm_T T ∧ p < 2 ∧ kp_K I p S m0 x sq ∧ mr_ok S m0 x ∧ I 460 49 = Int32.ofNat lk ∧ 0 < lk ∧ lk ≤ 24 ∧ (∀ k, k < lk → I 491 k = Int32.ofNat (v k) ∧ v k < 64) ∧ ∀ I1 L1 b, mr_Fw I I1 → mr_FL L L1 → mr_w S x v lk b → q (.inl (some (.int (wb_i b)))) T N I1 L1 R 0 0
set_option maxRecDepth 100000 in
theorem wM_376 : ∃ cb ci np, pt_mt 376 = some (32, cb, 2, false, some .boolean, ci, np) := ⟨_, _, _, rfl⟩
set_option maxRecDepth 100000 in
set_option maxHeartbeats 4000000 in
theorem mr_wordFails {sc : pt_Sc} {d : Nat} : wv_C wm_fx sc (d + 1 + 1 + 1 + 1 + 1 + 1 + 1) 376 mr_c376 := by
  rintro as T N I L R q ⟨S, m0, p, x, lk, sq, v, rfl, hT, hp, hK, ⟨hn5, hm0, hx, hI, hq, hab⟩, h49, hl0, hlk, hv, h⟩ w0 HR
  obtain ⟨cb, ci, np, hm⟩ := wM_376
  have hc377 : wv_C wm_fx sc (d + 1 + 1 + 1 + 1 + 1 + 1) 377 mr_c377 := wv_C_deep (by omega) (mr_choose (d := d))
  have hc378 : wv_C wm_fx sc (d + 1 + 1 + 1 + 1 + 1 + 1) 378 mr_c378 := wv_C_deep (by omega) (mr_look (d := d))
  refine wv_meth (hh := none) rfl (sp := wv_sp [(377, mr_c377), (378, mr_c378)]) (hd := fun _ => none) (n := 0) (n1 := 300) hm zc_376 rfl (wv_sp_ok (fun q hq => by
    rcases List.mem_cons.mp hq with h | h
    · rw [h]; exact hc377
    rw [List.mem_singleton.mp h]; exact hc378)) ?_ (fun pc P h => by cases h) HR
  refine ⟨S, m0, p, x, sq, rfl, hT, hp, hK, hn5, hm0, fun I1 hF h1 h37 h38 h39 h32 => ?_⟩
  have h49b : I1 460 49 = Int32.ofNat lk := (hF _ _ (by omega) (by omega)).trans h49
  have hX : mr_X T I1 S m0 lk (mr_wd S) v := ⟨hT, ⟨h37, hn5, hm0, h1⟩, h49b, hlk, h32, mr_wd_le S, fun k hk => by rw [hF _ _ (by omega) (by omega)]; exact hv k hk⟩
  refine ⟨S, m0, lk, mr_wd S, v, true, rfl, hX, hI, hq, hab, fun I2 L2 hF2 hG2 hs hf => ?_⟩
  have h49c : I2 460 49 = Int32.ofNat lk := (hF2 _ _ (by omega)).trans h49b
  have h38c : I2 460 38 = Int32.ofNat x := (hF2 _ _ (by omega)).trans h38
  have el := wi_on (n := lk) (by omega)
  have hFw : mr_Fw I I2 := fun c j a b d => (hF2 c j b).trans (hF c j a d)
  have key : ∀ b : Bool, (b = true ↔ mr_f I2 x 0 = true) → q (.inl (some (.int (wb_i b)))) T N I2 L2 R 0 0 := fun b hb => h I2 L2 b hFw hG2 ⟨_, _, hs, hf rfl, hb.trans ⟨fun z => ⟨hl0, z⟩, fun z => z.2⟩⟩
  refine ⟨fun w => ?_, fun w => ?_⟩
  · have w : I2 460 49 ≤ 0 := w
    rw [h49c, wi_le, el, wi_0] at w
    omega
  have e1 : (Int8.ofInt 26).toInt32 * I2 460 38 = Int32.ofNat (26 * x + 0) := by
    rw [h38c, Nat.add_zero]
    exact wq_mu (a := 26) (by omega) (by omega) (by omega)
  have n1 := wi_onn (n := 26 * x + 0) (by omega)
  refine ⟨2, _, Or.inl rfl, wm_t hT rfl, by rw [e1]; exact pp_b (c := 20800) (by omega) (by omega), ?_⟩
  rw [e1, n1]
  refine ⟨fun w2 => ⟨⟨rfl, rfl⟩, ?_⟩, fun w2 => ⟨⟨rfl, rfl⟩, ?_⟩⟩
  · have w2 : I2 495 (26 * x + 0) = 0 := w2
    refine key false ⟨fun z => (by cases z), fun z => ?_⟩
    unfold mr_f at z
    rw [decide_eq_true w2] at z
    cases z
  · have w2 : ¬ I2 495 (26 * x + 0) = 0 := w2
    refine key true ⟨fun _ => ?_, fun _ => rfl⟩
    unfold mr_f
    rw [decide_eq_false w2]
    rfl
/-- what a letter leaves alone -/
def mr_Fl2 (I J : Nat → Nat → Int32) : Prop := ∀ c j, ¬ (469 ≤ c ∧ c ≤ 475) → ¬ (489 ≤ c ∧ c ≤ 491) → ¬ c = 495 → ¬ (c = 460 ∧ (j = 0 ∨ j = 32 ∨ (37 ≤ j ∧ j ≤ 39) ∨ j = 46 ∨ j = 49)) → J c j = I c j
theorem mr_Fl2_u {I J : Nat → Nat → Int32} {c j : Nat} {x : Int32} (h : mr_Fl2 I J) (hc : (469 ≤ c ∧ c ≤ 475) ∨ (489 ≤ c ∧ c ≤ 491) ∨ c = 495 ∨ (c = 460 ∧ (j = 0 ∨ j = 32 ∨ (37 ≤ j ∧ j ≤ 39) ∨ j = 46 ∨ j = 49))) : mr_Fl2 I (wv_u J c j x) := fun d k h1 h2 h3 h4 => by
  rw [wv_u_no _ _ (by omega)]
  exact h d k h1 h2 h3 h4
theorem mr_Fl2_w {A B C : Nat → Nat → Int32} (h : mr_Fl2 A B) (g : mr_Fw B C) : mr_Fl2 A C := fun c j a b d e => (g c j a d (by omega)).trans (h c j a b d e)
theorem kp_K_F {I J : Nat → Nat → Int32} {p : Nat} {S : rn_N} {m0 x : Nat} {sq : List Nat} (h : kp_K I p S m0 x sq) (g : ∀ c j, 476 ≤ c → c ≤ 483 → J c j = I c j) : kp_K J p S m0 x sq := by
  have e : kp_V J p = kp_V I p := by
    funext c j
    unfold kp_V
    split
    · exact g _ _ (by omega) (by omega)
    split
    · exact g _ _ (by omega) (by omega)
    split
    · split
      · exact g _ _ (by omega) (by omega)
      · exact g _ _ (by omega) (by omega)
    · exact g _ _ (by omega) (by omega)
  obtain ⟨h1, h2, h3, h4⟩ := h
  exact ⟨by rw [e]; exact h1, by rw [g _ _ (by omega) (by omega)]; exact h2, by rw [g _ _ (by omega) (by omega)]; exact h3, by rw [g _ _ (by omega) (by omega)]; exact h4⟩
/-- the word with one letter more -/
def mr_v (v : Nat → Nat) (lk : Nat) (a : Nat) : Nat → Nat := fun k => if k = lk then a else v k
/-- where property p failed, behind the letter -/
def mr_90 (I : Nat → Nat → Int32) (p lk : Nat) (b : Bool) : Int32 := if I 490 p = 0 then (if b = true then Int32.ofNat (lk + 1) else 0) else I 490 p
def mr_lo (I : Nat → Nat → Int32) : Int32 := (if 0 < I 490 0 then 1 else 0) + (if 0 < I 490 1 then 2 else 0)
def mr_h375 (c : Int32) (a lk : Nat) (v : Nat → Nat) (S : Nat → rn_N) (x : Nat → Nat) (T : wv_T) (N : Nat) (I : Nat → Nat → Int32) (L : Nat → Nat → Int64) (R : Nat → Nat → Option Nat) : Nat → Option (Nat → wv_P) := fun pc =>
  if pc = 68 then some (fun mm lv st T1 N1 I1 L1 R1 nc ns => ∃ k : Nat, lv = [some (.ref 460), some (.int c), some (.int (Int32.ofNat k)), none, none] ∧ st = [] ∧ (c = Int32.ofNat a ∧ a < 64 ∧ lk < 24) ∧ T1 = T ∧ N1 = N ∧ L1 = L ∧ R1 = R ∧ nc = 0 ∧ ns = 0 ∧ k ≤ lk + 1 ∧ mm = 1000 - k ∧ mr_Fl2 I I1 ∧ I1 460 0 = 0 ∧ I1 460 46 = Int32.ofNat (lk + 1) ∧ I1 460 49 = Int32.ofNat (lk + 1) ∧ (∀ j, j < lk + 1 → I1 489 j = Int32.ofNat (mr_v v lk a j)) ∧ (∀ j, I1 490 j = I 490 j) ∧ ∀ j, j < k → I1 491 j = Int32.ofNat (mr_v v lk a j))
  else if pc = 96 then some (fun mm lv st T1 N1 I1 L1 R1 nc ns => ∃ p : Nat, lv = [some (.ref 460), some (.int c), some (.int (Int32.ofNat p)), none, none] ∧ st = [] ∧ (c = Int32.ofNat a ∧ a < 64 ∧ lk < 24) ∧ T1 = T ∧ N1 = N ∧ mr_FL L L1 ∧ R1 = R ∧ nc = 0 ∧ ns = 0 ∧ p ≤ 2 ∧ mm = 10 - p ∧ mr_Fl2 I I1 ∧ I1 460 0 = 0 ∧ I1 460 46 = Int32.ofNat (lk + 1) ∧ I1 460 49 = Int32.ofNat (lk + 1) ∧ (∀ j, j < lk + 1 → I1 489 j = Int32.ofNat (mr_v v lk a j)) ∧ (∀ j, j < lk + 1 → I1 491 j = Int32.ofNat (mr_v v lk a j)) ∧ (∀ j, p ≤ j → I1 490 j = I 490 j) ∧ ∀ j, j < p → ∃ b, I1 490 j = mr_90 I j lk b ∧ (I 490 j = 0 → mr_w (S j) (x j) (mr_v v lk a) (lk + 1) b))
  else none
def mr_c375 : wv_c1 := fun as T N I L R q => ∃ (c : Int32) (lk : Nat) (v : Nat → Nat) (S : Nat → rn_N) (m0 x : Nat → Nat) (sq : Nat → List Nat), as = [.ref 460, .int c] ∧ wm_T T ∧ I 460 46 = Int32.ofNat lk ∧ lk ≤ 24 ∧ (∀ k, k < lk → I 489 k = Int32.ofNat (v k) ∧ v k < 64) ∧ (∀ p, p < 2 → kp_K I p (S p) (m0 p) (x p) (sq p) ∧ mr_ok (S p) (m0 p) (x p)) ∧ (c < 0 ∨ (Int8.ofInt 63).toInt32 < c → q (.inl (some (.int 0))) T N (wv_u I 460 0 1) L R 0 0) ∧ (¬ (c < 0 ∨ (Int8.ofInt 63).toInt32 < c) → lk = 24 → q (.inl (some (.int 0))) T N (wv_u I 460 0 2) L R 0 0) ∧ ∀ a : Nat, c = Int32.ofNat a → a < 64 → lk < 24 → ∀ I1 L1, mr_Fl2 I I1 → mr_FL L L1 → I1 460 0 = 0 → I1 460 46 = Int32.ofNat (lk + 1) → (∀ j, j < lk + 1 → I1 489 j = Int32.ofNat (mr_v v lk a j)) → (∀ j, j < 2 → ∃ b, I1 490 j = mr_90 I j lk b ∧ (I 490 j = 0 → mr_w (S j) (x j) (mr_v v lk a) (lk + 1) b)) → q (.inl (some (.int (mr_lo I1)))) T N I1 L1 R 0 0
set_option maxRecDepth 100000 in
theorem wM_375 : ∃ cb ci np, pt_mt 375 = some (32, cb, 3, false, some .int, ci, np) := ⟨_, _, _, rfl⟩
set_option maxRecDepth 100000 in
set_option maxHeartbeats 4000000 in
theorem mr_letter {sc : pt_Sc} {d : Nat} : wv_C wm_fx sc (d + 1 + 1 + 1 + 1 + 1 + 1 + 1 + 1) 375 mr_c375 := by
  rintro as T N I L R q ⟨c, lk, v, S, m0, x, sq, rfl, hT, h46, hlk, hv, hK, hbad, hfull, h⟩ w0 HR
  obtain ⟨cb, ci, np, hm⟩ := wM_375
  have hc345 : wv_C wm_fx sc (d + 1 + 1 + 1 + 1 + 1 + 1 + 1) 345 wp_c345 := wv_C_deep (by omega) (wp_refuse (d := d))
  have hc376 : wv_C wm_fx sc (d + 1 + 1 + 1 + 1 + 1 + 1 + 1) 376 mr_c376 := wv_C_deep (by omega) (mr_wordFails (d := d))
  refine wv_meth (hh := none) rfl (sp := wv_sp [(345, wp_c345), (376, mr_c376)]) (hd := mr_h375 c c.toNatClampNeg lk v S x T N I L R) (n := 300) (n1 := 300) hm zc_375 rfl (wv_sp_ok (fun q hq => by
    rcases List.mem_cons.mp hq with h | h
    · rw [h]; exact hc345
    rw [List.mem_singleton.mp h]; exact hc376)) ?_ ?_ HR
  · have n10 : ¬ (1 : Int32) = 0 := by decide
    have el := wi_on (n := lk) (by omega)
    have c24 : Int32.ofNat lk = (Int8.ofInt 24).toInt32 ↔ lk = 24 := ap_k (by omega) (by omega) rfl
    refine ⟨fun w => ?_, fun w => ?_⟩
    · refine ⟨fun w2 => ?_, fun w2 => ?_⟩
      · refine ⟨_, _, rfl, ?_⟩
        rw [if_neg (by decide)]
        exact ⟨fun z => (n10 z).elim, fun _ => hbad (Or.inl w)⟩
      · refine ⟨_, _, rfl, ?_⟩
        rw [if_neg (by decide)]
        exact ⟨fun z => (n10 z).elim, fun _ => hbad (Or.inl w)⟩
    refine ⟨fun w1 => ?_, fun w1 => ?_⟩
    · have nb0 : ¬ (c < 0 ∨ (Int8.ofInt 63).toInt32 < c) := fun z => z.elim w (fun y => Int32.not_lt.mpr w1 y)
      refine ⟨fun w2 => ?_, fun w2 => ?_⟩
      · refine ⟨_, _, rfl, ?_⟩
        rw [if_pos (by decide), if_pos (by decide)]
        refine ⟨fun _ => ?_, fun z => (z rfl).elim⟩
        rw [h46] at w2
        have w2 : ¬ lk = 24 := fun z => w2 (c24.mpr z)
        have hca : c = Int32.ofNat c.toNatClampNeg ∧ c.toNatClampNeg < 64 ∧ lk < 24 := by
          have w : 0 ≤ c.toInt := by rw [wi_lt, wi_0] at w; omega
          have w1 : c.toInt ≤ 63 := wi_le.mp w1
          rw [wi_nat]
          exact ⟨wi_eq.mpr (by rw [wi_on (by omega)]; omega), by omega, by omega⟩
        have h46b : wv_u I 460 0 0 460 46 = Int32.ofNat lk := by rw [wv_u_no _ _ (by omega)]; exact h46
        have eln := wi_onn (n := lk) (by omega)
        refine ⟨_, wm_t hT rfl, by rw [h46b]; exact pp_b (c := 24) (by omega) (by omega), by decide, ?_⟩
        rw [h46b, eln]
        refine ⟨_, 0, rfl, rfl, hca, rfl, rfl, rfl, rfl, rfl, rfl, by omega, rfl, ?_, ?_, ?_, ?_, fun j hj => ?_, fun j => ?_, fun j hj => by omega⟩
        · exact mr_Fl2_u (mr_Fl2_u (mr_Fl2_u (mr_Fl2_u (fun _ _ _ _ _ _ => rfl) (by omega)) (by omega)) (by omega)) (by omega)
        · rw [wv_u_no _ _ (by omega), wv_u_no _ _ (by omega), wv_u_no _ _ (by omega), wv_u_at]
        · rw [wv_u_no _ _ (by omega), wv_u_at, wv_u_no _ _ (by omega), h46b]
          exact wq_4s lk
        · rw [wv_u_at, wv_u_at, wv_u_no _ _ (by omega), h46b]
          exact wq_4s lk
        · rw [wv_u_no _ _ (by omega), wv_u_no _ _ (by omega)]
          unfold mr_v
          by_cases e : j = lk
          · subst e
            rw [wv_u_at, if_pos rfl]
            exact hca.1
          · rw [wv_u_no _ _ (by omega), wv_u_no _ _ (by omega), if_neg e]
            exact (hv j (by omega)).1
        · rw [wv_u_no _ _ (by omega), wv_u_no _ _ (by omega), wv_u_no _ _ (by omega), wv_u_no _ _ (by omega)]
      · refine ⟨_, _, rfl, ?_⟩
        rw [if_pos (by decide), if_neg (by decide)]
        rw [h46] at w2
        have w2 : lk = 24 := Decidable.not_not.mp (fun z => w2 (fun y => z (c24.mp y)))
        exact ⟨fun z => (n10 z).elim, fun _ => hfull nb0 w2⟩
    · have w1 : (Int8.ofInt 63).toInt32 < c := Int32.not_le.mp w1
      refine ⟨fun w2 => ?_, fun w2 => ?_⟩
      · refine ⟨_, _, rfl, ?_⟩
        rw [if_neg (by decide)]
        exact ⟨fun z => (n10 z).elim, fun _ => hbad (Or.inr w1)⟩
      · refine ⟨_, _, rfl, ?_⟩
        rw [if_neg (by decide)]
        exact ⟨fun z => (n10 z).elim, fun _ => hbad (Or.inr w1)⟩
  · intro pc P hP m lv st T1 N1 I1 L1 R1 nc ns hh
    generalize c.toNatClampNeg = a at *
    unfold mr_h375 at hP
    by_cases p68 : pc = 68
    · rw [if_pos p68] at hP
      cases hP
      subst p68
      obtain ⟨k, rfl, rfl, ⟨hca, ha, hl⟩, rfl, rfl, rfl, rfl, rfl, rfl, hk, rfl, hF, h0, h46b, h49, h489, h490, h491⟩ := hh
      have ek := wi_on (n := k) (by omega)
      have ekn := wi_onn (n := k) (by omega)
      have el := wi_on (n := lk + 1) (by omega)
      refine ⟨fun w => ?_, fun w => ?_⟩
      · rw [h46b, wi_le, el, ek] at w
        have e : k = lk + 1 := by omega
        subst e
        exact ⟨10 - 0, by omega, 0, rfl, rfl, ⟨hca, ha, hl⟩, rfl, rfl, fun _ _ _ _ _ _ => rfl, rfl, rfl, rfl, by omega, rfl, hF, h0, h46b, h49, h489, h491, fun j _ => h490 j, fun j hj => by omega⟩
      rw [h46b, wi_le, el, ek] at w
      refine ⟨_, wm_t hT rfl, pp_b (c := 24) (by omega) (by omega), ?_⟩
      refine ⟨_, wm_t hT rfl, pp_b (c := 24) (by omega) (by omega), by decide, ?_⟩
      rw [ekn]
      refine ⟨1000 - (k + 1), by omega, k + 1, by rw [← wq_4s k]; rfl, rfl, ⟨hca, ha, hl⟩, rfl, rfl, rfl, rfl, rfl, rfl, by omega, rfl, mr_Fl2_u hF (by omega), ?_, ?_, ?_, fun j hj => ?_, fun j => ?_, fun j hj => ?_⟩
      · rw [wv_u_no _ _ (by omega)]
        exact h0
      · rw [wv_u_no _ _ (by omega)]
        exact h46b
      · rw [wv_u_no _ _ (by omega)]
        exact h49
      · rw [wv_u_no _ _ (by omega)]
        exact h489 j hj
      · rw [wv_u_no _ _ (by omega)]
        exact h490 j
      · by_cases e : j = k
        · subst e
          rw [wv_u_at]
          exact h489 j (by omega)
        · rw [wv_u_no _ _ (by omega)]
          exact h491 j (by omega)
    rw [if_neg p68] at hP
    by_cases p96 : pc = 96
    · rw [if_pos p96] at hP
      cases hP
      subst p96
      obtain ⟨p, rfl, rfl, ⟨hca, ha, hl⟩, rfl, rfl, hFL, rfl, rfl, rfl, hp, rfl, hF, h0, h46b, h49, h489, h491, h490, hD⟩ := hh
      have ep := wi_on (n := p) (by omega)
      have epn := wi_onn (n := p) (by omega)
      have e2 : (Int32.ofInt 2).toInt = 2 := rfl
      refine ⟨fun w => ?_, fun w => ?_⟩
      · rw [wi_le, ep, e2] at w
        have e : p = 2 := by omega
        subst e
        have hq := h a hca ha hl I1 L1 hF hFL h0 h46b h489 (fun j hj => hD j hj)
        unfold mr_lo at hq
        refine ⟨_, wm_t hT rfl, pp_b (c := 2) (m := 0) (by omega) (by omega), ?_⟩
        refine ⟨fun w2 => ?_, fun w2 => ?_⟩
        · have w2 : I1 490 0 ≤ 0 := w2
          rw [if_neg (Int32.not_lt.mpr w2)] at hq
          refine ⟨_, wm_t hT rfl, pp_b (c := 2) (m := 1) (by omega) (by omega), ?_⟩
          refine ⟨fun w3 => ?_, fun w3 => ?_⟩
          · have w3 : I1 490 1 ≤ 0 := w3
            rw [if_neg (Int32.not_lt.mpr w3)] at hq
            exact hq
          · have w3 : ¬ I1 490 1 ≤ 0 := w3
            rw [if_pos (Int32.not_le.mp w3)] at hq
            exact hq
        · have w2 : ¬ I1 490 0 ≤ 0 := w2
          rw [if_pos (Int32.not_le.mp w2)] at hq
          refine ⟨_, wm_t hT rfl, pp_b (c := 2) (m := 1) (by omega) (by omega), ?_⟩
          refine ⟨fun w3 => ?_, fun w3 => ?_⟩
          · have w3 : I1 490 1 ≤ 0 := w3
            rw [if_neg (Int32.not_lt.mpr w3)] at hq
            exact hq
          · have w3 : ¬ I1 490 1 ≤ 0 := w3
            rw [if_pos (Int32.not_le.mp w3)] at hq
            exact hq
      rw [wi_le, ep, e2] at w
      have hp2 : p < 2 := by omega
      have e490 := h490 p (Nat.le_refl _)
      refine ⟨_, wm_t hT rfl, pp_b (c := 2) (by omega) (by omega), ?_⟩
      rw [epn]
      refine ⟨fun w2 => ?_, fun w2 => ?_⟩
      · have w2 : ¬ I1 490 p = 0 := w2
        refine ⟨10 - (p + 1), by omega, p + 1, by rw [← wq_4s p]; rfl, rfl, ⟨hca, ha, hl⟩, rfl, rfl, hFL, rfl, rfl, rfl, by omega, rfl, hF, h0, h46b, h49, h489, h491, fun j hj => h490 j (by omega), fun j hj => ?_⟩
        by_cases e : j = p
        · subst e
          rw [e490] at w2
          refine ⟨false, ?_, fun z => (w2 z).elim⟩
          unfold mr_90
          rw [if_neg w2]
          exact e490
        · exact hD j (by omega)
      have w2 : I1 490 p = 0 := Decidable.not_not.mp w2
      rw [e490] at w2
      refine ⟨S p, m0 p, p, x p, lk + 1, sq p, mr_v v lk a, rfl, hT, hp2, kp_K_F (hK p hp2).1 (fun c j h1 h2 => hF c j (by omega) (by omega) (by omega) (by omega)), (hK p hp2).2, h49, by omega, by omega, fun k hk => ⟨h491 k hk, ?_⟩, fun I2 L2 b hF2 hG2 hw => ?_⟩
      · unfold mr_v
        split
        · exact ha
        · exact (hv k (by omega)).2
      have t46 : I2 460 46 = Int32.ofNat (lk + 1) := (hF2 _ _ (by omega) (by omega) (by omega)).trans h46b
      refine ⟨fun w3 => ?_, fun w3 => ?_⟩
      · have w3 := wb_i_2.mp (fun z => z w3)
        refine ⟨_, wm_t hT rfl, pp_b (c := 2) (by omega) (by omega), by decide, ?_⟩
        rw [epn]
        refine ⟨10 - (p + 1), by omega, p + 1, by rw [← wq_4s p]; rfl, rfl, ⟨hca, ha, hl⟩, rfl, rfl, fun c j a1 a2 a3 a4 => (hG2 c j a1 a2 a3 a4).trans (hFL c j a1 a2 a3 a4), rfl, rfl, rfl, by omega, rfl, mr_Fl2_u (mr_Fl2_w hF hF2) (by omega), ?_, ?_, ?_, fun j hj => ?_, fun j hj => ?_, fun j hj => ?_, fun j hj => ?_⟩
        · rw [wv_u_no _ _ (by omega)]
          exact (hF2 _ _ (by omega) (by omega) (by omega)).trans h0
        · rw [wv_u_no _ _ (by omega)]
          exact t46
        · rw [wv_u_no _ _ (by omega)]
          exact (hF2 _ _ (by omega) (by omega) (by omega)).trans h49
        · rw [wv_u_no _ _ (by omega)]
          exact (hF2 _ _ (by omega) (by omega) (by omega)).trans (h489 j hj)
        · rw [wv_u_no _ _ (by omega)]
          exact (hF2 _ _ (by omega) (by omega) (by omega)).trans (h491 j hj)
        · rw [wv_u_no _ _ (by omega)]
          exact (hF2 _ _ (by omega) (by omega) (by omega)).trans (h490 j (by omega))
        · by_cases e : j = p
          · subst e
            rw [wv_u_at]
            refine ⟨b, ?_, fun _ => hw⟩
            unfold mr_90
            rw [if_pos w2, w3]
            rfl
          · rw [wv_u_no _ _ (by omega), hF2 _ _ (by omega) (by omega) (by omega)]
            exact hD j (by omega)
      · have w3 := wb_i_1.mp w3
        refine ⟨_, wm_t hT rfl, pp_b (c := 2) (by omega) (by omega), by decide, ?_⟩
        rw [epn, t46]
        refine ⟨10 - (p + 1), by omega, p + 1, by rw [← wq_4s p]; rfl, rfl, ⟨hca, ha, hl⟩, rfl, rfl, fun c j a1 a2 a3 a4 => (hG2 c j a1 a2 a3 a4).trans (hFL c j a1 a2 a3 a4), rfl, rfl, rfl, by omega, rfl, mr_Fl2_u (mr_Fl2_w hF hF2) (by omega), ?_, ?_, ?_, fun j hj => ?_, fun j hj => ?_, fun j hj => ?_, fun j hj => ?_⟩
        · rw [wv_u_no _ _ (by omega)]
          exact (hF2 _ _ (by omega) (by omega) (by omega)).trans h0
        · rw [wv_u_no _ _ (by omega)]
          exact t46
        · rw [wv_u_no _ _ (by omega)]
          exact (hF2 _ _ (by omega) (by omega) (by omega)).trans h49
        · rw [wv_u_no _ _ (by omega)]
          exact (hF2 _ _ (by omega) (by omega) (by omega)).trans (h489 j hj)
        · rw [wv_u_no _ _ (by omega)]
          exact (hF2 _ _ (by omega) (by omega) (by omega)).trans (h491 j hj)
        · rw [wv_u_no _ _ (by omega)]
          exact (hF2 _ _ (by omega) (by omega) (by omega)).trans (h490 j (by omega))
        · by_cases e : j = p
          · subst e
            rw [wv_u_at]
            refine ⟨b, ?_, fun _ => hw⟩
            unfold mr_90
            rw [if_pos w2, w3]
            rfl
          · rw [wv_u_no _ _ (by omega), hF2 _ _ (by omega) (by omega) (by omega)]
            exact hD j (by omega)
    rw [if_neg p96] at hP
    cases hP
