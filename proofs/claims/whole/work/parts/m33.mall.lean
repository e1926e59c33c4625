/-! ===== the reference: the places of a sequence ===== -/
def pb_FA (I I1 : Nat → Nat → Int32) : Prop := ∀ c j, ¬ (c = 508 ∨ c = 509 ∨ c = 510 ∨ c = 511 ∨ c = 514) → ¬ (c = 460 ∧ j = 75) → I1 c j = I c j
def pb_GA (L L1 : Nat → Nat → Int64) : Prop := ∀ c j, ¬ (c = 506 ∨ c = 507 ∨ c = 512 ∨ c = 513) → L1 c j = L c j
def pb_dn (m : Nat) : Int32 := if m = 0 then Int32.ofInt (-1) else Int32.ofNat (m - 1)
theorem pb_dn_1 (m : Nat) : Int32.ofNat m = pb_dn (m + 1) := (if_neg (by omega)).symm
theorem pb_dn_s {m : Nat} (_ : m < 10000) : Int32.ofNat m + Int32.ofInt (-1) = pb_dn m := by
  unfold pb_dn
  by_cases c : m = 0
  · subst c
    rfl
  · rw [if_neg c]
    obtain ⟨j, rfl⟩ : ∃ j, m = j + 1 := ⟨m - 1, by omega⟩
    rw [Nat.add_sub_cancel, ← wq_4s j, Int32.add_assoc, show Int32.ofInt 1 + Int32.ofInt (-1) = 0 from rfl, Int32.add_zero]
theorem po_k_m {lo : Nat → Nat} {a : Nat} : ∀ {l : List Nat} {b : Nat}, po_k lo a b l → ∀ y, y ∈ l → a ≤ y ∧ y < b
  | [], _, _, y, hy => absurd hy (by simp)
  | x :: l, b, h, y, hy => by
    obtain ⟨h1, h2, h3, h4⟩ := h
    rcases List.mem_cons.mp hy with e | e
    · subst e
      omega
    · have := po_k_m h4 y e
      omega
theorem pb_K_ps {I : Nat → Nat → Int32} {L : Nat → Nat → Int64} {a : Nat} {U : Nat → np_A} : ∀ {l : List Nat} {t : Nat}, pb_K I L a U l t → t = ps U l
  | [], _, h => h
  | y :: l, t, h => by
    obtain ⟨s, h1, h2, h3⟩ := h
    have := pb_K_ps h3
    show t = np_n (U y) + ps U l
    omega
/-- marks while they are spread -/
def pb_mk (S : rn_N) (lo : Nat → Nat) (x m : Nat) (mk : Nat → Bool) : Prop := (∀ j, mk j = true → lo x ≤ j ∧ j ≤ x) ∧ mk x = true ∧ ∀ y, m ≤ y → y ≤ x → lo x ≤ y → ¬ rn_k S y = 60 → mk (nq_l (rn_d S y)) = true ∧ (nq_two (rn_k S y) → mk (nq_r (rn_d S y)) = true)
theorem pb_mk_in {S : rn_N} {lo : Nat → Nat} {x m n : Nat} {mk : Nat → Bool} (hi : rn_i S) (hN : po_N S lo) (hx : x < rn_n S) (hr : nq_row (rn_k S x)) (h : pb_mk S lo x m mk) (hm : m ≤ n + 1) (h1 : lo x ≤ n) (h2 : n ≤ x) : mk n = true := by
  by_cases e : n = x
  · rw [e]
    exact h.2.1
  · obtain ⟨z, z1, z2, z3, z4⟩ := po_par hi hN x hx hr n h1 (by omega)
    obtain ⟨k1, k2⟩ := h.2.2 z (by omega) z2 (by omega) z3
    rcases z4 with z4 | ⟨z4, z5⟩
    · rw [← z4]
      exact k1
    · rw [← z5]
      exact k2 z4
def pb_up (mk : Nat → Bool) (a : Nat) : Nat → Bool := fun j => decide (j = a) || mk j
theorem pb_up_at {mk : Nat → Bool} {a : Nat} : pb_up mk a a = true := by
  unfold pb_up
  rw [decide_eq_true rfl]
  rfl
theorem pb_up_le {mk : Nat → Bool} {a j : Nat} (h : mk j = true) : pb_up mk a j = true := by
  unfold pb_up
  rw [h, Bool.or_true]
theorem pb_up_c {mk : Nat → Bool} {a j : Nat} (h : pb_up mk a j = true) : j = a ∨ mk j = true := by
  unfold pb_up at h
  rw [Bool.or_eq_true, decide_eq_true_iff] at h
  exact h
def pb_mM (c : Nat) (mk : Nat → Bool) (I1 : Nat → Nat → Int32) : Prop := ∀ j, j < c → I1 508 j = wb_i (mk j)
theorem pb_mM_u {c a : Nat} {mk : Nat → Bool} {I1 : Nat → Nat → Int32} (h : pb_mM c mk I1) : pb_mM c (pb_up mk a) (wv_u I1 508 a (vp_nar .boolean (Int32.ofInt 1))) := fun j hj => by
  by_cases e : j = a
  · subst e
    rw [wv_u_at, pb_up_at]
    rfl
  · rw [wv_u_no _ _ (fun z => e z.2), h j hj]
    unfold pb_up
    rw [decide_eq_false e, Bool.false_or]
/-- one node done: nothing else is marked -/
theorem pb_mk_0 {S : rn_N} {lo : Nat → Nat} {x m : Nat} {mk : Nat → Bool} (h : pb_mk S lo x (m + 1) mk) (hn : lo x ≤ m → m ≤ x → ¬ rn_k S m = 60 → mk (nq_l (rn_d S m)) = true ∧ (nq_two (rn_k S m) → mk (nq_r (rn_d S m)) = true)) : pb_mk S lo x m mk := ⟨h.1, h.2.1, fun y h1 h2 h3 h4 => by
  by_cases e : y = m
  · subst e
    exact hn h3 h2 h4
  · exact h.2.2 y (by omega) h2 h3 h4⟩
theorem pb_mk_u {S : rn_N} {lo : Nat → Nat} {x m a : Nat} {mk : Nat → Bool} (h : pb_mk S lo x m mk) (h1 : lo x ≤ a) (h2 : a ≤ x) : pb_mk S lo x m (pb_up mk a) := ⟨fun j hj => by
  rcases pb_up_c hj with e | e
  · subst e
    exact ⟨h1, h2⟩
  · exact h.1 j e, pb_up_le h.2.1, fun y k1 k2 k3 k4 => by
  obtain ⟨z1, z2⟩ := h.2.2 y k1 k2 k3 k4
  exact ⟨pb_up_le z1, fun w => pb_up_le (z2 w)⟩⟩
def pb_l18 (x : Nat) (x2 x3 : Option Value) : List (Option Value) := [some (.ref 460), some (.int (Int32.ofNat x)), x2, x3, none, none]
def pb_a (S : rn_N) (lo : Nat → Nat) (U : Nat → np_A) (x n : Nat) (I : Nat → Nat → Int32) (L : Nat → Nat → Int64) (I1 : Nat → Nat → Int32) (L1 : Nat → Nat → Int64) : Prop := (∃ t, I1 460 75 = Int32.ofNat t ∧ pb_K I1 L1 (lo x) U (pk S (lo x) (n - lo x)) t) ∧ (∀ y, lo x ≤ y → y < n → I1 509 y = Int32.ofNat (y - lo x)) ∧ (∀ j, j < rn_n S → I1 508 j = wb_i (decide (lo x ≤ j ∧ j ≤ x))) ∧ pb_FA I I1 ∧ pb_GA L L1
def pb_h418 (S : rn_N) (lo : Nat → Nat) (U : Nat → np_A) (x : Nat) (T : wv_T) (N : Nat) (I : Nat → Nat → Int32) (L : Nat → Nat → Int64) (R : Nat → Nat → Option Nat) : Nat → Option (Nat → wv_P) := fun pc =>
  if pc = 2 then some (fun mm lv st T1 N1 I1 L1 R1 nc ns => ∃ (k : Nat), lv = pb_l18 x (pb_i k) none ∧ st = [] ∧ T1 = T ∧ N1 = N ∧ R1 = R ∧ nc = 0 ∧ ns = 0 ∧ (∀ j, j < k → I1 508 j = wb_i (decide (j = x))) ∧ k ≤ rn_n S ∧ (∀ c j, ¬ c = 508 → I1 c j = I c j) ∧ L1 = L ∧ mm = 10000 - k)
  else if pc = 34 then some (fun mm lv st T1 N1 I1 L1 R1 nc ns => ∃ (m : Nat) (mk : Nat → Bool), lv = pb_l18 x (some (.int (pb_dn m))) none ∧ st = [] ∧ T1 = T ∧ N1 = N ∧ R1 = R ∧ nc = 0 ∧ ns = 0 ∧ pb_mk S lo x m mk ∧ pb_mM (rn_n S) mk I1 ∧ m ≤ x + 1 ∧ (∀ c j, ¬ c = 508 → I1 c j = I c j) ∧ L1 = L ∧ mm = 2000 + m)
  else if pc = 119 then some (fun mm lv st T1 N1 I1 L1 R1 nc ns => ∃ (n : Nat), lv = pb_l18 x (pb_i (n - lo x)) (pb_i n) ∧ st = [] ∧ T1 = T ∧ N1 = N ∧ R1 = R ∧ nc = 0 ∧ ns = 0 ∧ pb_a S lo U x n I L I1 L1 ∧ n ≤ x + 1 ∧ mm = 1000 - n)
  else none
/-- what is known of the sequence -/
def pb_S (S : rn_N) (lo : Nat → Nat) (U : Nat → np_A) (x : Nat) : Prop := x < rn_n S ∧ nq_row (rn_k S x) ∧ rn_i S ∧ po_N S lo ∧ np_sol (rn_d S) (rn_h S) (rn_n S) U ∧ x + 1 ≤ lo x + 199 ∧ np_n (U x) ≤ 60 ∧ ∀ y, y < rn_n S → nq_row (rn_k S y) → rn_k S y = 42 → nq_b (rn_d S y) < 900
def pb_c418 : wv_c1 := fun as T N I L R q => ∃ (S : rn_N) (m0 x : Nat) (lo : Nat → Nat) (U : Nat → np_A), as = [.ref 460, .int (Int32.ofNat x)] ∧ pb_X T I S m0 ∧ I 460 37 = Int32.ofNat (rn_n S) ∧ pb_S S lo U x ∧ ∀ I1 L1, pb_T I1 L1 (x - lo x) 0 (U x) → I1 460 75 = Int32.ofNat (np_n (U x)) → I1 509 x = Int32.ofNat (x - lo x) → pb_FA I I1 → pb_GA L L1 → q (.inl none) T N I1 L1 R 0 0
set_option maxRecDepth 100000 in
theorem wM_418 : ∃ cb ci np, pt_mt 418 = some (32, cb, 4, false, none, ci, np) := ⟨_, _, _, rfl⟩
set_option maxRecDepth 100000 in
set_option maxHeartbeats 4000000 in
theorem pb_allPlaces {sc : pt_Sc} {d : Nat} : wv_C wm_fx sc (d + 1 + 1 + 1 + 1 + 1) 418 pb_c418 := by
  rintro as T N I L R q ⟨S, m0, x, lo, U, rfl, hX, h37, hS, h⟩ w0 HR
  obtain ⟨cb, ci, np, hm⟩ := wM_418
  have hc419 : wv_C wm_fx sc (d + 1 + 1 + 1 + 1) 419 pb_c419 := wv_C_deep (by omega) (pb_places (d := d))
  refine wv_meth (hh := none) rfl (sp := wv_sp [(419, pb_c419)]) (hd := pb_h418 S lo U x T N I L R) (n := 300) (n1 := 300) hm zc_418 rfl (wv_sp_ok (fun q hq => by rw [List.mem_singleton.mp hq]; exact hc419)) ?_ ?_ HR
  · have hX2 := hX
    obtain ⟨hT, hn5, hm0, hM⟩ := hX
    obtain ⟨hx, hr, hi, hN, hU, hsz, h60, h42⟩ := hS
    have hlx := (hN x hx hr).1
    have ex := wi_on (n := x) (by omega)
    have en := wi_on (n := rn_n S) (by omega)

    exact ⟨_, 0, rfl, rfl, rfl, rfl, rfl, rfl, rfl, fun j hj => by omega, Nat.zero_le _, fun _ _ _ => rfl, rfl, rfl⟩
  · intro pc P hP m lv st T1 N1 I1 L1 R1 nc ns hh
    have hX2 := hX
    obtain ⟨hT, hn5, hm0, hM⟩ := hX
    obtain ⟨hx, hr, hi, hN, hU, hsz, h60, h42⟩ := hS
    have hlx := (hN x hx hr).1
    have ex := wi_on (n := x) (by omega)
    have en := wi_on (n := rn_n S) (by omega)

    unfold pb_h418 at hP
    by_cases p2 : pc = 2
    · rw [if_pos p2] at hP
      cases hP
      subst p2
      obtain ⟨k, rfl, rfl, rfl, rfl, rfl, rfl, rfl, hk, hkn, hF, rfl, rfl⟩ := hh
      have ek := wi_on (n := k) (by omega)
      have ekn := wi_onn (n := k) (by omega)
      refine ⟨fun w => ?_, fun w => ?_⟩
      · rw [hF 460 37 (by omega), h37, wi_le, en, ek] at w
        have e : k = rn_n S := by omega
        subst e
        refine ⟨2000 + (x + 1), by omega, x + 1, fun j => decide (j = x), by rw [← pb_dn_1 x]; rfl, rfl, rfl, rfl, rfl, rfl, rfl, ⟨fun j hj => ?_, decide_eq_true rfl, fun y h1 h2 => by omega⟩, hk, Nat.le_refl _, hF, rfl, rfl⟩
        have := of_decide_eq_true hj
        omega
      · rw [hF 460 37 (by omega), h37, wi_le, en, ek] at w
        have el : pb_l18 x (some (.int (Int32.ofNat k + Int32.ofInt 1))) none = pb_l18 x (pb_i (k + 1)) none := by
          rw [wq_4s]
          rfl
        have key : ∀ (b : Bool), b = decide (k = x) → (∀ j, j < k + 1 → wv_u I1 508 k (vp_nar .boolean (wb_i b)) 508 j = wb_i (decide (j = x))) ∧ (∀ c j, ¬ c = 508 → wv_u I1 508 k (vp_nar .boolean (wb_i b)) c j = I c j) := fun b hb => ⟨fun j hj => by
          by_cases e : j = k
          · subst e
            rw [wv_u_at, ← hb]
            cases b <;> rfl
          · rw [wv_u_no _ _ (fun z => e z.2)]
            exact hk j (by omega), fun c j z => by
          rw [wv_u_no _ _ (fun y => z y.1)]
          exact hF c j z⟩
        refine ⟨fun w1 => ?_, fun w1 => ?_⟩
        · have w1 : ¬ Int32.ofNat k = Int32.ofNat x := w1
          rw [wi_eq, ek, ex] at w1
          refine ⟨_, wm_t hT rfl, pp_b (c := 800) (by omega) (by omega), (by decide), ?_⟩
          rw [ekn]
          obtain ⟨y1, y2⟩ := key false (decide_eq_false (by omega)).symm
          exact ⟨10000 - (k + 1), by omega, k + 1, el, rfl, rfl, rfl, rfl, rfl, rfl, y1, by omega, y2, rfl, rfl⟩
        · have w1 : ¬ ¬ Int32.ofNat k = Int32.ofNat x := w1
          rw [wi_eq, ek, ex] at w1
          refine ⟨_, wm_t hT rfl, pp_b (c := 800) (by omega) (by omega), (by decide), ?_⟩
          rw [ekn]
          obtain ⟨y1, y2⟩ := key true (decide_eq_true (by omega)).symm
          exact ⟨10000 - (k + 1), by omega, k + 1, el, rfl, rfl, rfl, rfl, rfl, rfl, y1, by omega, y2, rfl, rfl⟩
    rw [if_neg p2] at hP
    by_cases p34 : pc = 34
    · rw [if_pos p34] at hP
      cases hP
      subst p34
      obtain ⟨m, mk, rfl, rfl, rfl, rfl, rfl, rfl, rfl, hk, hMM, hm, hF, rfl, rfl⟩ := hh
      cases m with
      | zero =>
        refine ⟨fun w => ?_, fun w => absurd (show pb_dn 0 < 0 by decide) w⟩
        refine ⟨1000 - 0, by omega, 0, by rw [Nat.zero_sub]; rfl, rfl, rfl, rfl, rfl, rfl, rfl, ⟨⟨0, wv_u_at _ _ _ _, ?_⟩, fun y h1 h2 => by omega, fun j hj => ?_, fun c j z1 z2 => ?_, fun c j _ => rfl⟩, Nat.zero_le _, rfl⟩
        · rw [Nat.zero_sub]
          exact rfl
        · rw [wv_u_no _ _ (by omega), hMM j hj]
          congr 1
          rw [Bool.eq_iff_iff, decide_eq_true_iff]
          exact ⟨hk.1 j, fun z => pb_mk_in hi hN hx hr hk (by omega) z.1 z.2⟩
        · rw [wv_u_no _ _ z2]
          exact hF c j (by omega)
      | succ m =>
        rw [← pb_dn_1 m]
        have em := wi_on (n := m) (by omega)
        have emn := wi_onn (n := m) (by omega)
        have el : pb_l18 x (some (.int (Int32.ofNat m + Int32.ofInt (-1)))) none = pb_l18 x (some (.int (pb_dn m))) none := by
          rw [pb_dn_s (by omega)]
        refine ⟨fun w => ?_, fun w => ?_⟩
        · have w : Int32.ofNat m < 0 := w
          rw [wi_lt, em, wi_0] at w
          omega
        refine ⟨2, _, Or.inl rfl, wm_t hT rfl, pp_b (c := 800) (by omega) (by omega), ?_⟩
        rw [emn, hMM m (by omega)]
        refine ⟨fun w1 => ?_, fun w1 => ?_⟩
        · have w1 : mk m = false := wb_i_2.mp (fun z => z w1)
          exact ⟨2000 + m, by omega, m, mk, el, rfl, rfl, rfl, rfl, rfl, rfl, pb_mk_0 hk (fun z1 z2 _ => by
            rw [pb_mk_in hi hN hx hr hk (Nat.le_refl _) z1 z2] at w1
            cases w1), hMM, by omega, hF, rfl, rfl⟩
        have w1 : mk m = true := wb_i_1.mp w1
        obtain ⟨m1, m2⟩ := hk.1 m w1
        have e469 : I1 469 m = Int32.ofNat (rn_k S m) := (hF _ _ (by omega)).trans (hM m (by omega)).1
        obtain ⟨g1, g2⟩ := po_in hi hN x hx hr m m1 m2
        have hk100 : rn_k S m < 100 := by unfold nq_row at g1; omega
        have ek := wi_on (n := rn_k S m) (by omega)
        have e60 : ((Int8.ofInt 60).toInt32).toInt = 60 := rfl
        have e23 : ((Int8.ofInt 23).toInt32).toInt = 23 := rfl
        have e26 : ((Int8.ofInt 26).toInt32).toInt = 26 := rfl
        refine ⟨_, wm_t hT rfl, pp_b (c := 800) (by omega) (by omega), ?_⟩
        rw [emn, e469]
        refine ⟨fun w2 => ?_, fun w2 => ?_⟩
        · rw [wi_eq, ek, e60] at w2
          exact ⟨2000 + m, by omega, m, mk, el, rfl, rfl, rfl, rfl, rfl, rfl, pb_mk_0 hk (fun _ _ z => (z (by omega)).elim), hMM, by omega, hF, rfl, rfl⟩
        rw [wi_eq, ek, e60] at w2
        have c60 : ¬ rn_k S m = 60 := by omega
        obtain ⟨⟨l1, l2⟩, l3⟩ := po_ch hi hN hx hr m1 m2 c60
        obtain ⟨_, e2, e3⟩ := mr_nd (hM m (by omega)) c60
        have eln := wi_onn (n := nq_l (rn_d S m)) (by omega)
        have f470 : I1 470 m = Int32.ofNat (nq_l (rn_d S m)) := (hF _ _ (by omega)).trans e2
        refine ⟨_, wm_t hT rfl, pp_b (c := 800) (by omega) (by omega), ?_⟩
        rw [emn, f470]
        refine ⟨_, wm_t hT rfl, pp_b (c := 800) (by omega) (by omega), (by decide), ?_⟩
        rw [eln]
        have hM2 := pb_mM_u (a := nq_l (rn_d S m)) hMM
        have hk2 := pb_mk_u (a := nq_l (rn_d S m)) hk l1 (by omega)
        have hF2 : ∀ c j, ¬ c = 508 → wv_u I1 508 (nq_l (rn_d S m)) (vp_nar .boolean (Int32.ofInt 1)) c j = I c j := fun c j z => by
          rw [wv_u_no _ _ (fun y => z y.1)]
          exact hF c j z
        generalize wv_u I1 508 (nq_l (rn_d S m)) (vp_nar .boolean (Int32.ofInt 1)) = I2 at hM2 hF2 ⊢
        have f469 : I2 469 m = Int32.ofNat (rn_k S m) := (hF2 _ _ (by omega)).trans (hM m (by omega)).1
        refine ⟨_, wm_t hT rfl, pp_b (c := 800) (by omega) (by omega), ?_⟩
        rw [emn, f469]
        refine ⟨fun w3 => ?_, fun w3 => ?_⟩
        · rw [wi_lt, ek, e23] at w3
          exact ⟨2000 + m, by omega, m, _, el, rfl, rfl, rfl, rfl, rfl, rfl, pb_mk_0 hk2 (fun _ _ _ => ⟨pb_up_at, fun z => by unfold nq_two at z; omega⟩), hM2, by omega, hF2, rfl, rfl⟩
        rw [wi_lt, ek, e23] at w3
        refine ⟨_, wm_t hT rfl, pp_b (c := 800) (by omega) (by omega), ?_⟩
        rw [emn, f469]
        refine ⟨fun w4 => ?_, fun w4 => ?_⟩
        · rw [wi_lt, ek, e26] at w4
          exact ⟨2000 + m, by omega, m, _, el, rfl, rfl, rfl, rfl, rfl, rfl, pb_mk_0 hk2 (fun _ _ _ => ⟨pb_up_at, fun z => by unfold nq_two at z; omega⟩), hM2, by omega, hF2, rfl, rfl⟩
        rw [wi_lt, ek, e26] at w4
        have c2 : nq_two (rn_k S m) := by unfold nq_two; omega
        obtain ⟨r1, r2⟩ := l3 c2
        have ern := wi_onn (n := nq_r (rn_d S m)) (by omega)
        have f471 : I2 471 m = Int32.ofNat (nq_r (rn_d S m)) := (hF2 _ _ (by omega)).trans e3
        refine ⟨_, wm_t hT rfl, pp_b (c := 800) (by omega) (by omega), ?_⟩
        rw [emn, f471]
        refine ⟨_, wm_t hT rfl, pp_b (c := 800) (by omega) (by omega), (by decide), ?_⟩
        rw [ern]
        exact ⟨2000 + m, by omega, m, _, el, rfl, rfl, rfl, rfl, rfl, rfl, pb_mk_0 (pb_mk_u hk2 r1 (by omega)) (fun _ _ _ => ⟨pb_up_le pb_up_at, fun _ => pb_up_at⟩), pb_mM_u hM2, by omega, fun c j z => by
          rw [wv_u_no _ _ (fun y => z y.1)]
          exact hF2 c j z, rfl, rfl⟩
    rw [if_neg p34] at hP
    by_cases p119 : pc = 119
    · rw [if_pos p119] at hP
      cases hP
      subst p119
      obtain ⟨n, rfl, rfl, rfl, rfl, rfl, rfl, rfl, ⟨⟨t, h75, hK⟩, h9, h8, hF, hG⟩, hn, rfl⟩ := hh
      have enn := wi_onn (n := n) (by omega)
      have enx := wi_on (n := n) (by omega)
      refine ⟨fun w => ?_, fun w => ?_⟩
      · rw [wi_lt, enx, ex] at w
        have e : n = x + 1 := by omega
        subst e
        rw [show x + 1 - lo x = (x - lo x) + 1 by omega, pk_end hi hN hx hr (by omega)] at hK
        obtain ⟨s, k1, k2, k3⟩ := hK
        have k3 : s = 0 := k3
        subst k3
        rw [Nat.zero_add] at k1
        subst k1
        exact h _ _ k2 h75 (h9 x hlx (by omega)) hF hG
      rw [wi_lt, enx, ex] at w
      have el : pb_l18 x (pb_i (n - lo x)) (some (.int (Int32.ofNat n + Int32.ofInt 1))) = pb_l18 x (pb_i (n - lo x)) (pb_i (n + 1)) := by
        rw [wq_4s]
        rfl
      refine ⟨2, _, Or.inl rfl, wm_t hT rfl, pp_b (c := 800) (by omega) (by omega), ?_⟩
      rw [enn, h8 n (by omega)]
      refine ⟨fun w1 => ?_, fun w1 => ?_⟩
      · have w1 : ¬ (lo x ≤ n ∧ n ≤ x) := of_decide_eq_false (wb_i_2.mp (fun z => z w1))
        have e0 : n - lo x = 0 := by omega
        have e1 : n + 1 - lo x = 0 := by omega
        refine ⟨1000 - (n + 1), by omega, n + 1, ?_, rfl, rfl, rfl, rfl, rfl, rfl, ⟨⟨t, h75, ?_⟩, fun y y1 y2 => by omega, h8, hF, hG⟩, by omega, rfl⟩
        · rw [e1, ← e0]
          exact el
        · rw [e1, ← e0]
          exact hK
      have w1 : lo x ≤ n ∧ n ≤ x := of_decide_eq_true (wb_i_1.mp w1)
      obtain ⟨n1, n2⟩ := w1
      refine ⟨_, wm_t hT rfl, pp_b (c := 800) (by omega) (by omega), (by decide), ?_⟩
      rw [enn]
      have ew : Int32.ofNat (n - lo x) + Int32.ofInt 1 = Int32.ofNat (n + 1 - lo x) := by
        rw [wq_4s, show n - lo x + 1 = n + 1 - lo x by omega]
      generalize hI2 : wv_u I1 509 n (Int32.ofNat (n - lo x)) = I2
      have i2 : ∀ c j, ¬ (c = 509 ∧ j = n) → I2 c j = I1 c j := fun c j z => by
        rw [← hI2, wv_u_no _ _ z]
      have i9 : ∀ y, lo x ≤ y → y < n + 1 → I2 509 y = Int32.ofNat (y - lo x) := fun y y1 y2 => by
        by_cases e : y = n
        · subst e
          rw [← hI2, wv_u_at]
        · rw [i2 _ _ (by omega)]
          exact h9 y y1 (by omega)
      have hK2 : pb_K I2 L1 (lo x) U (pk S (lo x) (n - lo x)) t := pb_K_c hK (fun _ _ => ⟨rfl, rfl⟩) (fun y _ => ⟨⟨i2 _ _ (by omega), i2 _ _ (by omega), i2 _ _ (by omega)⟩, rfl, rfl⟩)
      have h752 : I2 460 75 = Int32.ofNat t := (i2 _ _ (by omega)).trans h75
      have XI : pb_X T1 I2 S m0 := ⟨hT, hn5, hm0, fun y hy => rw_pn (hM y hy) (fun c j c1 c2 => (i2 _ _ (by omega)).trans (hF _ _ (by omega) (by omega)))⟩
      obtain ⟨g1, g2⟩ := po_in hi hN x hx hr n n1 n2
      have hpk := pk_ok hi hN hx hr (n - lo x) (by omega)
      rw [show lo x + (n - lo x) = n by omega] at hpk
      obtain ⟨hpk2, hsh⟩ := pk_step hi hN hx hr (show lo x + (n - lo x) = n by omega) n2 hpk
      have hle := ps_le hi hN hU hx hr (show lo x + (n - lo x + 1) ≤ x + 1 by omega)
      have hp1 := pk_1 (S := S) (show lo x + (n - lo x) = n by omega)
      have hUn := hU n (by omega) g1
      have hUn : U n = pb_op S n (U (nq_l (rn_d S n))) (U (nq_r (rn_d S n))) := hUn
      -- the rest of the roots, and where the node's places begin
      obtain ⟨rest, s, hrest, hKr, hin⟩ : ∃ rest s, pk S (lo x) (n - lo x + 1) = n :: rest ∧ pb_K I2 L1 (lo x) U rest s ∧ pb_in S n (n - lo x) (nq_l (rn_d S n) - lo x) (nq_r (rn_d S n) - lo x) s (U (nq_l (rn_d S n))) (U (nq_r (rn_d S n))) I2 L1 := by
        rw [hp1]
        by_cases c60 : rn_k S n = 60
        · rw [if_pos c60]
          exact ⟨_, t, rfl, hK2, fun _ => h752, fun z => (z c60).elim⟩
        · rw [if_neg c60]
          obtain ⟨⟨l1, l2⟩, l3⟩ := po_ch hi hN hx hr n1 n2 c60
          obtain ⟨q1, q2⟩ := hsh c60
          by_cases c2 : 23 ≤ rn_k S n ∧ rn_k S n ≤ 26
          · rw [if_pos c2]
            obtain ⟨r1, r2⟩ := l3 c2
            obtain ⟨l, el⟩ := q1 c2
            rw [el] at hK2 ⊢
            obtain ⟨s1, k1, k2, s2, k3, k4, k5⟩ := hK2
            refine ⟨l, s2, rfl, k5, fun z => (c60 z).elim, fun _ => ⟨i9 _ l1 (by omega), by omega, k4, fun _ => ⟨i9 _ r1 (by omega), by omega, by rw [← k3]; exact k2, by rw [h752]; congr 1; omega⟩, fun z => (z c2).elim⟩⟩
          · rw [if_neg c2]
            obtain ⟨l, el⟩ := q2 c2
            rw [el] at hK2 ⊢
            obtain ⟨s1, k1, k2, k3⟩ := hK2
            exact ⟨l, s1, rfl, k3, fun z => (c60 z).elim, fun _ => ⟨i9 _ l1 (by omega), by omega, k2, fun z => (c2 z).elim, fun _ => by rw [h752, k1]⟩⟩
      have hs := pb_K_ps hKr
      rw [hrest] at hle hpk2
      have hle : np_n (U n) + ps U rest ≤ np_n (U x) := hle
      have hfit : s + np_n (pb_op S n (U (nq_l (rn_d S n))) (U (nq_r (rn_d S n)))) ≤ 63 := by
        rw [← hUn]
        omega
      have hrm : ∀ y, y ∈ rest → lo x ≤ y ∧ y < n := fun y hy => by
        obtain ⟨z1, z2, z3, z4⟩ := hpk2
        have := po_k_m z4 y hy
        omega
      refine ⟨S, m0, n, n - lo x, nq_l (rn_d S n) - lo x, nq_r (rn_d S n) - lo x, s, U (nq_l (rn_d S n)), U (nq_r (rn_d S n)), rfl, XI, by omega, g1, hi.2.1, i9 n n1 (by omega), by omega, hin, hfit, fun c4 => ?_, h42 n (by omega) g1, fun I3 L3 k1 k2 k3 k4 => ?_⟩
      · obtain ⟨w1, w2, w3, w4, w5⟩ := hi.2.1 n (by omega) g1 (by unfold rn_k at c4; omega)
        rw [hU (nq_l (rn_d S n)) (by omega) w1.2]
        exact np_op_60 (w4 c4)
      · rw [← hUn] at k1 k2
        rw [ew]
        refine ⟨1000 - (n + 1), by omega, n + 1, ?_, rfl, rfl, rfl, rfl, rfl, rfl, ⟨⟨s + np_n (U n), k2, ?_⟩, fun y y1 y2 => ?_, fun j hj => ?_, fun c j z1 z2 => ?_, fun c j z => ?_⟩, by omega, rfl⟩
        · unfold pb_l18 pb_i
          rw [← wq_4s n]
          rfl
        · rw [show n + 1 - lo x = n - lo x + 1 by omega, hrest]
          refine ⟨s, rfl, k1, pb_K_c hKr (fun p hp => k4.2 p hp) (fun y hy => ?_)⟩
          obtain ⟨y1, y2⟩ := hrm y hy
          exact ⟨⟨k3 _ _ (by omega) (by omega), k3 _ _ (by omega) (by omega), k3 _ _ (by omega) (by omega)⟩, k4.1 _ _ (by omega) (by omega) (by omega), k4.1 _ _ (by omega) (by omega) (by omega)⟩
        · rw [k3 _ _ (by omega) (by omega)]
          exact i9 y y1 y2
        · rw [k3 _ _ (by omega) (by omega), i2 _ _ (by omega)]
          exact h8 j hj
        · rw [k3 _ _ z2 (by omega), i2 _ _ (by omega)]
          exact hF c j z1 z2
        · rw [k4.1 c j (by omega) (by omega) (by omega)]
          exact hG c j z
    rw [if_neg p119] at hP
    cases hP
