/-! ===== the reference: states of a sequence ===== -/
def rs_M (ss : List rs_X) (I : Nat → Nat → Int32) (L : Nat → Nat → Int64) : Prop := I 460 88 = Int32.ofNat ss.length ∧ ss.length ≤ 320 ∧ ∀ j x, ss[j]? = some x → L 515 j = x.1 ∧ I 516 j = wb_i x.2
/-- the places of a sequence, from place 0 on -/
def rs_U (n : Nat) (U : np_A) (L : Nat → Nat → Int64) : Prop := (∀ p, p < np_n U → (∀ v, v < 64 → nb (L 506 p) v = np_M U p v) ∧ ∀ q, q < 64 → (nb (L 507 p) q = true ↔ q < np_n U ∧ np_B U p q = true)) ∧ (∀ q, q < 64 → (nb (L 512 n) q = true ↔ q < np_n U ∧ np_F U q = true)) ∧ ∀ q, q < 64 → (nb (L 513 n) q = true ↔ q < np_n U ∧ np_L U q = true)
theorem pb_b_z {x : Int64} {n : Nat} {f : Nat → Bool} (h : pb_b x 0 n f) : ∀ q, q < 64 → (nb x q = true ↔ q < n ∧ f q = true) := fun q hq => by
  rw [h q hq, Nat.zero_add, Nat.sub_zero]
  exact ⟨fun z => z.2, fun z => ⟨Nat.zero_le _, z⟩⟩
theorem rs_U_of {I : Nat → Nat → Int32} {L : Nat → Nat → Int64} {n : Nat} {U : np_A} (h : pb_T I L n 0 U) : rs_U n U L := by
  obtain ⟨h1, h2, h3, h4, h5, h6⟩ := h
  refine ⟨fun p hp => ?_, pb_b_z h4, pb_b_z h5⟩
  obtain ⟨g1, g2⟩ := h3 p hp
  rw [Nat.zero_add] at g1 g2
  exact ⟨g1, pb_b_z g2⟩
def rs_l29 (a : Int64) (b : Bool) (j : Nat) : List (Option Value) := [some (.ref 460), some (.long a), none, some (.int (wb_i b)), some (.int (Int32.ofNat j)), none, none, none, none]
def rs_h429 (a : Int64) (b : Bool) (ss : List rs_X) (T : wv_T) (N : Nat) (I : Nat → Nat → Int32) (L : Nat → Nat → Int64) (R : Nat → Nat → Option Nat) : Nat → Option (Nat → wv_P) := fun pc =>
  if pc = 3 then some (fun mm lv st T1 N1 I1 L1 R1 nc ns => ∃ j : Nat, lv = rs_l29 a b j ∧ st = [] ∧ T1 = T ∧ N1 = N ∧ R1 = R ∧ nc = 0 ∧ ns = 0 ∧ I1 = I ∧ L1 = L ∧ j ≤ ss.length ∧ (∀ i, i < j → ¬ ss[i]? = some (a, b)) ∧ mm = ss.length - j)
  else none
theorem wb_i_inj {a b : Bool} (h : wb_i a = wb_i b) : a = b := by
  cases a <;> cases b
  · rfl
  · exact absurd h (by decide)
  · exact absurd h (by decide)
  · rfl
def rs_c429 : wv_c1 := fun as T N I L R q => ∃ (a : Int64) (b : Bool) (ss : List rs_X), as = [.ref 460, .long a, .int (wb_i b)] ∧ wm_T T ∧ rs_M ss I L ∧ (¬ (a, b) ∈ ss → ss.length < 320) ∧ (∀ j, ss[j]? = some (a, b) → q (.inl (some (.int (Int32.ofNat j)))) T N I L R 0 0) ∧ (¬ (a, b) ∈ ss → q (.inl (some (.int (Int32.ofNat ss.length)))) T N (wv_u (wv_u I 516 ss.length (wb_i b)) 460 88 (Int32.ofNat (ss.length + 1))) (wv_u L 515 ss.length a) R 0 0)
set_option maxRecDepth 100000 in
theorem wM_429 : ∃ cb ci np, pt_mt 429 = some (32, cb, 5, false, some .int, ci, np) := ⟨_, _, _, rfl⟩
set_option maxRecDepth 100000 in
set_option maxHeartbeats 4000000 in
theorem rs_stateOf {sc : pt_Sc} {d : Nat} : wv_C wm_fx sc (d + 1) 429 rs_c429 := by
  rintro as T N I L R q ⟨a, b, ss, rfl, hT, ⟨s1, s2, s3⟩, hx, h1, h2⟩ w0 HR
  obtain ⟨cb, ci, np, hm⟩ := wM_429
  refine wv_meth (hh := none) rfl (sp := fun _ _ _ _ _ _ _ _ => False) (hd := rs_h429 a b ss T N I L R) (n := 300) (n1 := 300) hm zc_429 rfl (fun k as T N I L R q h => by cases h) ?_ ?_ HR
  · exact ⟨_, 0, rfl, rfl, rfl, rfl, rfl, rfl, rfl, rfl, rfl, Nat.zero_le _, fun i hi => by omega, rfl⟩
  · intro pc P hP m lv st T1 N1 I1 L1 R1 nc ns hh
    unfold rs_h429 at hP
    by_cases p3 : pc = 3
    · rw [if_pos p3] at hP
      cases hP
      subst p3
      obtain ⟨j, rfl, rfl, rfl, rfl, rfl, rfl, rfl, rfl, rfl, hj, hn, rfl⟩ := hh
      have ej := wi_on (n := j) (by omega)
      have ejn := wi_onn (n := j) (by omega)
      have el := wi_on (n := ss.length) (by omega)
      have eln := wi_onn (n := ss.length) (by omega)
      refine ⟨fun w => ?_, fun w => ?_⟩
      · rw [s1, wi_le, el, ej] at w
        have e : j = ss.length := by omega
        subst e
        have hno : ¬ (a, b) ∈ ss := fun z => by
          obtain ⟨i, hi⟩ := List.mem_iff_getElem?.mp z
          exact hn i (List.getElem?_eq_some_iff.mp hi).1 hi
        have hlt := hx hno
        refine ⟨_, wm_t hT rfl, by rw [s1]; exact pp_b (c := 320) hlt (by omega), by decide, ?_⟩
        rw [s1, eln]
        refine ⟨_, wm_t hT rfl, by rw [s1]; exact pp_b (c := 320) hlt (by omega), by decide, ?_⟩
        rw [s1, eln]
        have ev : vp_nar .boolean (wb_i b) = wb_i b := by cases b <;> rfl
        rw [ev]
        have e1 : Int32.ofNat ss.length + Int32.ofInt 1 = Int32.ofNat (ss.length + 1) := wq_4s ss.length
        have e88 : wv_u I1 516 ss.length (wb_i b) 460 88 = Int32.ofNat ss.length := by
          rw [wv_u_no _ _ (by omega)]
          exact s1
        show q (.inl (some (.int (wv_u (wv_u I1 516 ss.length (wb_i b)) 460 88 (wv_u I1 516 ss.length (wb_i b) 460 88 + Int32.ofInt 1) 460 88 - Int32.ofInt 1)))) _ _ (wv_u (wv_u I1 516 ss.length (wb_i b)) 460 88 (wv_u I1 516 ss.length (wb_i b) 460 88 + Int32.ofInt 1)) (wv_u L1 515 ss.length a) _ 0 0
        rw [e88, e1, wv_u_at, ← e1, Int32.add_sub_cancel, e1]
        exact h2 hno
      · rw [s1, wi_le, el, ej] at w
        have hjl : j < ss.length := by omega
        obtain ⟨x, hxj⟩ : ∃ x, ss[j]? = some x := ⟨_, List.getElem?_eq_getElem hjl⟩
        obtain ⟨x1, x2⟩ := s3 j x hxj
        have step : ¬ x = (a, b) → ∃ m', m' < ss.length - j ∧ ∃ j2 : Nat, [some (Value.ref 460), some (.long a), none, some (.int (wb_i b)), some (.int (Int32.ofNat j + Int32.ofInt 1)), none, none, none, none] = rs_l29 a b j2 ∧ ([] : List Value) = [] ∧ T1 = T1 ∧ N1 = N1 ∧ R1 = R1 ∧ (0 : Nat) = 0 ∧ (0 : Nat) = 0 ∧ I1 = I1 ∧ L1 = L1 ∧ j2 ≤ ss.length ∧ (∀ i, i < j2 → ¬ ss[i]? = some (a, b)) ∧ m' = ss.length - j2 := fun z => ⟨ss.length - (j + 1), by omega, j + 1, by rw [wq_4s]; rfl, rfl, rfl, rfl, rfl, rfl, rfl, rfl, rfl, by omega, fun i hi => by
          by_cases e : i = j
          · subst e
            rw [hxj]
            exact fun y => z (Option.some.inj y)
          · exact hn i (by omega), rfl⟩
        refine ⟨_, wm_t hT rfl, pp_b (c := 320) (by omega) (by omega), ?_⟩
        rw [ejn, x1]
        refine ⟨fun w1 => ?_, fun w1 => ?_⟩
        · have w1 : ¬ lg_cmp x.1 a = 0 := w1
          rw [lg_cmp_0] at w1
          exact step (fun y => w1 (by rw [y]))
        have w1 : x.1 = a := lg_cmp_0.mp (Decidable.not_not.mp w1)
        refine ⟨2, _, Or.inl rfl, wm_t hT rfl, pp_b (c := 320) (by omega) (by omega), ?_⟩
        rw [ejn, x2]
        refine ⟨fun w2 => ?_, fun w2 => ?_⟩
        · exact step (fun y => w2 (by rw [y]))
        · have w2 : x.2 = b := wb_i_inj (Decidable.not_not.mp w2)
          exact h1 j (by rw [hxj, ← w1, ← w2])
    rw [if_neg p3] at hP
    cases hP
def rs_FI (I I1 : Nat → Nat → Int32) : Prop := ∀ c j, ¬ c = 516 → ¬ c = 517 → ¬ (c = 460 ∧ j = 88) → I1 c j = I c j
def rs_FL (L L1 : Nat → Nat → Int64) : Prop := ∀ c j, ¬ c = 515 → L1 c j = L c j
def rs_tb (ss : List rs_X) (tb : Nat → Nat → Nat) (a i : Nat) (I : Nat → Nat → Int32) : Prop := ∀ c v, kx_b a i c v → v < 64 → c < ss.length → I 517 (64 * c + v) = Int32.ofNat (tb c v)
def rs_l28 (n k : Nat) (x4 x5 x7 x8 : Option Value) : List (Option Value) := [some (.ref 460), some (.int (Int32.ofNat n)), some (.int (Int32.ofNat 0)), some (.int (Int32.ofNat k)), x4, x5, none, x7, x8, none, none]
/-- what has come of places below m -/
def rs_pa (U : np_A) (x : rs_X) (v m : Nat) (co : Int64) (b : Bool) : Prop := (∀ q, q < 64 → (nb co q = true ↔ ∃ p, p < m ∧ nb x.1 p = true ∧ np_M U p v = true ∧ q < np_n U ∧ np_B U p q = true)) ∧ (b = true ↔ ∃ p, p < m ∧ nb x.1 p = true ∧ np_M U p v = true ∧ np_L U p = true)
theorem rs_pa_n {U : np_A} {x : rs_X} {v m : Nat} {co : Int64} {b : Bool} (h : rs_pa U x v m co b) (hn : ¬ (nb x.1 m = true ∧ np_M U m v = true)) : rs_pa U x v (m + 1) co b := by
  refine ⟨fun q hq => (h.1 q hq).trans ⟨?_, ?_⟩, h.2.trans ⟨?_, ?_⟩⟩
  · rintro ⟨p, p1, p2⟩
    exact ⟨p, by omega, p2⟩
  · rintro ⟨p, p1, p2, p3, p4⟩
    by_cases e : p = m
    · subst e
      exact (hn ⟨p2, p3⟩).elim
    · exact ⟨p, by omega, p2, p3, p4⟩
  · rintro ⟨p, p1, p2⟩
    exact ⟨p, by omega, p2⟩
  · rintro ⟨p, p1, p2, p3, p4⟩
    by_cases e : p = m
    · subst e
      exact (hn ⟨p2, p3⟩).elim
    · exact ⟨p, by omega, p2, p3, p4⟩
theorem rs_pa_y {U : np_A} {x : rs_X} {v m : Nat} {co be : Int64} {b b2 : Bool} (h : rs_pa U x v m co b) (h1 : nb x.1 m = true) (h2 : np_M U m v = true) (hb : ∀ q, q < 64 → (nb be q = true ↔ q < np_n U ∧ np_B U m q = true)) (e2 : b2 = true ↔ b = true ∨ np_L U m = true) : rs_pa U x v (m + 1) (co ||| be) b2 := by
  refine ⟨fun q hq => ?_, e2.trans ?_⟩
  · rw [nb_or, Bool.or_eq_true, h.1 q hq, hb q hq]
    constructor
    · rintro (⟨p, p1, p2⟩ | ⟨p1, p2⟩)
      · exact ⟨p, by omega, p2⟩
      · exact ⟨m, by omega, h1, h2, p1, p2⟩
    · rintro ⟨p, p1, p2, p3, p4⟩
      by_cases e : p = m
      · subst e
        exact Or.inr p4
      · exact Or.inl ⟨p, by omega, p2, p3, p4⟩
  · rw [h.2]
    constructor
    · rintro (⟨p, p1, p2⟩ | p1)
      · exact ⟨p, by omega, p2⟩
      · exact ⟨m, by omega, h1, h2, p1⟩
    · rintro ⟨p, p1, p2, p3, p4⟩
      by_cases e : p = m
      · subst e
        exact Or.inr p4
      · exact Or.inl ⟨p, by omega, p2, p3, p4⟩
def rs_Q (U : np_A) (cl : Nat → Nat) (Al : Nat → Prop) (ss : List rs_X) (tb : Nat → Nat → Nat) (a i : Nat) (I : Nat → Nat → Int32) (L : Nat → Nat → Int64) (I1 : Nat → Nat → Int32) (L1 : Nat → Nat → Int64) : Prop := gx (rs_0 U) (rs_ev U cl Al) (rs_nx U) ss tb a i ∧ rs_M ss I1 L1 ∧ rs_tb ss tb a i I1 ∧ rs_FI I I1 ∧ rs_FL L L1
def rs_h428 (U : np_A) (cl : Nat → Nat) (Al : Nat → Prop) (n : Nat) (T : wv_T) (N : Nat) (I : Nat → Nat → Int32) (L : Nat → Nat → Int64) (R : Nat → Nat → Option Nat) : Nat → Option (Nat → wv_P) := fun pc =>
  if pc = 24 then some (fun mm lv st T1 N1 I1 L1 R1 nc ns => ∃ (k : Nat) (ss : List rs_X) (tb : Nat → Nat → Nat) (x4 x5 x7 x8 : Option Value), lv = rs_l28 n k x4 x5 x7 x8 ∧ st = [] ∧ T1 = T ∧ N1 = N ∧ R1 = R ∧ nc = 0 ∧ ns = 0 ∧ rs_Q U cl Al ss tb k 0 I L I1 L1 ∧ mm = 100000 * (400 - k) + 99999)
  else if pc = 35 then some (fun mm lv st T1 N1 I1 L1 R1 nc ns => ∃ (k v : Nat) (ss : List rs_X) (tb : Nat → Nat → Nat) (x5 x7 x8 : Option Value), lv = rs_l28 n k (pb_i v) x5 x7 x8 ∧ st = [] ∧ T1 = T ∧ N1 = N ∧ R1 = R ∧ nc = 0 ∧ ns = 0 ∧ rs_Q U cl Al ss tb k v I L I1 L1 ∧ k < ss.length ∧ v ≤ 64 ∧ mm = 100000 * (400 - k) + 1000 * (64 - v) + 999)
  else if pc = 51 then some (fun mm lv st T1 N1 I1 L1 R1 nc ns => ∃ (k v m : Nat) (ss : List rs_X) (tb : Nat → Nat → Nat) (x : rs_X) (co : Int64) (b : Bool), lv = rs_l28 n k (pb_i v) (some (.long co)) (some (.int (wb_i b))) (pb_i m) ∧ st = [] ∧ T1 = T ∧ N1 = N ∧ R1 = R ∧ nc = 0 ∧ ns = 0 ∧ rs_Q U cl Al ss tb k v I L I1 L1 ∧ k < ss.length ∧ v < 64 ∧ ss[k]? = some x ∧ m ≤ np_n U ∧ rs_pa U x v m co b ∧ mm = 100000 * (400 - k) + 1000 * (64 - v) + 2 * (64 - m) + 1)
  else if pc = 125 then some (fun mm lv st T1 N1 I1 L1 R1 nc ns => ∃ (k v m : Nat) (ss : List rs_X) (tb : Nat → Nat → Nat) (x : rs_X) (co : Int64) (b b2 : Bool), lv = rs_l28 n k (pb_i v) (some (.long co)) (some (.int (wb_i b))) (pb_i m) ∧ st = [.int (wb_i b2)] ∧ T1 = T ∧ N1 = N ∧ R1 = R ∧ nc = 0 ∧ ns = 0 ∧ rs_Q U cl Al ss tb k v I L I1 L1 ∧ k < ss.length ∧ v < 64 ∧ ss[k]? = some x ∧ m < np_n U ∧ rs_pa U x v (m + 1) co b2 ∧ mm = 100000 * (400 - k) + 1000 * (64 - v) + 2 * (64 - m))
  else none
def rs_c428 : wv_c1 := fun as T N I L R q => ∃ (U : np_A) (cl : Nat → Nat) (Al : Nat → Prop) (n : Nat), as = [.ref 460, .int (Int32.ofNat n)] ∧ wm_T T ∧ n < 200 ∧ pb_T I L n 0 U ∧ I 460 75 = Int32.ofNat (np_n U) ∧ np_n U ≤ 60 ∧ rs_cc U cl Al ∧ ∀ ss tb I1 L1, gx (rs_0 U) (rs_ev U cl Al) (rs_nx U) ss tb ss.length 0 → rs_M ss I1 L1 → ss.length ≤ 65 → (∀ c v, c < ss.length → v < 64 → I1 517 (64 * c + v) = Int32.ofNat (tb c v)) → rs_FI I I1 → rs_FL L L1 → q (.inl none) T N I1 L1 R 0 0
theorem rs_len {U : np_A} {cl : Nat → Nat} {Al : Nat → Prop} {ss : List rs_X} {tb : Nat → Nat → Nat} {a i : Nat} (hc : rs_cc U cl Al) (h : gx (rs_0 U) (rs_ev U cl Al) (rs_nx U) ss tb a i) : ss.length ≤ 65 := rs_few hc h.2.1 h.2.2.1
theorem rs_M_new {ss : List rs_X} {I : Nat → Nat → Int32} {L : Nat → Nat → Int64} {a : Int64} {b : Bool} (h : rs_M ss I L) (hl : ss.length < 320) : rs_M (ss ++ [(a, b)]) (wv_u (wv_u I 516 ss.length (wb_i b)) 460 88 (Int32.ofNat (ss.length + 1))) (wv_u L 515 ss.length a) := by
  have hlen : (ss ++ [(a, b)]).length = ss.length + 1 := List.length_append
  refine ⟨by rw [wv_u_at, hlen], by omega, fun j x hx => ?_⟩
  by_cases e : j = ss.length
  · subst e
    rw [List.getElem?_append_right (Nat.le_refl _), Nat.sub_self] at hx
    have hx : some (a, b) = some x := hx
    cases hx
    rw [wv_u_at, wv_u_no _ _ (by omega), wv_u_at]
    exact ⟨rfl, rfl⟩
  · have hj : j < ss.length := by
      have := (List.getElem?_eq_some_iff.mp hx).1
      omega
    rw [List.getElem?_append_left hj] at hx
    rw [wv_u_no _ _ (by omega), wv_u_no _ _ (by omega), wv_u_no _ _ (by omega)]
    exact h.2.2 j x hx
theorem rs_64 (k v : Nat) : (Int8.ofInt 64).toInt32 * Int32.ofNat k + Int32.ofNat v = Int32.ofNat (64 * k + v) := by
  rw [show (Int8.ofInt 64).toInt32 = Int32.ofNat 64 from rfl, ← Int32.ofNat_mul, wi_ona]
set_option maxRecDepth 100000 in
theorem wM_428 : ∃ cb ci np, pt_mt 428 = some (32, cb, 9, false, none, ci, np) := ⟨_, _, _, rfl⟩
set_option maxRecDepth 100000 in
set_option maxHeartbeats 4000000 in
theorem rs_allStates {sc : pt_Sc} {d : Nat} : wv_C wm_fx sc (d + 1 + 1) 428 rs_c428 := by
  rintro as T N I L R q ⟨U, cl, Al, n, rfl, hT, hn, hA, h75, h60, hc, h⟩ w0 HR
  obtain ⟨cb, ci, np, hm⟩ := wM_428
  have hc423 : wv_C wm_fx sc (d + 1) 423 pb_c423 := wv_C_deep (by omega) (pb_hasBit (d := d))
  have hc429 : wv_C wm_fx sc (d + 1) 429 rs_c429 := wv_C_deep (by omega) (rs_stateOf (d := d))
  refine wv_meth (hh := none) rfl (sp := wv_sp [(423, pb_c423), (429, rs_c429)]) (hd := rs_h428 U cl Al n T N I L R) (n := 300) (n1 := 300) hm zc_428 rfl (wv_sp_ok (fun q hq => by
    rcases List.mem_cons.mp hq with h | h
    · rw [h]; exact hc423
    rw [List.mem_singleton.mp h]; exact hc429)) ?_ ?_ HR
  · have hU := rs_U_of hA
    obtain ⟨u1, u2, u3⟩ := hU
    have enn := wi_onn (n := n) (by omega)

    refine ⟨_, wm_t hT rfl, pp_b (c := 200) (by omega) (by omega), ?_⟩
    refine ⟨2, _, Or.inl rfl, wm_t hT rfl, pp_b (c := 200) (by omega) (by omega), ?_⟩
    rw [enn, wv_u_no _ _ (by omega), hA.2.2.2.2.2]
    have h0 : rs_M [] (wv_u I 460 88 (Int32.ofInt 0)) L := ⟨wv_u_at _ _ _ _, by decide, fun j x hx => by simp at hx⟩
    refine ⟨L 512 n, np_e U, [], rfl, hT, h0, fun _ => by decide, fun j hj => by simp at hj, fun _ => ?_⟩
    have hs0 : rs_0 U (L 512 n, np_e U) := ⟨u2, rfl⟩
    have hM := rs_M_new (a := L 512 n) (b := np_e U) h0 (by decide)
    refine ⟨100000 * (400 - 0) + 99999, 0, [(L 512 n, np_e U)], fun _ _ => 0, none, none, none, none, rfl, rfl, rfl, rfl, rfl, rfl, rfl, ⟨gx_0 hs0 (rs_ev_0 hc hs0), hM, fun c v hb => ?_, fun c j z1 z2 z3 => ?_, fun c j z => ?_⟩, rfl⟩
    · unfold kx_b at hb
      omega
    · rw [wv_u_no _ _ z3, wv_u_no _ _ (by omega), wv_u_no _ _ z3]
    · rw [wv_u_no _ _ (by omega)]
  · intro pc P hP m lv st T1 N1 I1 L1 R1 nc ns hh
    have hU := rs_U_of hA
    obtain ⟨u1, u2, u3⟩ := hU
    have enn := wi_onn (n := n) (by omega)

    have e64 : ((Int8.ofInt 64).toInt32).toInt = 64 := rfl
    unfold rs_h428 at hP
    by_cases p24 : pc = 24
    · rw [if_pos p24] at hP
      cases hP
      subst p24
      obtain ⟨k, ss, tb, x4, x5, x7, x8, rfl, rfl, rfl, rfl, rfl, rfl, rfl, ⟨q1, q2, q3, q4, q5⟩, rfl⟩ := hh
      have hl := rs_len hc q1
      have hk := q1.2.2.2.1
      have ek := wi_on (n := k) (by omega)
      have el := wi_on (n := ss.length) (by omega)
      refine ⟨fun w => ?_, fun w => ?_⟩
      · rw [q2.1, wi_le, el, ek] at w
        have e : k = ss.length := by omega
        subst e
        exact h ss tb _ _ q1 q2 hl (fun c v hc1 hv => q3 c v (Or.inl hc1) hv hc1) q4 q5
      · rw [q2.1, wi_le, el, ek] at w
        exact ⟨100000 * (400 - k) + 1000 * (64 - 0) + 999, by omega, k, 0, ss, tb, _, _, _, rfl, rfl, rfl, rfl, rfl, rfl, rfl, ⟨q1, q2, q3, q4, q5⟩, by omega, Nat.zero_le _, rfl⟩
    rw [if_neg p24] at hP
    by_cases p35 : pc = 35
    · rw [if_pos p35] at hP
      cases hP
      subst p35
      obtain ⟨k, v, ss, tb, x5, x7, x8, rfl, rfl, rfl, rfl, rfl, rfl, rfl, ⟨q1, q2, q3, q4, q5⟩, hk, hv, rfl⟩ := hh
      have hl := rs_len hc q1
      have ev := wi_on (n := v) (by omega)
      refine ⟨fun w => ?_, fun w => ?_⟩
      · rw [wi_le, e64, ev] at w
        have e : v = 64 := by omega
        subst e
        refine ⟨100000 * (400 - (k + 1)) + 99999, by omega, k + 1, ss, tb, pb_i 64, x5, x7, x8, ?_, rfl, rfl, rfl, rfl, rfl, rfl, ⟨gx_row q1 hk, q2, fun c v hb hv2 hc2 => q3 c v ?_ hv2 hc2, q4, q5⟩, rfl⟩
        · unfold rs_l28
          rw [← wq_4s k]
          rfl
        · unfold kx_b at *
          omega
      · rw [wi_le, e64, ev] at w
        obtain ⟨x, hx⟩ : ∃ x, ss[k]? = some x := ⟨_, List.getElem?_eq_getElem hk⟩
        exact ⟨100000 * (400 - k) + 1000 * (64 - v) + 2 * (64 - 0) + 1, by omega, k, v, 0, ss, tb, x, 0, false, rfl, rfl, rfl, rfl, rfl, rfl, rfl, ⟨q1, q2, q3, q4, q5⟩, hk, by omega, hx, Nat.zero_le _, ⟨fun q2 hq2 => by
          rw [nb_0]
          exact ⟨fun z => (by cases z), fun ⟨p, p1, _⟩ => by omega⟩, ⟨fun z => (by cases z), fun ⟨p, p1, _⟩ => by omega⟩⟩, rfl⟩
    rw [if_neg p35] at hP
    by_cases p51 : pc = 51
    · rw [if_pos p51] at hP
      cases hP
      subst p51
      obtain ⟨k, v, m, ss, tb, x, co, b, rfl, rfl, rfl, rfl, rfl, rfl, rfl, ⟨q1, q2, q3, q4, q5⟩, hk, hv, hx, hm, hpa, rfl⟩ := hh
      have hl := rs_len hc q1
      have em := wi_on (n := m) (by omega)
      have emn := wi_onn (n := m) (by omega)
      have ekn := wi_onn (n := k) (by omega)
      have eu := wi_on (n := np_n U) (by omega)
      have i75 : I1 460 75 = Int32.ofNat (np_n U) := (q4 _ _ (by omega) (by omega) (by omega)).trans h75
      refine ⟨fun w => ?_, fun w => ?_⟩
      · rw [i75, wi_le, eu, em] at w
        have e : m = np_n U := by omega
        subst e
        have hnx : rs_nx U x v (co, b) := hpa
        have hbk : ∀ c w2, kx_b k (v + 1) c w2 → ¬ (c = k ∧ w2 = v) → kx_b k v c w2 := fun c w2 hb hne => by
          unfold kx_b at *
          omega
        have ex64 := rs_64 k v
        have exn := wi_onn (n := 64 * k + v) (by omega)
        have el : ∀ (c4 : Option Value), rs_l28 n k (some (.int (Int32.ofNat v + Int32.ofInt 1))) (some (.long co)) (some (.int (wb_i b))) c4 = rs_l28 n k (pb_i (v + 1)) (some (.long co)) (some (.int (wb_i b))) c4 := fun c4 => by
          rw [wq_4s]
          rfl
        refine ⟨co, b, ss, rfl, hT, q2, fun hno => ?_, fun j hj => ?_, fun hno => ?_⟩
        · omega
        · have hjl := (List.getElem?_eq_some_iff.mp hj).1
          refine ⟨_, wm_t hT rfl, by rw [ex64]; exact pp_b (c := 20480) (by omega) (by omega), by decide, ?_⟩
          rw [ex64, exn]
          refine ⟨100000 * (400 - k) + 1000 * (64 - (v + 1)) + 999, by omega, k, v + 1, ss, kx_u tb k v j, _, _, _, el _, rfl, rfl, rfl, rfl, rfl, rfl, ⟨gx_old q1 hx hj hnx, ⟨?_, q2.2.1, fun i y hy => ?_⟩, fun c w2 hb hw2 hc2 => ?_, fun c i z1 z2 z3 => ?_, q5⟩, hk, by omega, rfl⟩
          · rw [wv_u_no _ _ (by omega)]
            exact q2.1
          · rw [wv_u_no _ _ (by omega)]
            exact q2.2.2 i y hy
          · by_cases e : c = k ∧ w2 = v
            · obtain ⟨rfl, rfl⟩ := e
              rw [wv_u_at, kx_u_at]
            · rw [wv_u_no _ _ (by omega), kx_u_no e]
              exact q3 c w2 (hbk c w2 hb e) hw2 hc2
          · rw [wv_u_no _ _ (by omega)]
            exact q4 c i z1 z2 z3
        · have hev := rs_ev_nx hc (by omega) (q1.2.2.1 x (List.mem_iff_getElem?.mpr ⟨k, hx⟩)) hnx
          have hM2 := rs_M_new (a := co) (b := b) q2 (by omega)
          have hlen : (ss ++ [((co, b) : rs_X)]).length = ss.length + 1 := List.length_append
          have hg := gx_new q1 hv hx hno hnx hev
          have hl2 := rs_len hc hg
          refine ⟨_, wm_t hT rfl, by rw [ex64]; exact pp_b (c := 20480) (by omega) (by omega), by decide, ?_⟩
          rw [ex64, exn]
          refine ⟨100000 * (400 - k) + 1000 * (64 - (v + 1)) + 999, by omega, k, v + 1, ss ++ [(co, b)], kx_u tb k v ss.length, _, _, _, el _, rfl, rfl, rfl, rfl, rfl, rfl, ⟨hg, ⟨?_, hM2.2.1, fun i y hy => ?_⟩, fun c w2 hb hw2 hc2 => ?_, fun c i z1 z2 z3 => ?_, fun c i z => ?_⟩, by omega, by omega, rfl⟩
          · rw [wv_u_no _ _ (by omega)]
            exact hM2.1
          · refine ⟨(hM2.2.2 i y hy).1, ?_⟩
            rw [wv_u_no _ _ (by omega)]
            exact (hM2.2.2 i y hy).2
          · by_cases e : c = k ∧ w2 = v
            · obtain ⟨rfl, rfl⟩ := e
              rw [wv_u_at, kx_u_at]
            · rw [wv_u_no _ _ (by omega), kx_u_no e, wv_u_no _ _ (by omega), wv_u_no _ _ (by omega)]
              refine q3 c w2 (hbk c w2 hb e) hw2 ?_
              unfold kx_b at hb
              omega
          · rw [wv_u_no _ _ (by omega), wv_u_no _ _ z3, wv_u_no _ _ (by omega)]
            exact q4 c i z1 z2 z3
          · rw [wv_u_no _ _ (by omega)]
            exact q5 c i z
      · rw [i75, wi_le, eu, em] at w
        have hmU : m < np_n U := by omega
        obtain ⟨m1, m2⟩ := u1 m hmU
        have l515 := (q2.2.2 k x hx).1
        have l506 : L1 506 m = L 506 m := q5 _ _ (by omega)
        have l507 : L1 507 m = L 507 m := q5 _ _ (by omega)
        have l513 : L1 513 n = L 513 n := q5 _ _ (by omega)
        have el : ∀ (co2 : Int64) (b2 : Bool), rs_l28 n k (pb_i v) (some (.long co2)) (some (.int (wb_i b2))) (some (.int (Int32.ofNat m + Int32.ofInt 1))) = rs_l28 n k (pb_i v) (some (.long co2)) (some (.int (wb_i b2))) (pb_i (m + 1)) := fun co2 b2 => by
          rw [wq_4s]
          rfl
        refine ⟨_, wm_t hT rfl, pp_b (c := 320) (by omega) (by omega), ?_⟩
        rw [ekn, l515]
        refine ⟨x.1, m, rfl, by omega, ?_⟩
        refine ⟨fun w1 => ?_, fun w1 => ?_⟩
        · have w1 : nb x.1 m = false := wb_i_2.mp (fun z => z w1)
          exact ⟨100000 * (400 - k) + 1000 * (64 - v) + 2 * (64 - (m + 1)) + 1, by omega, k, v, m + 1, ss, tb, x, co, b, el _ _, rfl, rfl, rfl, rfl, rfl, rfl, ⟨q1, q2, q3, q4, q5⟩, hk, hv, hx, by omega, rs_pa_n hpa (fun z => by rw [w1] at z; cases z.1), rfl⟩
        have w1 : nb x.1 m = true := wb_i_1.mp w1
        refine ⟨_, wm_t hT rfl, pp_b (c := 64) (by omega) (by omega), ?_⟩
        rw [emn, l506]
        refine ⟨L 506 m, v, rfl, by omega, ?_⟩
        rw [m1 v hv]
        refine ⟨fun w2 => ?_, fun w2 => ?_⟩
        · have w2 : np_M U m v = false := wb_i_2.mp (fun z => z w2)
          exact ⟨100000 * (400 - k) + 1000 * (64 - v) + 2 * (64 - (m + 1)) + 1, by omega, k, v, m + 1, ss, tb, x, co, b, el _ _, rfl, rfl, rfl, rfl, rfl, rfl, ⟨q1, q2, q3, q4, q5⟩, hk, hv, hx, by omega, rs_pa_n hpa (fun z => by rw [w2] at z; cases z.2), rfl⟩
        have w2 : np_M U m v = true := wb_i_1.mp w2
        refine ⟨_, wm_t hT rfl, pp_b (c := 64) (by omega) (by omega), ?_⟩
        rw [emn, l507]
        refine ⟨fun w3 => ?_, fun w3 => ?_⟩
        · have w3 : b = true := wb_i_1.mp w3
          exact ⟨100000 * (400 - k) + 1000 * (64 - v) + 2 * (64 - m), by omega, k, v, m, ss, tb, x, co ||| L 507 m, b, true, rfl, rfl, rfl, rfl, rfl, rfl, rfl, ⟨q1, q2, q3, q4, q5⟩, hk, hv, hx, hmU, rs_pa_y hpa w1 w2 m2 ⟨fun _ => Or.inl w3, fun _ => rfl⟩, rfl⟩
        have w3 : b = false := wb_i_2.mp w3
        have hL : nb (L 513 n) m = np_L U m := by
          rw [Bool.eq_iff_iff, u3 m (by omega)]
          exact ⟨fun z => z.2, fun z => ⟨hmU, z⟩⟩
        refine ⟨_, wm_t hT rfl, pp_b (c := 200) (by omega) (by omega), ?_⟩
        rw [enn, l513]
        refine ⟨L 513 n, m, rfl, by omega, ?_⟩
        rw [hL]
        refine ⟨fun w4 => ?_, fun w4 => ?_⟩
        · have w4 : np_L U m = false := wb_i_2.mp (fun z => z w4)
          exact ⟨100000 * (400 - k) + 1000 * (64 - v) + 2 * (64 - m), by omega, k, v, m, ss, tb, x, co ||| L 507 m, b, false, rfl, rfl, rfl, rfl, rfl, rfl, rfl, ⟨q1, q2, q3, q4, q5⟩, hk, hv, hx, hmU, rs_pa_y hpa w1 w2 m2 ⟨fun z => (by cases z), fun z => by rw [w3, w4] at z; rcases z with z | z <;> cases z⟩, rfl⟩
        · have w4 : np_L U m = true := wb_i_1.mp w4
          exact ⟨100000 * (400 - k) + 1000 * (64 - v) + 2 * (64 - m), by omega, k, v, m, ss, tb, x, co ||| L 507 m, b, true, rfl, rfl, rfl, rfl, rfl, rfl, rfl, ⟨q1, q2, q3, q4, q5⟩, hk, hv, hx, hmU, rs_pa_y hpa w1 w2 m2 ⟨fun _ => Or.inr w4, fun _ => rfl⟩, rfl⟩
    rw [if_neg p51] at hP
    by_cases p125 : pc = 125
    · rw [if_pos p125] at hP
      cases hP
      subst p125
      obtain ⟨k, v, m, ss, tb, x, co, b, b2, rfl, rfl, rfl, rfl, rfl, rfl, rfl, hQ, hk, hv, hx, hm, hpa, rfl⟩ := hh
      refine ⟨100000 * (400 - k) + 1000 * (64 - v) + 2 * (64 - (m + 1)) + 1, by omega, k, v, m + 1, ss, tb, x, co, b2, ?_, rfl, rfl, rfl, rfl, rfl, rfl, hQ, hk, hv, hx, by omega, hpa, rfl⟩
      unfold rs_l28 pb_i
      rw [← wq_4s m]
      rfl
    rw [if_neg p125] at hP
    cases hP
