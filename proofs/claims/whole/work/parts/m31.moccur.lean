/-! ===== the reference: places that count a condition ===== -/
def pb_l27 (n c m : Nat) (wb : Bool) (x en : Int64) (x9 x10 x11 x12 : Option Value) : List (Option Value) := [some (.ref 460), some (.int (Int32.ofNat n)), some (.int (Int32.ofNat c)), some (.int (Int32.ofNat m)), some (.int (wb_i wb)), some (.long x), none, some (.long en), none, x9, x10, x11, x12, none, none, none, none, none, none]
def pb_q1 (L : Nat → Nat → Int64) (u : Nat) (x : Int64) : Nat → Nat → Int64 := wv_u (wv_u (wv_u L 506 u (x ^^^ (-1))) 507 u 0) 507 u (pb_one u)
def pb_q2 (L : Nat → Nat → Int64) (u v : Nat) (x : Int64) : Nat → Nat → Int64 := wv_u (wv_u (wv_u (wv_u (wv_u L 506 u (x ^^^ (-1))) 507 u 0) 506 v x) 507 v 0) 507 u (pb_one u ||| pb_one v)
theorem pb_q1_l {L : Nat → Nat → Int64} {u : Nat} {x : Int64} : (∀ j, j < u → pb_q1 L u x 506 j = L 506 j ∧ pb_q1 L u x 507 j = L 507 j) ∧ (pb_q1 L u x 506 u = x ^^^ (-1) ∧ pb_q1 L u x 507 u = pb_one u) ∧ ∀ c j, ¬ c = 506 → ¬ c = 507 → pb_q1 L u x c j = L c j := by
  unfold pb_q1
  refine ⟨fun j hj => ?_, ?_, fun c j z1 z2 => ?_⟩
  · rw [wv_u_no _ _ (by omega), wv_u_no _ _ (by omega), wv_u_no _ _ (by omega), wv_u_no _ _ (by omega), wv_u_no _ _ (by omega), wv_u_no _ _ (by omega)]
    exact ⟨rfl, rfl⟩
  · rw [wv_u_at, wv_u_no _ _ (by omega), wv_u_no _ _ (by omega), wv_u_at]
    exact ⟨rfl, rfl⟩
  · rw [wv_u_no _ _ (by omega), wv_u_no _ _ (by omega), wv_u_no _ _ (by omega)]
theorem pb_q2_l {L : Nat → Nat → Int64} {u v : Nat} {x : Int64} (h : u < v) : (∀ j, j < u → pb_q2 L u v x 506 j = L 506 j ∧ pb_q2 L u v x 507 j = L 507 j) ∧ (pb_q2 L u v x 506 u = x ^^^ (-1) ∧ pb_q2 L u v x 507 u = pb_one u ||| pb_one v) ∧ (pb_q2 L u v x 506 v = x ∧ pb_q2 L u v x 507 v = 0) ∧ ∀ c j, ¬ c = 506 → ¬ c = 507 → pb_q2 L u v x c j = L c j := by
  unfold pb_q2
  refine ⟨fun j hj => ?_, ?_, ?_, fun c j z1 z2 => ?_⟩
  · rw [wv_u_no _ _ (by omega), wv_u_no _ _ (by omega), wv_u_no _ _ (by omega), wv_u_no _ _ (by omega), wv_u_no _ _ (by omega), wv_u_no _ _ (by omega), wv_u_no _ _ (by omega), wv_u_no _ _ (by omega), wv_u_no _ _ (by omega), wv_u_no _ _ (by omega)]
    exact ⟨rfl, rfl⟩
  · rw [wv_u_at, wv_u_no _ _ (by omega), wv_u_no _ _ (by omega), wv_u_no _ _ (by omega), wv_u_no _ _ (by omega), wv_u_at]
    exact ⟨rfl, rfl⟩
  · rw [wv_u_no _ _ (by omega), wv_u_no _ _ (by omega), wv_u_at, wv_u_no _ _ (by omega), wv_u_at]
    exact ⟨rfl, rfl⟩
  · rw [wv_u_no _ _ (by omega), wv_u_no _ _ (by omega), wv_u_no _ _ (by omega), wv_u_no _ _ (by omega), wv_u_no _ _ (by omega)]
def pb_o1 (h : Nat → Bool) (n s k : Nat) (en : Int64) (I1 : Nat → Nat → Int32) (L1 : Nat → Nat → Int64) : Prop := I1 460 75 = Int32.ofNat (s + (2 * k + 1)) ∧ pb_O L1 s h (2 * k + 1) ∧ (∀ j, j < 64 → (nb en j = true ↔ 0 < k ∧ j = s + 2 * k)) ∧ ∀ j, j < 64 → (nb (L1 512 n) j = true ↔ 0 < k ∧ (j = s + 1 ∨ j = s + 2))
theorem pb_not {x : Int64} {h : Nat → Bool} (hx : ∀ u, u < 64 → nb x u = h u) : ∀ u, u < 64 → nb (x ^^^ (-1)) u = ! h u := fun u hu => by
  rw [nb_xor, nb_m1 hu, hx u hu, Bool.xor_true]
theorem pb_both {a b : Nat} (ha : a < 64) (hb : b < 64) : ∀ j, j < 64 → (nb (pb_one a ||| pb_one b) j = true ↔ j = a ∨ j = b) := fun j _ => by
  unfold pb_one
  rw [nb_or, nb_one ha, nb_one hb, Bool.or_eq_true, decide_eq_true_iff, decide_eq_true_iff]
def pb_c427 : wv_c1 := fun as T N I L R q => ∃ (S : rn_N) (m0 n a c m s : Nat) (wb : Bool), as = [.ref 460, .int (Int32.ofNat n), .int (Int32.ofNat c), .int (Int32.ofNat m), .int (wb_i wb)] ∧ pb_X T I S m0 ∧ c < rn_n S ∧ rn_k S c = 60 ∧ pb_T I L a s (np_cond (rn_h S c)) ∧ s + (1 + nt_S m wb) ≤ 63 ∧ I 460 75 = Int32.ofNat (s + 1) ∧ n < 200 ∧ a < n ∧ ∀ I1 L1, I1 460 75 = Int32.ofNat (s + (1 + nt_S m wb)) → I1 514 n = wb_i (decide (m = 0)) → pb_P L1 s (np_occ m wb (rn_h S c)) → pb_b (L1 512 n) s (1 + nt_S m wb) (np_F (np_occ m wb (rn_h S c))) → pb_b (L1 513 n) s (1 + nt_S m wb) (np_L (np_occ m wb (rn_h S c))) → pb_F2 n I I1 → pb_G2 n s L L1 → q (.inl none) T N I1 L1 R 0 0
def pb_hx (h : Nat → Bool) (n c m s : Nat) (wb : Bool) (T : wv_T) (N : Nat) (I : Nat → Nat → Int32) (L : Nat → Nat → Int64) (R : Nat → Nat → Option Nat) : Nat → Option (Nat → wv_P) := fun pc =>
  if pc = 20 then some (fun mm lv st T1 N1 I1 L1 R1 nc ns => ∃ (x : Int64) (k : Nat) (en : Int64) (x10 x11 x12 : Option Value), (∀ u, u < 64 → nb x u = h u) ∧ lv = pb_l27 n c m wb x en (pb_i k) x10 x11 x12 ∧ st = [] ∧ T1 = T ∧ N1 = N ∧ R1 = R ∧ nc = 0 ∧ ns = 0 ∧ pb_G3 n s I L I1 L1 ∧ pb_o1 h n s k en I1 L1 ∧ k ≤ m ∧ mm = 2 * (1000 - k))
  else if pc = 88 then some (fun mm lv st T1 N1 I1 L1 R1 nc ns => ∃ (x : Int64) (k : Nat) (en : Int64) (L0 : Nat → Nat → Int64), (∀ u, u < 64 → nb x u = h u) ∧ lv = pb_l27 n c m wb x en (pb_i k) (pb_i (s + (2 * k + 1))) (pb_i (s + (2 * k + 2))) (some (.long (pb_one (s + (2 * k + 1)) ||| pb_one (s + (2 * k + 2))))) ∧ st = [] ∧ T1 = T ∧ N1 = N ∧ R1 = R ∧ nc = 0 ∧ ns = 0 ∧ pb_G3 n s I L I1 L1 ∧ (I1 460 75 = Int32.ofNat (s + (2 * k + 3)) ∧ pb_O L0 s h (2 * k + 1) ∧ (∀ j, j < 64 → (nb en j = true ↔ 0 < k ∧ j = s + 2 * k)) ∧ (∀ j, j < 64 → (nb (L1 512 n) j = true ↔ (j = s + 1 ∨ j = s + 2))) ∧ (∀ j, j < s + (2 * k + 1) → L1 506 j = L0 506 j ∧ L1 507 j = L0 507 j) ∧ (L1 506 (s + (2 * k + 1)) = x ^^^ (-1) ∧ L1 507 (s + (2 * k + 1)) = pb_one (s + (2 * k + 1)) ||| pb_one (s + (2 * k + 2))) ∧ (L1 506 (s + (2 * k + 2)) = x ∧ L1 507 (s + (2 * k + 2)) = 0)) ∧ k < m ∧ mm = 2 * (1000 - k) - 1)
  else none
set_option maxRecDepth 100000 in
theorem wM_427 : ∃ cb ci np, pt_mt 427 = some (32, cb, 14, false, none, ci, np) := ⟨_, _, _, rfl⟩
set_option maxRecDepth 100000 in
set_option maxHeartbeats 4000000 in
theorem pb_occur {sc : pt_Sc} {d : Nat} : wv_C wm_fx sc (d + 1 + 1 + 1) 427 pb_c427 := by
  rintro as T N I L R q ⟨S, m0, n, a, c, mo, s, wb, rfl, hX, hc, hc60, hA, hfit, h75, hn, ha, h⟩ w0 HR
  obtain ⟨cb, ci, np, hm⟩ := wM_427
  have hc420 : wv_C wm_fx sc (d + 1 + 1) 420 pb_c420 := wv_C_deep (by omega) (pb_maskOf (d := d))
  have hc421 : wv_C wm_fx sc (d + 1 + 1) 421 pb_c421 := wv_C_deep (by omega) (pb_newPlace (d := d))
  have hc422 : wv_C wm_fx sc (d + 1 + 1) 422 pb_c422 := wv_C_deep (by omega) (pb_leadTo (d := d))
  refine wv_meth (hh := none) rfl (sp := wv_sp [(420, pb_c420), (421, pb_c421), (422, pb_c422)]) (hd := pb_hx (rn_h S c) n c mo s wb T N I L R) (n := 300) (n1 := 300) hm zc_427 rfl (wv_sp_ok (fun q hq => by
    rcases List.mem_cons.mp hq with h | h
    · rw [h]; exact hc420
    rcases List.mem_cons.mp h with h | h
    · rw [h]; exact hc421
    rw [List.mem_singleton.mp h]; exact hc422)) ?_ ?_ HR
  · have enn := wi_onn (n := n) (by omega)

    obtain ⟨a1, a2, a3, a4, a5, a6⟩ := hA
    refine ⟨S, m0, c, rfl, hX, hc, hc60, fun x hx => ?_⟩
    refine ⟨_, wm_t hX.1 rfl, pp_b (c := 200) (by omega) (by omega), (by decide), ?_⟩
    rw [enn]
    refine ⟨_, x, 0, 0, none, none, none, hx, rfl, rfl, rfl, rfl, rfl, rfl, rfl, ⟨fun _ _ _ => rfl, fun c j z1 z2 z3 => wv_u_no _ _ (by omega), fun j hj => ⟨wv_u_no _ _ (by omega), wv_u_no _ _ (by omega)⟩⟩, ⟨h75, ?_, fun j hj => ?_, fun j hj => ?_⟩, Nat.zero_le _, rfl⟩
    · exact pb_O0 (pb_P_c a3 (fun j _ => ⟨wv_u_no _ _ (by omega), wv_u_no _ _ (by omega)⟩))
    · rw [nb_0]
      exact ⟨fun z => (by cases z), fun z => by omega⟩
    · rw [wv_u_at]
      show nb 0 j = true ↔ _
      rw [nb_0]
      exact ⟨fun z => (by cases z), fun z => by omega⟩
  · intro pc P hP m lv st T1 N1 I1 L1 R1 nc ns hh
    have enn := wi_onn (n := n) (by omega)

    obtain ⟨a1, a2, a3, a4, a5, a6⟩ := hA
    have hT := hX.1
    have hmo : 2 * mo + 1 ≤ 1 + nt_S mo wb := by
      unfold nt_S
      split <;> omega
    have em := wi_on (n := mo) (by omega)
    unfold pb_hx at hP
    by_cases p20 : pc = 20
    · rw [if_pos p20] at hP
      cases hP
      subst p20
      obtain ⟨x, k, en, x10, x11, x12, hx, rfl, rfl, rfl, rfl, rfl, rfl, rfl, ⟨gI, gL⟩, ⟨k1, k2, k3, k4⟩, hk, rfl⟩ := hh
      have ek := wi_on (n := k) (by omega)
      have hxn := pb_not hx
      refine ⟨fun w => ?_, fun w => ?_⟩
      · rw [wi_le, em, ek] at w
        have e : k = mo := by omega
        subst e
        have fin : ∀ (bb : Bool) (I2 : Nat → Nat → Int32) (L2 : Nat → Nat → Int64) (e2 : Int64), bb = decide (k = 0) → I2 460 75 = Int32.ofNat (s + (1 + nt_S k wb)) → pb_O L2 s (rn_h S c) (1 + nt_S k wb) → pb_b (L2 512 n) s (1 + nt_S k wb) (np_F (np_occ k wb (rn_h S c))) → pb_b e2 s (1 + nt_S k wb) (np_L (np_occ k wb (rn_h S c))) → pb_G3 n s I L I2 L2 → q (.inl none) T1 N1 (wv_u I2 514 n (vp_nar .boolean (wb_i bb))) (wv_u L2 513 n e2) R1 0 0 := fun bb I2 L2 e2 y1 y2 y3 y4 y5 ⟨y6, y7⟩ => by
          refine h _ _ ?_ ?_ (pb_OP ?_) ?_ ?_ ?_ ?_
          · rw [wv_u_no _ _ (by omega)]
            exact y2
          · rw [wv_u_at, y1]
            cases decide (k = 0) <;> rfl
          · intro p hp
            rw [wv_u_no _ _ (by omega), wv_u_no _ _ (by omega)]
            exact y3 p hp
          · rw [wv_u_no _ _ (by omega)]
            exact y4
          · rw [wv_u_at]
            exact y5
          · intro c j z1 z2
            rw [wv_u_no _ _ (by omega)]
            exact y6 c j z1
          · refine ⟨fun c j z1 z2 z3 => ?_, fun j hj => ?_⟩
            · rw [wv_u_no _ _ (by omega)]
              exact y7.1 c j z1 z2 z3
            · rw [wv_u_no _ _ (by omega), wv_u_no _ _ (by omega)]
              exact y7.2 j hj
        refine ⟨fun w1 => ?_, fun w1 => ?_⟩
        · have w1 : wb = false := wb_i_2.mp (fun z => z w1)
          subst w1
          have eS : 1 + nt_S k false = 2 * k + 1 := Nat.add_comm _ _
          rw [eS] at fin
          refine ⟨_, wm_t hT rfl, pp_b (c := 200) (by omega) (by omega), (by decide), ?_⟩
          rw [enn]
          have fF : pb_b (L1 512 n) s (2 * k + 1) (np_F (np_occ k false (rn_h S c))) := by
            rw [← eS]
            exact pb_oF (fun j hj => (k4 j hj).trans ⟨fun z => Or.inl z, fun z => z.elim id (fun y => by cases y.2.1)⟩)
          have fL : pb_b en s (2 * k + 1) (np_L (np_occ k false (rn_h S c))) := by
            rw [← eS]
            exact pb_oL (fun j hj => (k3 j hj).trans ⟨fun z => Or.inl z, fun z => z.elim id (fun y => by cases y.1)⟩)
          refine ⟨fun w2 => ?_, fun w2 => ?_⟩
          · have w2 : ¬ Int32.ofNat k = 0 := w2
            rw [wi_eq, ek, wi_0] at w2
            refine ⟨_, wm_t hT rfl, pp_b (c := 200) (by omega) (by omega), (by decide), ?_⟩
            rw [enn]
            exact fin false _ _ _ (decide_eq_false (by omega)).symm k1 k2 fF fL ⟨gI, gL⟩
          · have w2 : ¬ ¬ Int32.ofNat k = 0 := w2
            rw [wi_eq, ek, wi_0] at w2
            refine ⟨_, wm_t hT rfl, pp_b (c := 200) (by omega) (by omega), (by decide), ?_⟩
            rw [enn]
            exact fin true _ _ _ (decide_eq_true (by omega)).symm k1 k2 fF fL ⟨gI, gL⟩
        have w1 : wb = true := wb_i_1.mp w1
        subst w1
        have eS : 1 + nt_S k true = 2 * k + 2 := by
          show 1 + (2 * k + 1) = _
          omega
        rw [eS] at fin hfit
        refine ⟨x ^^^ (-1), s + (2 * k + 1), rfl, hT, k1, by omega, ?_⟩
        have ewn := wi_onn (n := s + (2 * k + 1)) (by omega)
        refine ⟨_, wm_t hT rfl, pp_b (c := 64) (by omega) (by omega), (by decide), ?_⟩
        rw [ewn]
        refine ⟨en, pb_one (s + (2 * k + 1)), s + (2 * k + 2), rfl, hT, wv_u_at _ _ _ _, by omega, ?_⟩
        obtain ⟨l6, l6t, lo2⟩ := pb_q1_l (L := L1) (u := s + (2 * k + 1)) (x := x)
        have hone : ∀ j, j < 64 → (nb (pb_one (s + (2 * k + 1))) j = true ↔ j = s + (2 * k + 1)) := fun j _ => by
          unfold pb_one
          rw [nb_one (by omega), decide_eq_true_iff]
        have l7 : ∀ j, j < s + (2 * k + 1) → (pb_ld (pb_q1 L1 (s + (2 * k + 1)) x) (s + (2 * k + 2)) en (pb_one (s + (2 * k + 1)))) 506 j = L1 506 j ∧ (pb_ld (pb_q1 L1 (s + (2 * k + 1)) x) (s + (2 * k + 2)) en (pb_one (s + (2 * k + 1)))) 507 j = pb_ld L1 (s + (2 * k + 2)) en (pb_one (s + (2 * k + 1))) 507 j := fun j hj => by
          obtain ⟨y1, y2⟩ := l6 j hj
          rw [pb_ld_6 (by omega), y1]
          refine ⟨rfl, ?_⟩
          unfold pb_ld
          rw [y2]
        have l7t : (pb_ld (pb_q1 L1 (s + (2 * k + 1)) x) (s + (2 * k + 2)) en (pb_one (s + (2 * k + 1)))) 506 (s + (2 * k + 1)) = x ^^^ (-1) ∧ (pb_ld (pb_q1 L1 (s + (2 * k + 1)) x) (s + (2 * k + 2)) en (pb_one (s + (2 * k + 1)))) 507 (s + (2 * k + 1)) = pb_one (s + (2 * k + 1)) := by
          rw [pb_ld_6 (by omega)]
          refine ⟨l6t.1, ?_⟩
          unfold pb_ld
          rw [if_neg (fun z => by
            have := (k3 _ (by omega)).mp z.2.2
            omega)]
          exact l6t.2
        have lo3 : ∀ c j, ¬ c = 506 → ¬ c = 507 → (pb_ld (pb_q1 L1 (s + (2 * k + 1)) x) (s + (2 * k + 2)) en (pb_one (s + (2 * k + 1)))) c j = L1 c j := fun c j z1 z2 => by
          rw [pb_ld_6 z2]
          exact lo2 c j z1 z2
        have hO : pb_O (pb_ld (pb_q1 L1 (s + (2 * k + 1)) x) (s + (2 * k + 2)) en (pb_one (s + (2 * k + 1)))) s (rn_h S c) (2 * k + 2) := pb_O2 k2 rfl (by omega) k3 hone l7 ⟨fun v hv => by rw [l7t.1]; exact hxn v hv, l7t.2⟩
        have lb : ∀ j, j < s → (pb_ld (pb_q1 L1 (s + (2 * k + 1)) x) (s + (2 * k + 2)) en (pb_one (s + (2 * k + 1)))) 506 j = L 506 j ∧ (pb_ld (pb_q1 L1 (s + (2 * k + 1)) x) (s + (2 * k + 2)) en (pb_one (s + (2 * k + 1)))) 507 j = L 507 j := fun j hj => by
          obtain ⟨y1, y2⟩ := l7 j (by omega)
          rw [y1, y2]
          unfold pb_ld
          rw [if_neg (fun z => by
            have := (k3 _ (by omega)).mp z.2.2
            omega)]
          exact gL.2 j hj
        have gG : ∀ z : Int64, pb_G3 n s I L (wv_u I1 460 75 (Int32.ofNat (s + (2 * k + 1) + 1))) (wv_u (pb_ld (pb_q1 L1 (s + (2 * k + 1)) x) (s + (2 * k + 2)) en (pb_one (s + (2 * k + 1)))) 512 n z) := fun z => ⟨fun c j y => by
          rw [wv_u_no _ _ y]
          exact gI c j y, fun c j y1 y2 y3 => by
          rw [wv_u_no _ _ (by omega), lo3 c j y1 y2]
          exact gL.1 c j y1 y2 y3, fun j hj => by
          rw [wv_u_no _ _ (by omega), wv_u_no _ _ (by omega)]
          exact lb j hj⟩
        have hO2 : ∀ z : Int64, pb_O (wv_u (pb_ld (pb_q1 L1 (s + (2 * k + 1)) x) (s + (2 * k + 2)) en (pb_one (s + (2 * k + 1)))) 512 n z) s (rn_h S c) (2 * k + 2) := fun z p hp => by
          rw [wv_u_no _ _ (by omega), wv_u_no _ _ (by omega)]
          exact hO p hp
        have fF : ∀ z : Int64, (∀ j, j < 64 → (nb z j = true ↔ (0 < k ∧ (j = s + 1 ∨ j = s + 2)) ∨ (k = 0 ∧ j = s + 1))) → pb_b (wv_u (pb_ld (pb_q1 L1 (s + (2 * k + 1)) x) (s + (2 * k + 2)) en (pb_one (s + (2 * k + 1)))) 512 n z 512 n) s (2 * k + 2) (np_F (np_occ k true (rn_h S c))) := fun z hz => by
          rw [wv_u_at, ← eS]
          exact pb_oF (fun j hj => (hz j hj).trans ⟨fun y => y.elim Or.inl (fun y => Or.inr ⟨y.1, rfl, y.2⟩), fun y => y.elim Or.inl (fun y => Or.inr ⟨y.1, y.2.2⟩)⟩)
        have fL : pb_b (en ||| pb_one (s + (2 * k + 1))) s (2 * k + 2) (np_L (np_occ k true (rn_h S c))) := by
          rw [← eS]
          refine pb_oL (fun j hj => ?_)
          rw [nb_or, Bool.or_eq_true, k3 j hj, hone j hj]
          exact ⟨fun y => y.elim Or.inl (fun y => Or.inr ⟨rfl, y⟩), fun y => y.elim Or.inl (fun y => Or.inr y.2)⟩
        have l512 : (pb_ld (pb_q1 L1 (s + (2 * k + 1)) x) (s + (2 * k + 2)) en (pb_one (s + (2 * k + 1)))) 512 n = L1 512 n := lo3 _ _ (by omega) (by omega)
        have k4b : ∀ j, j < 64 → (nb ((pb_ld (pb_q1 L1 (s + (2 * k + 1)) x) (s + (2 * k + 2)) en (pb_one (s + (2 * k + 1)))) 512 n) j = true ↔ 0 < k ∧ (j = s + 1 ∨ j = s + 2)) := fun j hj => by
          rw [l512]
          exact k4 j hj
        have e75 : ∀ (c : Nat), wv_u I1 460 75 (Int32.ofNat (s + (2 * k + 1) + 1)) 460 75 = Int32.ofNat (s + (2 * k + 2)) := fun _ => wv_u_at _ _ _ _
        refine ⟨fun w2 => ?_, fun w2 => ?_⟩
        · have w2 : ¬ Int32.ofNat k = 0 := w2
          rw [wi_eq, ek, wi_0] at w2
          refine ⟨_, wm_t hT rfl, pp_b (c := 200) (by omega) (by omega), ?_⟩
          rw [enn]
          refine ⟨_, wm_t hT rfl, pp_b (c := 200) (by omega) (by omega), (by decide), ?_⟩
          rw [enn]
          refine ⟨_, wm_t hT rfl, pp_b (c := 200) (by omega) (by omega), (by decide), ?_⟩
          rw [enn]
          refine ⟨fun w3 => ?_, fun w3 => ?_⟩
          · refine ⟨_, wm_t hT rfl, pp_b (c := 200) (by omega) (by omega), (by decide), ?_⟩
            rw [enn]
            exact fin false _ _ _ (decide_eq_false (by omega)).symm (e75 0) (hO2 _) (fF _ (fun j hj => (k4b j hj).trans ⟨fun z => Or.inl z, fun z => z.elim id (fun y => by omega)⟩)) fL (gG _)
          · have w3 : ¬ ¬ Int32.ofNat k = 0 := w3
            rw [wi_eq, ek, wi_0] at w3
            omega
        · have w2 : ¬ ¬ Int32.ofNat k = 0 := w2
          rw [wi_eq, ek, wi_0] at w2
          refine ⟨_, wm_t hT rfl, pp_b (c := 200) (by omega) (by omega), (by decide), ?_⟩
          rw [enn]
          refine ⟨_, wm_t hT rfl, pp_b (c := 200) (by omega) (by omega), (by decide), ?_⟩
          rw [enn]
          refine ⟨fun w3 => ?_, fun w3 => ?_⟩
          · have w3 : ¬ Int32.ofNat k = 0 := w3
            rw [wi_eq, ek, wi_0] at w3
            omega
          · refine ⟨_, wm_t hT rfl, pp_b (c := 200) (by omega) (by omega), (by decide), ?_⟩
            rw [enn]
            exact fin true _ _ _ (decide_eq_true (by omega)).symm (e75 0) (hO2 _) (fF (pb_one (s + (2 * k + 1))) (fun j hj => (hone j hj).trans ⟨fun z => Or.inr ⟨by omega, by omega⟩, fun z => z.elim (fun y => by omega) (fun y => by omega)⟩)) fL (gG _)
      · rw [wi_le, em, ek] at w
        have hkm : k < mo := by omega
        refine ⟨x ^^^ (-1), s + (2 * k + 1), rfl, hT, k1, by omega, ?_⟩
        refine ⟨x, s + (2 * k + 2), rfl, hT, wv_u_at _ _ _ _, by omega, ?_⟩
        have ewn := wi_onn (n := s + (2 * k + 1)) (by omega)
        refine ⟨_, wm_t hT rfl, pp_b (c := 64) (by omega) (by omega), (by decide), ?_⟩
        rw [ewn]
        obtain ⟨l6, l6t, l6u, lo2⟩ := pb_q2_l (L := L1) (u := s + (2 * k + 1)) (v := s + (2 * k + 2)) (x := x) (by omega)
        have key : ∀ z : Int64, (∀ j, j < 64 → (nb z j = true ↔ (j = s + 1 ∨ j = s + 2))) → pb_G3 n s I L (wv_u (wv_u I1 460 75 (Int32.ofNat (s + (2 * k + 1) + 1))) 460 75 (Int32.ofNat (s + (2 * k + 2) + 1))) (wv_u (pb_q2 L1 (s + (2 * k + 1)) (s + (2 * k + 2)) x) 512 n z) ∧ (wv_u (wv_u I1 460 75 (Int32.ofNat (s + (2 * k + 1) + 1))) 460 75 (Int32.ofNat (s + (2 * k + 2) + 1)) 460 75 = Int32.ofNat (s + (2 * k + 3)) ∧ pb_O L1 s (rn_h S c) (2 * k + 1) ∧ (∀ j, j < 64 → (nb en j = true ↔ 0 < k ∧ j = s + 2 * k)) ∧ (∀ j, j < 64 → (nb (wv_u (pb_q2 L1 (s + (2 * k + 1)) (s + (2 * k + 2)) x) 512 n z 512 n) j = true ↔ (j = s + 1 ∨ j = s + 2))) ∧ (∀ j, j < s + (2 * k + 1) → wv_u (pb_q2 L1 (s + (2 * k + 1)) (s + (2 * k + 2)) x) 512 n z 506 j = L1 506 j ∧ wv_u (pb_q2 L1 (s + (2 * k + 1)) (s + (2 * k + 2)) x) 512 n z 507 j = L1 507 j) ∧ (wv_u (pb_q2 L1 (s + (2 * k + 1)) (s + (2 * k + 2)) x) 512 n z 506 (s + (2 * k + 1)) = x ^^^ (-1) ∧ wv_u (pb_q2 L1 (s + (2 * k + 1)) (s + (2 * k + 2)) x) 512 n z 507 (s + (2 * k + 1)) = pb_one (s + (2 * k + 1)) ||| pb_one (s + (2 * k + 2))) ∧ (wv_u (pb_q2 L1 (s + (2 * k + 1)) (s + (2 * k + 2)) x) 512 n z 506 (s + (2 * k + 2)) = x ∧ wv_u (pb_q2 L1 (s + (2 * k + 1)) (s + (2 * k + 2)) x) 512 n z 507 (s + (2 * k + 2)) = 0)) := fun z hz => by
          refine ⟨⟨fun c j y => ?_, fun c j y1 y2 y3 => ?_, fun j hj => ?_⟩, wv_u_at _ _ _ _, k2, k3, ?_, fun j hj => ?_, ?_, ?_⟩
          · rw [wv_u_no _ _ y, wv_u_no _ _ y]
            exact gI c j y
          · rw [wv_u_no _ _ (by omega), lo2 c j y1 y2]
            exact gL.1 c j y1 y2 y3
          · rw [wv_u_no _ _ (by omega), wv_u_no _ _ (by omega), (l6 j (by omega)).1, (l6 j (by omega)).2]
            exact gL.2 j hj
          · rw [wv_u_at]
            exact hz
          · rw [wv_u_no _ _ (by omega), wv_u_no _ _ (by omega)]
            exact l6 j hj
          · rw [wv_u_no _ _ (by omega), wv_u_no _ _ (by omega)]
            exact l6t
          · rw [wv_u_no _ _ (by omega), wv_u_no _ _ (by omega)]
            exact l6u
        have l512 : (pb_q2 L1 (s + (2 * k + 1)) (s + (2 * k + 2)) x) 512 n = L1 512 n := lo2 _ _ (by omega) (by omega)
        have k4b : ∀ j, j < 64 → (nb ((pb_q2 L1 (s + (2 * k + 1)) (s + (2 * k + 2)) x) 512 n) j = true ↔ 0 < k ∧ (j = s + 1 ∨ j = s + 2)) := fun j hj => by
          rw [l512]
          exact k4 j hj
        refine ⟨fun w2 => ?_, fun w2 => ?_⟩
        · have w2 : ¬ Int32.ofNat k = 0 := w2
          rw [wi_eq, ek, wi_0] at w2
          refine ⟨_, wm_t hT rfl, pp_b (c := 200) (by omega) (by omega), ?_⟩
          rw [enn]
          refine ⟨_, wm_t hT rfl, pp_b (c := 200) (by omega) (by omega), (by decide), ?_⟩
          rw [enn]
          obtain ⟨y1, y2⟩ := key ((pb_q2 L1 (s + (2 * k + 1)) (s + (2 * k + 2)) x) 512 n) (fun j hj => (k4b j hj).trans ⟨fun z => z.2, fun z => ⟨by omega, z⟩⟩)
          exact ⟨2 * (1000 - k) - 1, by omega, x, k, en, L1, hx, rfl, rfl, rfl, rfl, rfl, rfl, rfl, y1, y2, hkm, rfl⟩
        · have w2 : ¬ ¬ Int32.ofNat k = 0 := w2
          rw [wi_eq, ek, wi_0] at w2
          have k0 : k = 0 := by omega
          refine ⟨_, wm_t hT rfl, pp_b (c := 200) (by omega) (by omega), (by decide), ?_⟩
          rw [enn]
          obtain ⟨y1, y2⟩ := key (pb_one (s + (2 * k + 1)) ||| pb_one (s + (2 * k + 2))) (fun j hj => (pb_both (by omega) (by omega) j hj).trans (by rw [k0]))
          exact ⟨2 * (1000 - k) - 1, by omega, x, k, en, L1, hx, rfl, rfl, rfl, rfl, rfl, rfl, rfl, y1, y2, hkm, rfl⟩
    rw [if_neg p20] at hP
    by_cases p88 : pc = 88
    · rw [if_pos p88] at hP
      cases hP
      subst p88
      obtain ⟨x, k, en, L0, hx, rfl, rfl, rfl, rfl, rfl, rfl, rfl, ⟨gI, gL⟩, ⟨k1, k2, k3, k4, k5, k6, k7⟩, hk, rfl⟩ := hh
      have hxn := pb_not hx
      refine ⟨en, pb_one (s + (2 * k + 1)) ||| pb_one (s + (2 * k + 2)), s + (2 * k + 3), rfl, hT, k1, by omega, ?_⟩
      have hbo := pb_both (a := s + (2 * k + 1)) (b := s + (2 * k + 2)) (by omega) (by omega)
      generalize hbb : pb_one (s + (2 * k + 1)) ||| pb_one (s + (2 * k + 2)) = both at hbo k6 ⊢
      have no : ∀ j, s + 2 * k < j → j < 64 → pb_ld L1 (s + (2 * k + 3)) en both 507 j = L1 507 j := fun j h1 h2 => by
        unfold pb_ld
        rw [if_neg (fun z => by
          have := (k3 _ h2).mp z.2.2
          omega)]
      refine ⟨2 * (1000 - (k + 1)), by omega, x, k + 1, pb_one (s + (2 * k + 2)), pb_i (s + (2 * k + 1)), pb_i (s + (2 * k + 2)), some (.long both), hx, ?_, rfl, rfl, rfl, rfl, rfl, rfl, ⟨gI, fun c j y1 y2 y3 => ?_, fun j hj => ?_⟩, ⟨?_, ?_, fun j hj => ?_, fun j hj => ?_⟩, by omega, rfl⟩
      · unfold pb_l27 pb_i
        rw [← wq_4s k]
        rfl
      · rw [pb_ld_6 y2]
        exact gL.1 c j y1 y2 y3
      · rw [pb_ld_6 (by omega)]
        refine ⟨(gL.2 j hj).1, ?_⟩
        unfold pb_ld
        rw [if_neg (fun z => by
          have := (k3 _ (by omega)).mp z.2.2
          omega)]
        exact (gL.2 j hj).2
      · rw [k1, show 2 * (k + 1) + 1 = 2 * k + 3 by omega]
      · refine pb_O1 (t := s + (2 * k + 3)) (be := en) (both := both) k2 rfl (by omega) k3 hbo (fun j hj => ?_) ⟨fun v hv => ?_, ?_⟩ ⟨fun v hv => ?_, ?_⟩
        · obtain ⟨y1, y2⟩ := k5 j hj
          rw [pb_ld_6 (by omega), y1]
          refine ⟨rfl, ?_⟩
          unfold pb_ld
          rw [y2]
        · rw [pb_ld_6 (by omega), k6.1]
          exact hxn v hv
        · rw [no _ (by omega) (by omega)]
          exact k6.2
        · rw [pb_ld_6 (by omega), k7.1]
          exact hx v hv
        · rw [no _ (by omega) (by omega)]
          exact k7.2
      · unfold pb_one
        rw [nb_one (by omega), decide_eq_true_iff]
        exact ⟨fun z => ⟨by omega, by omega⟩, fun z => by omega⟩
      · rw [pb_ld_6 (by omega), k4 j hj]
        exact ⟨fun z => ⟨by omega, z⟩, fun z => z.2⟩
    rw [if_neg p88] at hP
    cases hP
