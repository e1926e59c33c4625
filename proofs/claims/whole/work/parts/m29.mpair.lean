/-! ===== the reference: paired places ===== -/
def pb_G3 (n t : Nat) (I : Nat → Nat → Int32) (L : Nat → Nat → Int64) (I1 : Nat → Nat → Int32) (L1 : Nat → Nat → Int64) : Prop := (∀ c j, ¬ (c = 460 ∧ j = 75) → I1 c j = I c j) ∧ pb_G2 n t L L1
/-- pairs made so far; those whose followers are known -/
def pb_pM (U V : np_A) (t k : Nat) (L1 : Nat → Nat → Int64) : Prop := ∀ i, i < k → ∀ v, v < 64 → nb (L1 506 (t + i)) v = (np_M U (i / np_n V) v && np_M V (i % np_n V) v)
def pb_p1 (U V : np_A) (n s t k : Nat) (I1 : Nat → Nat → Int32) (L1 : Nat → Nat → Int64) : Prop := I1 460 75 = Int32.ofNat (t + k) ∧ pb_pM U V t k L1 ∧ (∀ i, i < k → L1 507 (t + i) = 0) ∧ pb_b (L1 512 n) s (np_n U + np_n V + k) (np_F (np_and U V)) ∧ pb_b (L1 513 n) s (np_n U + np_n V + k) (np_L (np_and U V))
def pb_p2 (U V : np_A) (n s t x m : Nat) (I1 : Nat → Nat → Int32) (L1 : Nat → Nat → Int64) : Prop := I1 460 75 = Int32.ofNat (t + m) ∧ pb_pM U V t m L1 ∧ (∀ i, i < x → pb_b (L1 507 (t + i)) s (np_n U + np_n V + m) (np_B (np_and U V) (np_n U + np_n V + i))) ∧ (∀ i, x < i → i < m → L1 507 (t + i) = 0) ∧ pb_b (L1 512 n) s (np_n U + np_n V + m) (np_F (np_and U V)) ∧ pb_b (L1 513 n) s (np_n U + np_n V + m) (np_L (np_and U V))
def pb_l25 (n a b w t : Nat) (x6 x7 x8 x9 x10 : Option Value) : List (Option Value) := [some (.ref 460), some (.int (Int32.ofNat n)), some (.int (Int32.ofNat a)), some (.int (Int32.ofNat b)), some (.int (Int32.ofNat w)), some (.int (Int32.ofNat t)), x6, x7, x8, x9, x10, none, none, none, none]
def pb_i (x : Nat) : Option Value := some (.int (Int32.ofNat x))
def pb_h425 (U V : np_A) (n a b s t : Nat) (T : wv_T) (N : Nat) (I : Nat → Nat → Int32) (L : Nat → Nat → Int64) (R : Nat → Nat → Option Nat) : Nat → Option (Nat → wv_P) := fun pc =>
  if pc = 43 then some (fun mm lv st T1 N1 I1 L1 R1 nc ns => ∃ (p : Nat) (x7 x8 : Option Value), lv = pb_l25 n a b (np_n V) t (pb_i (s + p)) x7 x8 none none ∧ st = [] ∧ T1 = T ∧ N1 = N ∧ R1 = R ∧ nc = 0 ∧ ns = 0 ∧ pb_G3 n t I L I1 L1 ∧ pb_p1 U V n s t (np_n V * p) I1 L1 ∧ p ≤ np_n U ∧ mm = 1000000 + 1000 * (64 - p) + 999)
  else if pc = 62 then some (fun mm lv st T1 N1 I1 L1 R1 nc ns => ∃ (p q : Nat) (x8 : Option Value), lv = pb_l25 n a b (np_n V) t (pb_i (s + p)) (pb_i (s + np_n U + q)) x8 none none ∧ st = [] ∧ T1 = T ∧ N1 = N ∧ R1 = R ∧ nc = 0 ∧ ns = 0 ∧ pb_G3 n t I L I1 L1 ∧ pb_p1 U V n s t (np_n V * p + q) I1 L1 ∧ p < np_n U ∧ q ≤ np_n V ∧ mm = 1000000 + 1000 * (64 - p) + 10 * (64 - q) + 9)
  else if pc = 139 then some (fun mm lv st T1 N1 I1 L1 R1 nc ns => ∃ (p q k : Nat), lv = pb_l25 n a b (np_n V) t (pb_i (s + p)) (pb_i (s + np_n U + q)) (pb_i (t + k)) none none ∧ st = [] ∧ T1 = T ∧ N1 = N ∧ R1 = R ∧ nc = 0 ∧ ns = 0 ∧ pb_G3 n t I L I1 L1 ∧ k = np_n V * p + q ∧ (I1 460 75 = Int32.ofNat (t + (k + 1)) ∧ pb_pM U V t (k + 1) L1 ∧ (∀ i, i < k + 1 → L1 507 (t + i) = 0) ∧ pb_b (L1 512 n) s (np_n U + np_n V + k + 1) (np_F (np_and U V)) ∧ pb_b (L1 513 n) s (np_n U + np_n V + k) (np_L (np_and U V))) ∧ p < np_n U ∧ q < np_n V ∧ mm = 1000000 + 1000 * (64 - p) + 10 * (64 - q))
  else if pc = 200 then some (fun mm lv st T1 N1 I1 L1 R1 nc ns => ∃ (x : Nat) (x7 x8 x9 x10 : Option Value), lv = pb_l25 n a b (np_n V) t (pb_i (t + x)) x7 x8 x9 x10 ∧ st = [] ∧ T1 = T ∧ N1 = N ∧ R1 = R ∧ nc = 0 ∧ ns = 0 ∧ pb_G3 n t I L I1 L1 ∧ pb_p2 U V n s t x (np_n U * np_n V) I1 L1 ∧ (x < np_n U * np_n V → L1 507 (t + x) = 0) ∧ x ≤ np_n U * np_n V ∧ mm = 1000 * (64 - x) + 999)
  else if pc = 247 then some (fun mm lv st T1 N1 I1 L1 R1 nc ns => ∃ (x y : Nat) (x10 : Option Value), lv = pb_l25 n a b (np_n V) t (pb_i (t + x)) (pb_i (s + x / np_n V)) (pb_i (s + np_n U + x % np_n V)) (pb_i (t + y)) x10 ∧ st = [] ∧ T1 = T ∧ N1 = N ∧ R1 = R ∧ nc = 0 ∧ ns = 0 ∧ pb_G3 n t I L I1 L1 ∧ pb_p2 U V n s t x (np_n U * np_n V) I1 L1 ∧ pb_b (L1 507 (t + x)) s (np_n U + np_n V + y) (np_B (np_and U V) (np_n U + np_n V + x)) ∧ x < np_n U * np_n V ∧ y ≤ np_n U * np_n V ∧ mm = 1000 * (64 - x) + 10 * (64 - y) + 9)
  else if pc = 317 then some (fun mm lv st T1 N1 I1 L1 R1 nc ns => ∃ (x y : Nat) (g : Bool) (x10 : Option Value), lv = pb_l25 n a b (np_n V) t (pb_i (t + x)) (pb_i (s + x / np_n V)) (pb_i (s + np_n U + x % np_n V)) (pb_i (t + y)) x10 ∧ st = [.int (wb_i g)] ∧ T1 = T ∧ N1 = N ∧ R1 = R ∧ nc = 0 ∧ ns = 0 ∧ pb_G3 n t I L I1 L1 ∧ pb_p2 U V n s t x (np_n U * np_n V) I1 L1 ∧ pb_b (L1 507 (t + x)) s (np_n U + np_n V + y) (np_B (np_and U V) (np_n U + np_n V + x)) ∧ x < np_n U * np_n V ∧ y < np_n U * np_n V ∧ g = np_B (np_and U V) (np_n U + np_n V + x) (np_n U + np_n V + y) ∧ mm = 1000 * (64 - x) + 10 * (64 - y))
  else none
theorem pb_mul {p q u v : Nat} (hp : p < u) (hq : q < v) : v * p + q < u * v ∧ v * p + v ≤ u * v := by
  have h := Nat.mul_le_mul_left v (show p + 1 ≤ u by omega)
  rw [Nat.mul_add, Nat.mul_one, Nat.mul_comm v u] at h
  omega
def pb_c425 : wv_c1 := fun as T N I L R q => ∃ (U V : np_A) (n a b s t : Nat), as = [.ref 460, .int (Int32.ofNat n), .int (Int32.ofNat a), .int (Int32.ofNat b)] ∧ wm_T T ∧ pb_T I L a s U ∧ pb_T I L b (s + np_n U) V ∧ t = s + np_n U + np_n V ∧ t + np_n U * np_n V ≤ 63 ∧ I 460 75 = Int32.ofNat t ∧ n < 200 ∧ a < n ∧ b < n ∧ ∀ I1 L1, I1 460 75 = Int32.ofNat (t + np_n U * np_n V) → I1 514 n = wb_i (np_e U && np_e V) → pb_P L1 s (np_and U V) → pb_b (L1 512 n) s (np_n U + np_n V + np_n U * np_n V) (np_F (np_and U V)) → pb_b (L1 513 n) s (np_n U + np_n V + np_n U * np_n V) (np_L (np_and U V)) → pb_F2 n I I1 → pb_G2 n s L L1 → q (.inl none) T N I1 L1 R 0 0
set_option maxRecDepth 100000 in
theorem wM_425 : ∃ cb ci np, pt_mt 425 = some (32, cb, 11, false, none, ci, np) := ⟨_, _, _, rfl⟩
set_option maxRecDepth 100000 in
set_option maxHeartbeats 4000000 in
theorem pb_pairUp {sc : pt_Sc} {d : Nat} : wv_C wm_fx sc (d + 1 + 1) 425 pb_c425 := by
  rintro as T N I L R q ⟨U, V, n, a, b, s, t, rfl, hT, hA, hB, ht, hfit, h75, hn, ha, hb, h⟩ w0 HR
  obtain ⟨cb, ci, np, hm⟩ := wM_425
  have hc423 : wv_C wm_fx sc (d + 1) 423 pb_c423 := wv_C_deep (by omega) (pb_hasBit (d := d))
  have hc421 : wv_C wm_fx sc (d + 1) 421 pb_c421 := wv_C_deep (by omega) (pb_newPlace (d := d))
  refine wv_meth (hh := none) rfl (sp := wv_sp [(423, pb_c423), (421, pb_c421)]) (hd := pb_h425 U V n a b s t T N I L R) (n := 300) (n1 := 300) hm zc_425 rfl (wv_sp_ok (fun q hq => by
    rcases List.mem_cons.mp hq with h | h
    · rw [h]; exact hc423
    rw [List.mem_singleton.mp h]; exact hc421)) ?_ ?_ HR
  · obtain ⟨a1, a2, a3, a4, a5, a6⟩ := hA
    obtain ⟨b1, b2, b3, b4, b5, b6⟩ := hB
    have ean := wi_onn (n := a) (by omega)
    have ebn := wi_onn (n := b) (by omega)
    have enn := wi_onn (n := n) (by omega)
    have ew : Int32.ofNat (s + np_n U + np_n V) - Int32.ofNat (s + np_n U) = Int32.ofNat (np_n V) := by
      rw [mr_sub (by omega) (by omega), Nat.add_sub_cancel_left]

    refine ⟨_, wm_t hT rfl, pp_b (c := 200) (by omega) (by omega), ?_⟩
    refine ⟨_, wm_t hT rfl, pp_b (c := 200) (by omega) (by omega), ?_⟩
    rw [ebn, b1, b2]
    refine ⟨_, wm_t hT rfl, pp_b (c := 200) (by omega) (by omega), (by decide), ?_⟩
    rw [enn, ew, h75]
    refine ⟨_, wm_t hT rfl, pp_b (c := 200) (by omega) (by omega), (by decide), ?_⟩
    rw [enn]
    refine ⟨_, wm_t hT rfl, pp_b (c := 200) (by omega) (by omega), ?_⟩
    rw [ean, a1]
    refine ⟨_, 0, none, none, rfl, rfl, rfl, rfl, rfl, rfl, rfl, ⟨fun _ _ _ => rfl, fun c j z1 z2 z3 => ?_, fun j hj => ⟨?_, ?_⟩⟩, ⟨?_, ?_, ?_, ?_, ?_⟩, Nat.zero_le _, rfl⟩
    · rw [wv_u_no _ _ (by omega), wv_u_no _ _ (by omega)]
    · rw [wv_u_no _ _ (by omega), wv_u_no _ _ (by omega)]
    · rw [wv_u_no _ _ (by omega), wv_u_no _ _ (by omega)]
    · rw [Nat.mul_zero]
      exact h75
    · intro i hi
      rw [Nat.mul_zero] at hi
      omega
    · intro i hi
      rw [Nat.mul_zero] at hi
      omega
    · rw [Nat.mul_zero, wv_u_no _ _ (by omega), wv_u_at]
      exact pb_bz (fun j hj => (np_and_0 hj).1)
    · rw [Nat.mul_zero, wv_u_at]
      exact pb_bz (fun j hj => (np_and_0 hj).2.1)
  · intro pc P hP m lv st T1 N1 I1 L1 R1 nc ns hh
    obtain ⟨a1, a2, a3, a4, a5, a6⟩ := hA
    obtain ⟨b1, b2, b3, b4, b5, b6⟩ := hB
    have ean := wi_onn (n := a) (by omega)
    have ebn := wi_onn (n := b) (by omega)
    have enn := wi_onn (n := n) (by omega)
    have ew : Int32.ofNat (s + np_n U + np_n V) - Int32.ofNat (s + np_n U) = Int32.ofNat (np_n V) := by
      rw [mr_sub (by omega) (by omega), Nat.add_sub_cancel_left]

    have eu := wi_on (n := s + np_n U) (by omega)
    have ev := wi_on (n := s + np_n U + np_n V) (by omega)
    have hone : ∀ k, k < np_n U * np_n V → ∀ j, j < 64 → nb (pb_one (t + k)) j = decide (j = t + k) := fun k hk j _ => nb_one (by omega) j
    have gow : ∀ k : Nat, k < np_n U * np_n V → ∀ (x z : Int64) (f : Nat → Bool) (b : Bool), pb_b x s (np_n U + np_n V + k) f → f (np_n U + np_n V + k) = b → z = (if b = true then pb_one (t + k) else 0) → pb_b (x ||| z) s (np_n U + np_n V + k + 1) f := fun k hk x z f b hx hf hz => by
      rw [hz]
      exact pb_f1b hx (by omega) (hone k hk) (fun j _ => rfl) hf
    unfold pb_h425 at hP
    by_cases p43 : pc = 43
    · rw [if_pos p43] at hP
      cases hP
      subst p43
      obtain ⟨p, x7, x8, rfl, rfl, rfl, rfl, rfl, rfl, rfl, ⟨gI, gL⟩, hQ, hp, rfl⟩ := hh
      have ep := wi_on (n := s + p) (by omega)
      refine ⟨_, wm_t hT rfl, pp_b (c := 200) (by omega) (by omega), ?_⟩
      rw [ean, gI 511 a (by omega), a2]
      refine ⟨fun w => ?_, fun w => ?_⟩
      · rw [wi_le, eu, ep] at w
        have e : p = np_n U := by omega
        subst e
        obtain ⟨q1, q2, q3, q4, q5⟩ := hQ
        rw [Nat.mul_comm] at q1 q2 q3 q4 q5
        exact ⟨1000 * (64 - 0) + 999, by omega, 0, _, _, _, _, rfl, rfl, rfl, rfl, rfl, rfl, rfl, ⟨gI, gL⟩, ⟨q1, q2, fun i hi => by omega, fun i _ hi => q3 i hi, q4, q5⟩, fun hx => q3 0 hx, Nat.zero_le _, rfl⟩
      · rw [wi_le, eu, ep] at w
        refine ⟨_, wm_t hT rfl, pp_b (c := 200) (by omega) (by omega), ?_⟩
        rw [ebn, gI 510 b (by omega), b1]
        exact ⟨1000000 + 1000 * (64 - p) + 10 * (64 - 0) + 9, by omega, p, 0, _, rfl, rfl, rfl, rfl, rfl, rfl, rfl, ⟨gI, gL⟩, hQ, by omega, Nat.zero_le _, rfl⟩
    rw [if_neg p43] at hP
    by_cases p62 : pc = 62
    · rw [if_pos p62] at hP
      cases hP
      subst p62
      obtain ⟨p, q1, x8, rfl, rfl, rfl, rfl, rfl, rfl, rfl, ⟨gI, gL⟩, hQ, hp, hq, rfl⟩ := hh
      have eq := wi_on (n := s + np_n U + q1) (by omega)
      have eqn := wi_onn (n := s + np_n U + q1) (by omega)
      have epn := wi_onn (n := s + p) (by omega)
      refine ⟨_, wm_t hT rfl, pp_b (c := 200) (by omega) (by omega), ?_⟩
      rw [ebn, gI 511 b (by omega), b2]
      refine ⟨fun w => ?_, fun w => ?_⟩
      · rw [wi_le, ev, eq] at w
        have e : q1 = np_n V := by omega
        subst e
        refine ⟨1000000 + 1000 * (64 - (p + 1)) + 999, by omega, p + 1, pb_i (s + np_n U + np_n V), x8, ?_, rfl, rfl, rfl, rfl, rfl, rfl, ⟨gI, gL⟩, by rw [Nat.mul_add, Nat.mul_one]; exact hQ, by omega, rfl⟩
        unfold pb_l25 pb_i
        rw [← Nat.add_assoc, ← wq_4s (s + p)]
        rfl
      · rw [wi_le, ev, eq] at w
        have hqV : q1 < np_n V := by omega
        obtain ⟨m1, m2⟩ := pb_mul hp hqV
        obtain ⟨d1, d2⟩ := dv_at (n := np_n V) (k := p) hqV
        generalize hk : np_n V * p + q1 = k at hQ m1 d1 d2
        obtain ⟨k1, k2, k3, k4, k5⟩ := hQ
        refine ⟨_, wm_t hT rfl, pp_b (c := 64) (by omega) (by omega), ?_⟩
        refine ⟨_, wm_t hT rfl, pp_b (c := 64) (by omega) (by omega), ?_⟩
        rw [epn, eqn]
        refine ⟨L1 506 (s + p) &&& L1 506 (s + np_n U + q1), t + k, rfl, hT, k1, by omega, ?_⟩
        have etn := wi_onn (n := t + k) (by omega)
        generalize hL2 : wv_u (wv_u L1 506 (t + k) (L1 506 (s + p) &&& L1 506 (s + np_n U + q1))) 507 (t + k) 0 = L2
        have l6 : ∀ j, j < t + k → L2 506 j = L1 506 j ∧ L2 507 j = L1 507 j := fun j hj => by
          rw [← hL2, wv_u_no _ _ (by omega), wv_u_no _ _ (by omega), wv_u_no _ _ (by omega), wv_u_no _ _ (by omega)]
          exact ⟨rfl, rfl⟩
        have l6t : L2 506 (t + k) = L1 506 (s + p) &&& L1 506 (s + np_n U + q1) ∧ L2 507 (t + k) = 0 := by
          rw [← hL2, wv_u_at, wv_u_no _ _ (by omega), wv_u_at]
          exact ⟨rfl, rfl⟩
        have lo : ∀ c j, ¬ c = 506 → ¬ c = 507 → L2 c j = L1 c j := fun c j z1 z2 => by
          rw [← hL2, wv_u_no _ _ (by omega), wv_u_no _ _ (by omega)]
        have hM : pb_pM U V t (k + 1) L2 := fun i hi v hv => by
          by_cases c : i < k
          · rw [(l6 (t + i) (by omega)).1]
            exact k2 i c v hv
          · have ei : i = k := by omega
            subst ei
            rw [l6t.1, nb_and, d1, d2, (gL.2 (s + p) (by omega)).1, (gL.2 (s + np_n U + q1) (by omega)).1, (a3 p hp).1 v hv, (b3 q1 hqV).1 v hv]
        have h0 : ∀ i, i < k + 1 → L2 507 (t + i) = 0 := fun i hi => by
          by_cases c : i < k
          · rw [(l6 (t + i) (by omega)).2]
            exact k3 i c
          · have ei : i = k := by omega
            subst ei
            exact l6t.2
        have key : ∀ x : Int64, pb_b x s (np_n U + np_n V + k + 1) (np_F (np_and U V)) → pb_G3 n t I L (wv_u I1 460 75 (Int32.ofNat (t + k + 1))) (wv_u L2 512 n x) ∧ (wv_u I1 460 75 (Int32.ofNat (t + k + 1)) 460 75 = Int32.ofNat (t + (k + 1)) ∧ pb_pM U V t (k + 1) (wv_u L2 512 n x) ∧ (∀ i, i < k + 1 → wv_u L2 512 n x 507 (t + i) = 0) ∧ pb_b (wv_u L2 512 n x 512 n) s (np_n U + np_n V + k + 1) (np_F (np_and U V)) ∧ pb_b (wv_u L2 512 n x 513 n) s (np_n U + np_n V + k) (np_L (np_and U V))) := fun x hx => by
          refine ⟨⟨fun c j z => ?_, fun c j z1 z2 z3 => ?_, fun j hj => ?_⟩, wv_u_at _ _ _ _, fun i hi v hv => ?_, fun i hi => ?_, ?_, ?_⟩
          · rw [wv_u_no _ _ z]
            exact gI c j z
          · rw [wv_u_no _ _ (by omega), lo c j z1 z2]
            exact gL.1 c j z1 z2 z3
          · rw [wv_u_no _ _ (by omega), wv_u_no _ _ (by omega), (l6 j (by omega)).1, (l6 j (by omega)).2]
            exact gL.2 j hj
          · rw [wv_u_no _ _ (by omega)]
            exact hM i hi v hv
          · rw [wv_u_no _ _ (by omega)]
            exact h0 i hi
          · rw [wv_u_at]
            exact hx
          · rw [wv_u_no _ _ (by omega), lo 513 n (by omega) (by omega)]
            exact k5
        have hF := (np_and_F (U := U) (V := V) (i := k)).1
        rw [d1, d2] at hF
        have ca := pb_b_at (p := p) a4 hp (by omega)
        have cb2 := pb_b_at (p := q1) b4 hqV (by omega)
        have l512n : L2 512 n = L1 512 n := lo _ _ (by omega) (by omega)
        have l512a : L2 512 a = L 512 a := (lo _ _ (by omega) (by omega)).trans (gL.1 _ _ (by omega) (by omega) (by omega))
        have l512b : L2 512 b = L 512 b := (lo _ _ (by omega) (by omega)).trans (gL.1 _ _ (by omega) (by omega) (by omega))
        refine ⟨_, wm_t hT rfl, pp_b (c := 200) (by omega) (by omega), ?_⟩
        refine ⟨_, wm_t hT rfl, pp_b (c := 200) (by omega) (by omega), ?_⟩
        rw [enn, ean]
        refine ⟨L2 512 a, s + p, rfl, by omega, ?_⟩
        rw [l512a, ca, l512n]
        refine ⟨fun w1 => ?_, fun w1 => ?_⟩
        · have w1 : np_F U p = false := wb_i_2.mp (fun z => z w1)
          refine ⟨_, wm_t hT rfl, pp_b (c := 200) (by omega) (by omega), (by decide), ?_⟩
          rw [enn]
          obtain ⟨y1, y2⟩ := key _ (gow k m1 _ 0 _ _ k4 hF (by rw [w1]; rfl))
          exact ⟨1000000 + 1000 * (64 - p) + 10 * (64 - q1), by omega, p, q1, k, rfl, rfl, rfl, rfl, rfl, rfl, rfl, y1, hk.symm, y2, hp, hqV, rfl⟩
        have w1 : np_F U p = true := wb_i_1.mp w1
        refine ⟨_, wm_t hT rfl, pp_b (c := 200) (by omega) (by omega), ?_⟩
        rw [ebn]
        refine ⟨L2 512 b, s + np_n U + q1, rfl, by omega, ?_⟩
        rw [l512b, cb2]
        refine ⟨fun w2 => ?_, fun w2 => ?_⟩
        · have w2 : np_F V q1 = false := wb_i_2.mp (fun z => z w2)
          refine ⟨_, wm_t hT rfl, pp_b (c := 200) (by omega) (by omega), (by decide), ?_⟩
          rw [enn]
          obtain ⟨y1, y2⟩ := key _ (gow k m1 _ 0 _ _ k4 hF (by rw [w2, Bool.and_false]; rfl))
          exact ⟨1000000 + 1000 * (64 - p) + 10 * (64 - q1), by omega, p, q1, k, rfl, rfl, rfl, rfl, rfl, rfl, rfl, y1, hk.symm, y2, hp, hqV, rfl⟩
        · have w2 : np_F V q1 = true := wb_i_1.mp w2
          refine ⟨_, wm_t hT rfl, pp_b (c := 200) (by omega) (by omega), (by decide), ?_⟩
          rw [enn]
          obtain ⟨y1, y2⟩ := key _ (gow k m1 _ (pb_one (t + k)) _ _ k4 hF (by rw [w1, w2]; rfl))
          exact ⟨1000000 + 1000 * (64 - p) + 10 * (64 - q1), by omega, p, q1, k, rfl, rfl, rfl, rfl, rfl, rfl, rfl, y1, hk.symm, y2, hp, hqV, rfl⟩
    rw [if_neg p62] at hP
    by_cases p139 : pc = 139
    · rw [if_pos p139] at hP
      cases hP
      subst p139
      obtain ⟨p, q1, k, rfl, rfl, rfl, rfl, rfl, rfl, rfl, ⟨gI, gL⟩, hk, ⟨k1, k2, k3, k4, k5⟩, hp, hq, rfl⟩ := hh
      obtain ⟨m1, m2⟩ := pb_mul hp hq
      obtain ⟨d1, d2⟩ := dv_at (n := np_n V) (k := p) hq
      rw [← hk] at m1 d1 d2
      have key : ∀ x : Int64, pb_b x s (np_n U + np_n V + k + 1) (np_L (np_and U V)) → pb_G3 n t I L I1 (wv_u L1 513 n x) ∧ pb_p1 U V n s t (np_n V * p + (q1 + 1)) I1 (wv_u L1 513 n x) := fun x hx => by
        rw [← Nat.add_assoc, ← hk]
        refine ⟨⟨gI, fun c j z1 z2 z3 => ?_, fun j hj => ?_⟩, k1, fun i hi v hv => ?_, fun i hi => ?_, ?_, ?_⟩
        · rw [wv_u_no _ _ (by omega)]
          exact gL.1 c j z1 z2 z3
        · rw [wv_u_no _ _ (by omega), wv_u_no _ _ (by omega)]
          exact gL.2 j hj
        · rw [wv_u_no _ _ (by omega)]
          exact k2 i hi v hv
        · rw [wv_u_no _ _ (by omega)]
          exact k3 i hi
        · rw [wv_u_no _ _ (by omega)]
          exact k4
        · rw [wv_u_at]
          exact hx
      have hF := (np_and_F (U := U) (V := V) (i := k)).2
      rw [d1, d2] at hF
      have ca := pb_b_at (p := p) a5 hp (by omega)
      have cb2 := pb_b_at (p := q1) b5 hq (by omega)
      have l513a : L1 513 a = L 513 a := gL.1 _ _ (by omega) (by omega) (by omega)
      have l513b : L1 513 b = L 513 b := gL.1 _ _ (by omega) (by omega) (by omega)
      have el : pb_l25 n a b (np_n V) t (pb_i (s + p)) (some (.int (Int32.ofNat (s + np_n U + q1) + Int32.ofInt 1))) (pb_i (t + k)) none none = pb_l25 n a b (np_n V) t (pb_i (s + p)) (pb_i (s + np_n U + (q1 + 1))) (pb_i (t + k)) none none := by
        rw [wq_4s]
        rfl
      refine ⟨_, wm_t hT rfl, pp_b (c := 200) (by omega) (by omega), ?_⟩
      refine ⟨_, wm_t hT rfl, pp_b (c := 200) (by omega) (by omega), ?_⟩
      rw [enn, ean]
      refine ⟨L1 513 a, s + p, rfl, by omega, ?_⟩
      rw [l513a, ca]
      refine ⟨fun w1 => ?_, fun w1 => ?_⟩
      · have w1 : np_L U p = false := wb_i_2.mp (fun z => z w1)
        refine ⟨_, wm_t hT rfl, pp_b (c := 200) (by omega) (by omega), (by decide), ?_⟩
        rw [enn]
        obtain ⟨y1, y2⟩ := key _ (gow k m1 _ 0 _ _ k5 hF (by rw [w1]; rfl))
        exact ⟨1000000 + 1000 * (64 - p) + 10 * (64 - (q1 + 1)) + 9, by omega, p, q1 + 1, _, el, rfl, rfl, rfl, rfl, rfl, rfl, y1, y2, hp, by omega, rfl⟩
      have w1 : np_L U p = true := wb_i_1.mp w1
      refine ⟨_, wm_t hT rfl, pp_b (c := 200) (by omega) (by omega), ?_⟩
      rw [ebn]
      refine ⟨L1 513 b, s + np_n U + q1, rfl, by omega, ?_⟩
      rw [l513b, cb2]
      refine ⟨fun w2 => ?_, fun w2 => ?_⟩
      · have w2 : np_L V q1 = false := wb_i_2.mp (fun z => z w2)
        refine ⟨_, wm_t hT rfl, pp_b (c := 200) (by omega) (by omega), (by decide), ?_⟩
        rw [enn]
        obtain ⟨y1, y2⟩ := key _ (gow k m1 _ 0 _ _ k5 hF (by rw [w2, Bool.and_false]; rfl))
        exact ⟨1000000 + 1000 * (64 - p) + 10 * (64 - (q1 + 1)) + 9, by omega, p, q1 + 1, _, el, rfl, rfl, rfl, rfl, rfl, rfl, y1, y2, hp, by omega, rfl⟩
      · have w2 : np_L V q1 = true := wb_i_1.mp w2
        refine ⟨_, wm_t hT rfl, pp_b (c := 200) (by omega) (by omega), (by decide), ?_⟩
        rw [enn]
        obtain ⟨y1, y2⟩ := key _ (gow k m1 _ (pb_one (t + k)) _ _ k5 hF (by rw [w1, w2]; rfl))
        exact ⟨1000000 + 1000 * (64 - p) + 10 * (64 - (q1 + 1)) + 9, by omega, p, q1 + 1, _, el, rfl, rfl, rfl, rfl, rfl, rfl, y1, y2, hp, by omega, rfl⟩
    rw [if_neg p139] at hP
    by_cases p200 : pc = 200
    · rw [if_pos p200] at hP
      cases hP
      subst p200
      obtain ⟨x, x7, x8, x9, x10, rfl, rfl, rfl, rfl, rfl, rfl, rfl, ⟨gI, gL⟩, hQ, hx0, hx, rfl⟩ := hh
      obtain ⟨q1, q2, q3, q4, q5, q6⟩ := hQ
      have ex := wi_on (n := t + x) (by omega)
      have em := wi_on (n := t + np_n U * np_n V) (by omega)
      refine ⟨fun w => ?_, fun w => ?_⟩
      · rw [q1, wi_le, em, ex] at w
        have e : x = np_n U * np_n V := by omega
        rw [e] at q3
        have fin : ∀ (bb : Bool), bb = (np_e U && np_e V) → q (.inl none) T1 N1 (wv_u I1 514 n (vp_nar .boolean (wb_i bb))) L1 R1 0 0 := fun bb hbb => by
          refine h _ _ ?_ ?_ ?_ q5 q6 ?_ ?_
          · rw [wv_u_no _ _ (by omega)]
            exact q1
          · rw [wv_u_at, hbb]
            cases (np_e U && np_e V) <;> rfl
          · exact pb_andP a3 b3 ht gL.2 q2 q3
          · intro c j z1 z2
            rw [wv_u_no _ _ (by omega)]
            exact gI c j z1
          · exact ⟨gL.1, fun j hj => gL.2 j (by omega)⟩
        refine ⟨2, _, Or.inl rfl, wm_t hT rfl, pp_b (c := 200) (by omega) (by omega), ?_⟩
        rw [ean, gI 514 a (by omega), a6]
        refine ⟨fun w1 => ?_, fun w1 => ?_⟩
        · have w1 : np_e U = false := wb_i_2.mp (fun z => z w1)
          refine ⟨_, wm_t hT rfl, pp_b (c := 200) (by omega) (by omega), (by decide), ?_⟩
          rw [enn]
          exact fin false (by rw [w1]; rfl)
        have w1 : np_e U = true := wb_i_1.mp w1
        refine ⟨2, _, Or.inl rfl, wm_t hT rfl, pp_b (c := 200) (by omega) (by omega), ?_⟩
        rw [ebn, gI 514 b (by omega), b6]
        refine ⟨fun w2 => ?_, fun w2 => ?_⟩
        · have w2 : np_e V = false := wb_i_2.mp (fun z => z w2)
          refine ⟨_, wm_t hT rfl, pp_b (c := 200) (by omega) (by omega), (by decide), ?_⟩
          rw [enn]
          exact fin false (by rw [w2, Bool.and_false])
        · have w2 : np_e V = true := wb_i_1.mp w2
          refine ⟨_, wm_t hT rfl, pp_b (c := 200) (by omega) (by omega), (by decide), ?_⟩
          rw [enn]
          exact fin true (by rw [w1, w2]; rfl)
      · rw [q1, wi_le, em, ex] at w
        have hxm : x < np_n U * np_n V := by omega
        have hx2 : x < np_n V * np_n U := by
          rw [Nat.mul_comm]
          exact hxm
        obtain ⟨d1, d2⟩ := dv_lt hx2
        have es : Int32.ofNat (t + x) - Int32.ofNat t = Int32.ofNat x := by
          rw [mr_sub (by omega) (by omega), Nat.add_sub_cancel_left]
        have nz : ¬ Int32.ofNat (np_n V) = 0 := fun z => by
          rw [wi_eq, wi_on (by omega), wi_0] at z
          omega
        refine ⟨_, wm_t hT rfl, pp_b (c := 200) (by omega) (by omega), nz, ?_⟩
        refine ⟨_, wm_t hT rfl, pp_b (c := 200) (by omega) (by omega), nz, ?_⟩
        rw [ean, ebn, gI 510 a (by omega), gI 510 b (by omega), a1, b1, es, wi_rn (by omega) (by omega), wi_dn (by omega) (by omega), wi_ona]
        refine ⟨1000 * (64 - x) + 10 * (64 - 0) + 9, by omega, x, 0, x10, by unfold pb_l25 pb_i; rw [← wi_ona (s + np_n U)]; rfl, rfl, rfl, rfl, rfl, rfl, rfl, ⟨gI, gL⟩, ⟨q1, q2, q3, q4, q5, q6⟩, ?_, hxm, Nat.zero_le _, rfl⟩
        rw [hx0 hxm]
        exact pb_bz (fun j hj => (np_and_0 hj).2.2 x)
    rw [if_neg p200] at hP
    by_cases p247 : pc = 247
    · rw [if_pos p247] at hP
      cases hP
      subst p247
      obtain ⟨x, y, x10, rfl, rfl, rfl, rfl, rfl, rfl, rfl, ⟨gI, gL⟩, hQ, hX, hx, hy, rfl⟩ := hh
      have hQ2 := hQ
      obtain ⟨q1, q2, q3, q4, q5, q6⟩ := hQ
      have ey := wi_on (n := t + y) (by omega)
      have em := wi_on (n := t + np_n U * np_n V) (by omega)
      have hx2 : x < np_n V * np_n U := by
        rw [Nat.mul_comm]
        exact hx
      obtain ⟨d1, d2⟩ := dv_lt hx2
      refine ⟨fun w => ?_, fun w => ?_⟩
      · rw [q1, wi_le, em, ey] at w
        have e : y = np_n U * np_n V := by omega
        rw [e] at hX
        refine ⟨1000 * (64 - (x + 1)) + 999, by omega, x + 1, pb_i (s + x / np_n V), pb_i (s + np_n U + x % np_n V), pb_i (t + y), x10, ?_, rfl, rfl, rfl, rfl, rfl, rfl, ⟨gI, gL⟩, ⟨q1, q2, fun i hi => ?_, fun i h1 h2 => q4 i (by omega) h2, q5, q6⟩, fun z => q4 (x + 1) (by omega) z, by omega, rfl⟩
        · unfold pb_l25 pb_i
          rw [← Nat.add_assoc, ← wq_4s (t + x)]
          rfl
        · by_cases c : i < x
          · exact q3 i c
          · have ei : i = x := by omega
            subst ei
            exact hX
      · rw [q1, wi_le, em, ey] at w
        have hym : y < np_n U * np_n V := by omega
        have hy2 : y < np_n V * np_n U := by
          rw [Nat.mul_comm]
          exact hym
        obtain ⟨e1, e2⟩ := dv_lt hy2
        have es : Int32.ofNat (t + y) - Int32.ofNat t = Int32.ofNat y := by
          rw [mr_sub (by omega) (by omega), Nat.add_sub_cancel_left]
        have nz : ¬ Int32.ofNat (np_n V) = 0 := fun z => by
          rw [wi_eq, wi_on (by omega), wi_0] at z
          omega
        have exn := wi_onn (n := s + x / np_n V) (by omega)
        have exm := wi_onn (n := s + np_n U + x % np_n V) (by omega)
        have bU := pb_b_at (p := y / np_n V) (a3 (x / np_n V) d1).2 e1 (by omega)
        have bV := pb_b_at (p := y % np_n V) (b3 (x % np_n V) d2).2 e2 (by omega)
        have hB := np_and_B (U := U) (V := V) (i := x) (j := y)
        refine ⟨_, wm_t hT rfl, pp_b (c := 64) (by omega) (by omega), ?_⟩
        refine ⟨_, wm_t hT rfl, pp_b (c := 200) (by omega) (by omega), nz, ?_⟩
        rw [exn, ean, gI 510 a (by omega), a1, es, wi_dn (by omega) (by omega)]
        refine ⟨L1 507 (s + x / np_n V), s + y / np_n V, congrArg (fun z => [Value.long (L1 507 (s + x / np_n V)), Value.int z]) (wi_ona s (y / np_n V)), by omega, ?_⟩
        rw [(gL.2 (s + x / np_n V) (by omega)).2, bU]
        refine ⟨fun w1 => ?_, fun w1 => ?_⟩
        · have w1 : np_B U (x / np_n V) (y / np_n V) = false := wb_i_2.mp (fun z => z w1)
          exact ⟨1000 * (64 - x) + 10 * (64 - y), by omega, x, y, false, _, rfl, rfl, rfl, rfl, rfl, rfl, rfl, ⟨gI, gL⟩, hQ2, hX, hx, hym, by rw [hB, w1]; rfl, rfl⟩
        have w1 : np_B U (x / np_n V) (y / np_n V) = true := wb_i_1.mp w1
        refine ⟨_, wm_t hT rfl, pp_b (c := 64) (by omega) (by omega), ?_⟩
        refine ⟨_, wm_t hT rfl, pp_b (c := 200) (by omega) (by omega), nz, ?_⟩
        rw [exm, ebn, gI 510 b (by omega), b1, es, wi_rn (by omega) (by omega)]
        refine ⟨L1 507 (s + np_n U + x % np_n V), s + np_n U + y % np_n V, congrArg (fun z => [Value.long (L1 507 (s + np_n U + x % np_n V)), Value.int z]) (wi_ona (s + np_n U) (y % np_n V)), by omega, ?_⟩
        rw [(gL.2 (s + np_n U + x % np_n V) (by omega)).2, bV]
        refine ⟨fun w2 => ?_, fun w2 => ?_⟩
        · have w2 : np_B V (x % np_n V) (y % np_n V) = false := wb_i_2.mp (fun z => z w2)
          exact ⟨1000 * (64 - x) + 10 * (64 - y), by omega, x, y, false, _, rfl, rfl, rfl, rfl, rfl, rfl, rfl, ⟨gI, gL⟩, hQ2, hX, hx, hym, by rw [hB, w2, Bool.and_false], rfl⟩
        · have w2 : np_B V (x % np_n V) (y % np_n V) = true := wb_i_1.mp w2
          exact ⟨1000 * (64 - x) + 10 * (64 - y), by omega, x, y, true, _, rfl, rfl, rfl, rfl, rfl, rfl, rfl, ⟨gI, gL⟩, hQ2, hX, hx, hym, by rw [hB, w1, w2]; rfl, rfl⟩
    rw [if_neg p247] at hP
    by_cases p317 : pc = 317
    · rw [if_pos p317] at hP
      cases hP
      subst p317
      obtain ⟨x, y, g, x10, rfl, rfl, rfl, rfl, rfl, rfl, rfl, ⟨gI, gL⟩, ⟨q1, q2, q3, q4, q5, q6⟩, hX, hx, hy, hg, rfl⟩ := hh
      have exn := wi_onn (n := t + x) (by omega)
      have key : ∀ z : Int64, pb_b z s (np_n U + np_n V + y + 1) (np_B (np_and U V) (np_n U + np_n V + x)) → pb_G3 n t I L I1 (wv_u L1 507 (t + x) z) ∧ pb_p2 U V n s t x (np_n U * np_n V) I1 (wv_u L1 507 (t + x) z) ∧ pb_b (wv_u L1 507 (t + x) z 507 (t + x)) s (np_n U + np_n V + (y + 1)) (np_B (np_and U V) (np_n U + np_n V + x)) := fun z hz => by
        refine ⟨⟨gI, fun c j z1 z2 z3 => ?_, fun j hj => ?_⟩, ⟨q1, fun i hi v hv => ?_, fun i hi => ?_, fun i h1 h2 => ?_, ?_, ?_⟩, ?_⟩
        · rw [wv_u_no _ _ (by omega)]
          exact gL.1 c j z1 z2 z3
        · rw [wv_u_no _ _ (by omega), wv_u_no _ _ (by omega)]
          exact gL.2 j hj
        · rw [wv_u_no _ _ (by omega)]
          exact q2 i hi v hv
        · rw [wv_u_no _ _ (by omega)]
          exact q3 i hi
        · rw [wv_u_no _ _ (by omega)]
          exact q4 i h1 h2
        · rw [wv_u_no _ _ (by omega)]
          exact q5
        · rw [wv_u_no _ _ (by omega)]
          exact q6
        · rw [wv_u_at]
          exact hz
      have el : ∀ gv : Int32, pb_l25 n a b (np_n V) t (pb_i (t + x)) (pb_i (s + x / np_n V)) (pb_i (s + np_n U + x % np_n V)) (some (.int (Int32.ofNat (t + y) + Int32.ofInt 1))) (some (.int gv)) = pb_l25 n a b (np_n V) t (pb_i (t + x)) (pb_i (s + x / np_n V)) (pb_i (s + np_n U + x % np_n V)) (pb_i (t + (y + 1))) (some (.int gv)) := fun gv => by
        rw [wq_4s]
        rfl
      refine ⟨_, wm_t hT rfl, pp_b (c := 64) (by omega) (by omega), ?_⟩
      rw [exn]
      refine ⟨fun w1 => ?_, fun w1 => ?_⟩
      · have w1 : g = false := wb_i_2.mp (fun z => z w1)
        refine ⟨_, wm_t hT rfl, pp_b (c := 64) (by omega) (by omega), (by decide), ?_⟩
        rw [exn]
        obtain ⟨y1, y2, y3⟩ := key _ (gow y hy _ 0 _ g hX hg.symm (by rw [w1]; rfl))
        exact ⟨1000 * (64 - x) + 10 * (64 - (y + 1)) + 9, by omega, x, y + 1, _, el _, rfl, rfl, rfl, rfl, rfl, rfl, y1, y2, y3, hx, by omega, rfl⟩
      · have w1 : g = true := wb_i_1.mp w1
        refine ⟨_, wm_t hT rfl, pp_b (c := 64) (by omega) (by omega), (by decide), ?_⟩
        rw [exn]
        obtain ⟨y1, y2, y3⟩ := key _ (gow y hy _ (pb_one (t + y)) _ g hX hg.symm (by rw [w1]; rfl))
        exact ⟨1000 * (64 - x) + 10 * (64 - (y + 1)) + 9, by omega, x, y + 1, _, el _, rfl, rfl, rfl, rfl, rfl, rfl, y1, y2, y3, hx, by omega, rfl⟩
    rw [if_neg p317] at hP
    cases hP
