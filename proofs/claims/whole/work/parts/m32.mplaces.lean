/-! ===== the reference: the places of a node ===== -/
theorem np_op_60 {x : nq_N} {c ca : Nat → Bool} {U V : np_A} (h : nq_k x = 60) : np_op x c ca U V = np_cond c := by
  unfold np_op
  rw [if_pos h]
theorem np_op_23 {x : nq_N} {c ca : Nat → Bool} {U V : np_A} (h : nq_k x = 23) : np_op x c ca U V = np_then U V := by
  unfold np_op
  rw [if_neg (by omega), if_pos h]
theorem np_op_24 {x : nq_N} {c ca : Nat → Bool} {U V : np_A} (h : nq_k x = 24) : np_op x c ca U V = np_fuse U V (np_fp U V (np_n U)) := by
  unfold np_op
  rw [if_neg (by omega), if_neg (by omega), if_pos h]
theorem np_op_25 {x : nq_N} {c ca : Nat → Bool} {U V : np_A} (h : nq_k x = 25) : np_op x c ca U V = np_or U V := by
  unfold np_op
  rw [if_neg (by omega), if_neg (by omega), if_neg (by omega), if_pos h]
theorem np_op_26 {x : nq_N} {c ca : Nat → Bool} {U V : np_A} (h : nq_k x = 26) : np_op x c ca U V = np_and U V := by
  unfold np_op
  rw [if_neg (by omega), if_neg (by omega), if_neg (by omega), if_neg (by omega), if_pos h]
theorem np_op_40 {x : nq_N} {c ca : Nat → Bool} {U V : np_A} (h : nq_k x = 40) : np_op x c ca U V = np_star true U := by
  unfold np_op
  rw [if_neg (by omega), if_neg (by omega), if_neg (by omega), if_neg (by omega), if_neg (by omega), if_pos h]
theorem np_op_41 {x : nq_N} {c ca : Nat → Bool} {U V : np_A} (h : nq_k x = 41) : np_op x c ca U V = np_star false U := by
  unfold np_op
  rw [if_neg (by omega), if_neg (by omega), if_neg (by omega), if_neg (by omega), if_neg (by omega), if_neg (by omega), if_pos h]
theorem np_op_42 {x : nq_N} {c ca : Nat → Bool} {U V : np_A} (h : nq_k x = 42) : np_op x c ca U V = np_times (nq_a x) (nq_b x) U := by
  unfold np_op
  rw [if_neg (by omega), if_neg (by omega), if_neg (by omega), if_neg (by omega), if_neg (by omega), if_neg (by omega), if_neg (by omega), if_pos h]
theorem np_op_oc {x : nq_N} {c ca : Nat → Bool} {U V : np_A} (h : 43 ≤ nq_k x ∧ nq_k x ≤ 44) : np_op x c ca U V = np_occ (nq_a x) (decide (nq_k x = 44)) ca := by
  unfold np_op
  rw [if_neg (by omega), if_neg (by omega), if_neg (by omega), if_neg (by omega), if_neg (by omega), if_neg (by omega), if_neg (by omega), if_neg (by omega)]
def pb_F3 (n : Nat) (I I1 : Nat → Nat → Int32) : Prop := ∀ c j, ¬ (c = 460 ∧ j = 75) → ¬ ((c = 510 ∨ c = 511 ∨ c = 514) ∧ j = n) → I1 c j = I c j
/-- the node's children are the last roots -/
def pb_in (S : rn_N) (z n a b s : Nat) (A B : np_A) (I : Nat → Nat → Int32) (L : Nat → Nat → Int64) : Prop := (rn_k S z = 60 → I 460 75 = Int32.ofNat s) ∧ (¬ rn_k S z = 60 → I 509 (nq_l (rn_d S z)) = Int32.ofNat a ∧ a < n ∧ pb_T I L a s A ∧ (nq_two (rn_k S z) → I 509 (nq_r (rn_d S z)) = Int32.ofNat b ∧ b < n ∧ pb_T I L b (s + np_n A) B ∧ I 460 75 = Int32.ofNat (s + np_n A + np_n B)) ∧ (¬ nq_two (rn_k S z) → I 460 75 = Int32.ofNat (s + np_n A)))
def pb_op (S : rn_N) (z : Nat) (A B : np_A) : np_A := np_op (rn_d S z) (rn_h S z) (rn_h S (nq_l (rn_d S z))) A B
def pb_l19 (S : rn_N) (z n : Nat) (x4 x5 x6 x7 x8 : Option Value) : List (Option Value) := [some (.ref 460), some (.int (Int32.ofNat z)), some (.int (Int32.ofNat n)), some (.int (Int32.ofNat (rn_k S z))), x4, x5, x6, x7, x8, none, none]
def pb_v4 (S : rn_N) (z : Nat) : Option Value := some (.int (wb_i (decide (rn_k S z = 60))))
def pb_va (S : rn_N) (z a : Nat) (va : Int32) : Prop := ¬ rn_k S z = 60 → va = Int32.ofNat a
def pb_vb (S : rn_N) (z b : Nat) (vb : Int32) : Prop := nq_two (rn_k S z) → vb = Int32.ofNat b
def pb_h419 (S : rn_N) (z n a b s : Nat) (A B : np_A) (T : wv_T) (N : Nat) (I : Nat → Nat → Int32) (L : Nat → Nat → Int64) (R : Nat → Nat → Option Nat) : Nat → Option (Nat → wv_P) := fun pc =>
  if pc = 49 then some (fun mm lv st T1 N1 I1 L1 R1 nc ns => ∃ (va : Int32), lv = pb_l19 S z n (pb_v4 S z) (some (.int va)) none none none ∧ st = [] ∧ T1 = T ∧ N1 = N ∧ R1 = R ∧ nc = 0 ∧ ns = 0 ∧ pb_va S z a va ∧ I1 = I ∧ L1 = L ∧ mm = 100)
  else if pc = 90 then some (fun mm lv st T1 N1 I1 L1 R1 nc ns => ∃ (va vb : Int32) (x6 : Option Value), lv = pb_l19 S z n (pb_v4 S z) (some (.int va)) x6 (some (.int vb)) none ∧ st = [] ∧ T1 = T ∧ N1 = N ∧ R1 = R ∧ nc = 0 ∧ ns = 0 ∧ pb_va S z a va ∧ pb_vb S z b vb ∧ I1 = I ∧ L1 = L ∧ mm = 99)
  else if pc = 115 then some (fun mm lv st T1 N1 I1 L1 R1 nc ns => ∃ (va vb : Int32) (x6 : Option Value), lv = pb_l19 S z n (pb_v4 S z) (some (.int va)) x6 (some (.int vb)) none ∧ st = [] ∧ T1 = T ∧ N1 = N ∧ R1 = R ∧ nc = 0 ∧ ns = 0 ∧ pb_va S z a va ∧ pb_vb S z b vb ∧ I1 = wv_u I 510 n (Int32.ofNat s) ∧ L1 = L ∧ mm = 98)
  else if pc = 292 then some (fun mm lv st T1 N1 I1 L1 R1 nc ns => ∃ (x6 : Option Value), lv = pb_l19 S z n (pb_v4 S z) (pb_i a) x6 (pb_i b) none ∧ st = [] ∧ T1 = T ∧ N1 = N ∧ R1 = R ∧ nc = 0 ∧ ns = 0 ∧ rn_k S z = 23 ∧ I1 = wv_u I 510 n (Int32.ofNat s) ∧ pb_P L1 s (pb_op S z A B) ∧ pb_b (L1 512 n) s (np_n A + np_n B) (np_F (pb_op S z A B)) ∧ pb_G2 n s L L1 ∧ mm = 97)
  else if pc = 333 then some (fun mm lv st T1 N1 I1 L1 R1 nc ns => ∃ (x6 : Option Value), lv = pb_l19 S z n (pb_v4 S z) (pb_i a) x6 (pb_i b) none ∧ st = [] ∧ T1 = T ∧ N1 = N ∧ R1 = R ∧ nc = 0 ∧ ns = 0 ∧ rn_k S z = 23 ∧ I1 = wv_u I 510 n (Int32.ofNat s) ∧ pb_P L1 s (pb_op S z A B) ∧ pb_b (L1 512 n) s (np_n A + np_n B) (np_F (pb_op S z A B)) ∧ pb_b (L1 513 n) s (np_n A + np_n B) (np_L (pb_op S z A B)) ∧ pb_G2 n s L L1 ∧ mm = 96)
  else if pc = 591 then some (fun mm lv st T1 N1 I1 L1 R1 nc ns => ∃ (x5 x6 x7 x8 : Option Value), lv = pb_l19 S z n (pb_v4 S z) x5 x6 x7 x8 ∧ st = [] ∧ T1 = T ∧ N1 = N ∧ R1 = R ∧ nc = 0 ∧ ns = 0 ∧ I1 510 n = Int32.ofNat s ∧ I1 460 75 = Int32.ofNat (s + np_n (pb_op S z A B)) ∧ pb_P L1 s (pb_op S z A B) ∧ pb_b (L1 512 n) s (np_n (pb_op S z A B)) (np_F (pb_op S z A B)) ∧ pb_b (L1 513 n) s (np_n (pb_op S z A B)) (np_L (pb_op S z A B)) ∧ I1 514 n = wb_i (np_e (pb_op S z A B)) ∧ pb_F3 n I I1 ∧ pb_G2 n s L L1 ∧ mm = 1)
  else none
theorem pb_T_u {I : Nat → Nat → Int32} {L : Nat → Nat → Int64} {a n s : Nat} {x : Int32} {U : np_A} (h : pb_T I L a s U) (hn : a < n) : pb_T (wv_u I 510 n x) L a s U := pb_T_c h (fun _ _ => ⟨rfl, rfl⟩) ⟨wv_u_no _ _ (by omega), wv_u_no _ _ (by omega), wv_u_no _ _ (by omega)⟩ ⟨rfl, rfl⟩
theorem pb_F23 {n : Nat} {I I1 : Nat → Nat → Int32} {x : Int32} (h : pb_F2 n (wv_u I 510 n x) I1) : I1 510 n = x ∧ pb_F3 n I I1 := ⟨(h 510 n (by omega) (by omega)).trans (wv_u_at _ _ _ _), fun c j z1 z2 => by
  rw [h c j z1 (fun y => z2 ⟨by omega, y.2⟩)]
  exact wv_u_no _ _ (fun y => z2 ⟨Or.inl y.1, y.2⟩)⟩
def pb_c419 : wv_c1 := fun as T N I L R q => ∃ (S : rn_N) (m0 z n a b s : Nat) (A B : np_A), as = [.ref 460, .int (Int32.ofNat z)] ∧ pb_X T I S m0 ∧ z < rn_n S ∧ nq_row (rn_k S z) ∧ nq_wf (rn_d S) (rn_n S) ∧ I 509 z = Int32.ofNat n ∧ n < 200 ∧ pb_in S z n a b s A B I L ∧ s + np_n (pb_op S z A B) ≤ 63 ∧ (43 ≤ rn_k S z ∧ rn_k S z ≤ 44 → A = np_cond (rn_h S (nq_l (rn_d S z)))) ∧ (rn_k S z = 42 → nq_b (rn_d S z) < 900) ∧ (∀ I1 L1, pb_T I1 L1 n s (pb_op S z A B) → I1 460 75 = Int32.ofNat (s + np_n (pb_op S z A B)) → pb_F3 n I I1 → pb_G2 n s L L1 → q (.inl none) T N I1 L1 R 0 0)
set_option maxRecDepth 100000 in
theorem wM_419 : ∃ cb ci np, pt_mt 419 = some (32, cb, 9, false, none, ci, np) := ⟨_, _, _, rfl⟩
set_option maxRecDepth 100000 in
set_option maxHeartbeats 4000000 in
theorem pb_places {sc : pt_Sc} {d : Nat} : wv_C wm_fx sc (d + 1 + 1 + 1 + 1) 419 pb_c419 := by
  rintro as T N I L R q ⟨S, m0, z, n, a, b, s, A, B, rfl, hX, hz, hrow, hwf, h509, hn, ⟨hin0, hin1⟩, hfit, hoc, h42, h⟩ w0 HR
  obtain ⟨cb, ci, np, hm⟩ := wM_419
  have hc420 : wv_C wm_fx sc (d + 1 + 1 + 1) 420 pb_c420 := wv_C_deep (by omega) (pb_maskOf (d := d))
  have hc421 : wv_C wm_fx sc (d + 1 + 1 + 1) 421 pb_c421 := wv_C_deep (by omega) (pb_newPlace (d := d))
  have hc422 : wv_C wm_fx sc (d + 1 + 1 + 1) 422 pb_c422 := wv_C_deep (by omega) (pb_leadTo (d := d))
  have hc424 : wv_C wm_fx sc (d + 1 + 1 + 1) 424 pb_c424 := wv_C_deep (by omega) (pb_fuse (d := d))
  have hc425 : wv_C wm_fx sc (d + 1 + 1 + 1) 425 pb_c425 := wv_C_deep (by omega) (pb_pairUp (d := d))
  have hc426 : wv_C wm_fx sc (d + 1 + 1 + 1) 426 pb_c426 := wv_C_deep (by omega) (pb_repeat (d := d))
  have hc427 : wv_C wm_fx sc (d + 1 + 1 + 1) 427 pb_c427 := wv_C_deep (by omega) (pb_occur (d := d))
  refine wv_meth (hh := none) rfl (sp := wv_sp [(420, pb_c420), (421, pb_c421), (422, pb_c422), (424, pb_c424), (425, pb_c425), (426, pb_c426), (427, pb_c427)]) (hd := pb_h419 S z n a b s A B T N I L R) (n := 300) (n1 := 300) hm zc_419 rfl (wv_sp_ok (fun q hq => by
    rcases List.mem_cons.mp hq with h | h
    · rw [h]; exact hc420
    rcases List.mem_cons.mp h with h | h
    · rw [h]; exact hc421
    rcases List.mem_cons.mp h with h | h
    · rw [h]; exact hc422
    rcases List.mem_cons.mp h with h | h
    · rw [h]; exact hc424
    rcases List.mem_cons.mp h with h | h
    · rw [h]; exact hc425
    rcases List.mem_cons.mp h with h | h
    · rw [h]; exact hc426
    rw [List.mem_singleton.mp h]; exact hc427)) ?_ ?_ HR
  · obtain ⟨hT, hn5, hm0, hM⟩ := hX
    have ezn := wi_onn (n := z) (by omega)
    have enn := wi_onn (n := n) (by omega)
    have hk100 : rn_k S z < 100 := by unfold nq_row at hrow; omega
    have ek := wi_on (n := rn_k S z) (by omega)
    have e469 : I 469 z = Int32.ofNat (rn_k S z) := (hM z hz).1
    have e60 : ((Int8.ofInt 60).toInt32).toInt = 60 := rfl
    have e23 : ((Int8.ofInt 23).toInt32).toInt = 23 := rfl
    have e26 : ((Int8.ofInt 26).toInt32).toInt = 26 := rfl
    have e40 : ((Int8.ofInt 40).toInt32).toInt = 40 := rfl
    have e44 : ((Int8.ofInt 44).toInt32).toInt = 44 := rfl
    have hw2 := hwf z hz hrow
    have hkd : nq_k (rn_d S z) = rn_k S z := rfl

    refine ⟨_, wm_t hT rfl, pp_b (c := 800) (by omega) (by omega), ?_⟩
    rw [ezn, h509]
    refine ⟨_, wm_t hT rfl, pp_b (c := 800) (by omega) (by omega), ?_⟩
    rw [ezn, e469]
    refine ⟨fun w => ?_, fun w => ?_⟩
    · rw [wi_eq, ek, e60] at w
      have c60 : ¬ rn_k S z = 60 := by omega
      obtain ⟨i1, i2, i3, i4, i5⟩ := hin1 c60
      have eln := wi_onn (n := nq_l (rn_d S z)) (by have := (hw2 c60).1.1; omega)
      obtain ⟨_, e2, e3⟩ := mr_nd (hM z hz) c60
      have hl := (hw2 c60).1.1
      refine ⟨fun w1 => ?_, fun w1 => (w1 rfl).elim⟩
      refine ⟨_, wm_t hT rfl, pp_b (c := 800) (by omega) (by omega), ?_⟩
      rw [ezn, e2]
      refine ⟨_, wm_t hT rfl, pp_b (c := 800) (by omega) (by omega), ?_⟩
      rw [eln, i1]
      refine ⟨100, Int32.ofNat a, ?_, rfl, rfl, rfl, rfl, rfl, rfl, fun _ => rfl, rfl, rfl, rfl⟩
      unfold pb_l19 pb_v4
      rw [decide_eq_false c60]
      rfl
    · rw [wi_eq, ek, e60] at w
      have c60 : rn_k S z = 60 := by omega
      refine ⟨fun w1 => absurd w1 (by decide), fun w1 => ?_⟩
      refine ⟨100, Int32.ofInt 0, ?_, rfl, rfl, rfl, rfl, rfl, rfl, fun y => (y c60).elim, rfl, rfl, rfl⟩
      unfold pb_l19 pb_v4
      rw [decide_eq_true c60]
      rfl
  · intro pc P hP m lv st T1 N1 I1 L1 R1 nc ns hh
    obtain ⟨hT, hn5, hm0, hM⟩ := hX
    have ezn := wi_onn (n := z) (by omega)
    have enn := wi_onn (n := n) (by omega)
    have hk100 : rn_k S z < 100 := by unfold nq_row at hrow; omega
    have ek := wi_on (n := rn_k S z) (by omega)
    have e469 : I 469 z = Int32.ofNat (rn_k S z) := (hM z hz).1
    have e60 : ((Int8.ofInt 60).toInt32).toInt = 60 := rfl
    have e23 : ((Int8.ofInt 23).toInt32).toInt = 23 := rfl
    have e26 : ((Int8.ofInt 26).toInt32).toInt = 26 := rfl
    have e40 : ((Int8.ofInt 40).toInt32).toInt = 40 := rfl
    have e44 : ((Int8.ofInt 44).toInt32).toInt = 44 := rfl
    have hw2 := hwf z hz hrow
    have hkd : nq_k (rn_d S z) = rn_k S z := rfl

    unfold pb_h419 at hP
    by_cases p49 : pc = 49
    · rw [if_pos p49] at hP
      cases hP
      subst p49
      obtain ⟨va, rfl, rfl, rfl, rfl, rfl, rfl, rfl, hva, rfl, rfl, rfl⟩ := hh
      refine ⟨fun w => ?_, fun w => ?_⟩
      · rw [wi_lt, ek, e23] at w
        refine ⟨fun w1 => ?_, fun w1 => (w1 rfl).elim⟩
        exact ⟨99, by omega, va, _, _, rfl, rfl, rfl, rfl, rfl, rfl, rfl, hva, fun y => by unfold nq_two at y; omega, rfl, rfl, rfl⟩
      · rw [wi_lt, ek, e23] at w
        refine ⟨fun w1 => ?_, fun w1 => ?_⟩
        · rw [wi_lt, ek, e26] at w1
          refine ⟨fun w2 => ?_, fun w2 => (w2 rfl).elim⟩
          exact ⟨99, by omega, va, _, _, rfl, rfl, rfl, rfl, rfl, rfl, rfl, hva, fun y => by unfold nq_two at y; omega, rfl, rfl, rfl⟩
        · rw [wi_lt, ek, e26] at w1
          have c60 : ¬ rn_k S z = 60 := by omega
          have c2 : nq_two (rn_k S z) := by unfold nq_two; omega
          obtain ⟨i1, i2, i3, i4, i5⟩ := hin1 c60
          obtain ⟨j1, j2, j3, j4⟩ := i4 c2
          have hr := ((hw2 c60).2.1 c2).1
          have ern := wi_onn (n := nq_r (rn_d S z)) (by omega)
          obtain ⟨_, e2, e3⟩ := mr_nd (hM z hz) c60
          refine ⟨fun w2 => absurd w2 (by decide), fun w2 => ?_⟩
          refine ⟨_, wm_t hT rfl, pp_b (c := 800) (by omega) (by omega), ?_⟩
          rw [ezn, e3]
          refine ⟨_, wm_t hT rfl, pp_b (c := 800) (by omega) (by omega), ?_⟩
          rw [ern, j1]
          exact ⟨99, by omega, va, _, _, rfl, rfl, rfl, rfl, rfl, rfl, rfl, hva, fun _ => rfl, rfl, rfl, rfl⟩
    rw [if_neg p49] at hP
    by_cases p90 : pc = 90
    · rw [if_pos p90] at hP
      cases hP
      subst p90
      obtain ⟨va, vb, x6, rfl, rfl, rfl, rfl, rfl, rfl, rfl, hva, hvb, rfl, rfl, rfl⟩ := hh
      refine ⟨fun w => ?_, fun w => ?_⟩
      · have c60 : ¬ rn_k S z = 60 := of_decide_eq_false (wb_i_2.mp (fun y => y w))
        obtain ⟨i1, i2, i3, i4, i5⟩ := hin1 c60
        have ea := hva c60
        subst ea
        have ean := wi_onn (n := a) (by omega)
        refine ⟨_, wm_t hT rfl, pp_b (c := 200) (by omega) (by omega), ?_⟩
        rw [ean, i3.1]
        refine ⟨_, wm_t hT rfl, pp_b (c := 200) (by omega) (by omega), (by decide), ?_⟩
        rw [enn]
        exact ⟨98, by omega, _, vb, _, rfl, rfl, rfl, rfl, rfl, rfl, rfl, hva, hvb, rfl, rfl, rfl⟩
      · have c60 : rn_k S z = 60 := of_decide_eq_true (wb_i_1.mp w)
        refine ⟨_, wm_t hT rfl, pp_b (c := 200) (by omega) (by omega), (by decide), ?_⟩
        rw [enn, hin0 c60]
        exact ⟨98, by omega, va, vb, _, rfl, rfl, rfl, rfl, rfl, rfl, rfl, hva, hvb, rfl, rfl, rfl⟩
    rw [if_neg p90] at hP
    by_cases p115 : pc = 115
    · rw [if_pos p115] at hP
      cases hP
      subst p115
      obtain ⟨va, vb, x6, rfl, rfl, rfl, rfl, rfl, rfl, rfl, hva, hvb, rfl, rfl, rfl⟩ := hh
      have XI : pb_X T1 (wv_u I 510 n (Int32.ofNat s)) S m0 := ⟨hT, hn5, hm0, fun x hx => rw_pn (hM x hx) (fun c j c1 c2 => wv_u_no _ _ (by omega))⟩
      have two : nq_two (rn_k S z) → ¬ rn_k S z = 60 ∧ va = Int32.ofNat a ∧ vb = Int32.ofNat b ∧ a < n ∧ b < n ∧ pb_T (wv_u I 510 n (Int32.ofNat s)) L1 a s A ∧ pb_T (wv_u I 510 n (Int32.ofNat s)) L1 b (s + np_n A) B ∧ wv_u I 510 n (Int32.ofNat s) 460 75 = Int32.ofNat (s + np_n A + np_n B) := fun c2 => by
        have c60 : ¬ rn_k S z = 60 := by unfold nq_two at c2; omega
        obtain ⟨i1, i2, i3, i4, i5⟩ := hin1 c60
        obtain ⟨j1, j2, j3, j4⟩ := i4 c2
        exact ⟨c60, hva c60, hvb c2, i2, j2, pb_T_u i3 i2, pb_T_u j3 j2, by rw [wv_u_no _ _ (by omega)]; exact j4⟩
      have one : ¬ rn_k S z = 60 → ¬ nq_two (rn_k S z) → va = Int32.ofNat a ∧ a < n ∧ pb_T (wv_u I 510 n (Int32.ofNat s)) L1 a s A ∧ wv_u I 510 n (Int32.ofNat s) 460 75 = Int32.ofNat (s + np_n A) := fun c60 c2 => by
        obtain ⟨i1, i2, i3, i4, i5⟩ := hin1 c60
        exact ⟨hva c60, i2, pb_T_u i3 i2, by rw [wv_u_no _ _ (by omega)]; exact i5 c2⟩
      refine ⟨fun w => ?_, fun n23 => ⟨fun w => ?_, fun n24 => ⟨fun w => ?_, fun n25 => ⟨fun w => ?_, fun n26 => ⟨fun w => ?_, fun n40 => ⟨fun w => ?_, fun n41 => ⟨fun w => ?_, fun n42 => ⟨fun w => ?_, fun n60 => ?_⟩⟩⟩⟩⟩⟩⟩⟩
      · rw [ek] at w
        have w : rn_k S z = 23 := by omega
        obtain ⟨c60, rfl, rfl, ha, hb, ⟨a1, a2, a3, a4, a5, a6⟩, ⟨b1, b2, b3, b4, b5, b6⟩, h75⟩ := two (by unfold nq_two; omega)
        have eO : pb_op S z A B = np_then A B := np_op_23 w
        have ean := wi_onn (n := a) (by omega)
        have ebn := wi_onn (n := b) (by omega)
        have hf2 : s + (np_n A + np_n B) ≤ 63 := by
          rw [eO] at hfit
          exact hfit
        refine ⟨_, wm_t hT rfl, pp_b (c := 200) (by omega) (by omega), ?_⟩
        refine ⟨_, wm_t hT rfl, pp_b (c := 200) (by omega) (by omega), ?_⟩
        rw [ean, ebn]
        refine ⟨L1 513 a, L1 512 b, s + np_n A + np_n B, rfl, hT, h75, by omega, ?_⟩
        have hP3 := pb_thenP (L1 := pb_ld L1 (s + np_n A + np_n B) (L1 513 a) (L1 512 b)) a3 b3 (by omega) (Nat.le_refl _) a5 b4 (fun p _ => ⟨pb_ld_6 (by omega), rfl⟩)
        have hG : ∀ x : Int64, pb_G2 n s L1 (wv_u (pb_ld L1 (s + np_n A + np_n B) (L1 513 a) (L1 512 b)) 512 n x) := fun x => ⟨fun c j y1 y2 y3 => by
          rw [wv_u_no _ _ (by omega), pb_ld_6 y2], fun j hj => by
          rw [wv_u_no _ _ (by omega), wv_u_no _ _ (by omega), pb_ld_6 (by omega), pb_ld_lo a5 hj (by omega)]
          exact ⟨rfl, rfl⟩⟩
        have hP4 : ∀ x : Int64, pb_P (wv_u (pb_ld L1 (s + np_n A + np_n B) (L1 513 a) (L1 512 b)) 512 n x) s (pb_op S z A B) := fun x => by
          rw [eO]
          exact pb_P_c hP3 (fun j _ => ⟨wv_u_no _ _ (by omega), wv_u_no _ _ (by omega)⟩)
        refine ⟨2, _, Or.inl rfl, wm_t hT rfl, pp_b (c := 200) (by omega) (by omega), ?_⟩
        rw [ean, a6]
        refine ⟨fun w1 => ?_, fun w1 => ?_⟩
        · have w1 : np_e A = false := wb_i_2.mp (fun y => y w1)
          refine ⟨_, wm_t hT rfl, pp_b (c := 200) (by omega) (by omega), ?_⟩
          rw [ean, pb_ld_6 (by omega)]
          refine ⟨_, wm_t hT rfl, pp_b (c := 200) (by omega) (by omega), (by decide), ?_⟩
          rw [enn]
          refine ⟨97, by omega, x6, rfl, rfl, rfl, rfl, rfl, rfl, rfl, w, rfl, hP4 _, ?_, hG _, rfl⟩
          rw [wv_u_at, eO]
          refine pb_b_c (pb_b_l a4 (np_n B)) (fun j hj => ?_)
          show _ = (if j < np_n A then np_F A j else np_e A && np_F B (j - np_n A))
          rw [w1, Bool.false_and]
        · have w1 : np_e A = true := wb_i_1.mp w1
          refine ⟨_, wm_t hT rfl, pp_b (c := 200) (by omega) (by omega), ?_⟩
          refine ⟨_, wm_t hT rfl, pp_b (c := 200) (by omega) (by omega), ?_⟩
          rw [ean, ebn, pb_ld_6 (by omega), pb_ld_6 (by omega)]
          refine ⟨_, wm_t hT rfl, pp_b (c := 200) (by omega) (by omega), (by decide), ?_⟩
          rw [enn]
          refine ⟨97, by omega, x6, rfl, rfl, rfl, rfl, rfl, rfl, rfl, w, rfl, hP4 _, ?_, hG _, rfl⟩
          rw [wv_u_at, eO]
          refine pb_b_c (pb_b_or a4 b4) (fun j hj => ?_)
          show _ = (if j < np_n A then np_F A j else np_e A && np_F B (j - np_n A))
          rw [w1, Bool.true_and]
      · rw [ek] at w
        have w : rn_k S z = 24 := by omega
        obtain ⟨c60, rfl, rfl, ha, hb, hA, hB, h75⟩ := two (by unfold nq_two; omega)
        have eO : pb_op S z A B = np_fuse A B (np_fp A B (np_n A)) := np_op_24 w
        have hf2 : s + (np_n A + np_n B + (np_fp A B (np_n A)).length) ≤ 63 := by
          rw [eO] at hfit
          exact hfit
        refine ⟨A, B, n, a, b, s, s + np_n A + np_n B, rfl, hT, hA, hB, rfl, by omega, h75, hn, ha, hb, fun I2 L2 k1 k2 k3 k4 k5 k6 k7 => ?_⟩
        obtain ⟨k8, k9⟩ := pb_F23 k6
        refine ⟨1, by omega, _, _, _, _, rfl, rfl, rfl, rfl, rfl, ?_, ?_, k8, ?_, ?_, ?_, ?_, ?_, k9, k7, rfl⟩
        · rfl
        · rfl
        · rw [k1, eO]
          congr 1
          show s + np_n A + np_n B + (np_fp A B (np_n A)).length = s + (np_n A + np_n B + (np_fp A B (np_n A)).length)
          omega
        · rw [eO]
          exact k3
        · rw [eO]
          exact k4
        · rw [eO]
          exact k5
        · rw [eO]
          exact k2
      · rw [ek] at w
        have w : rn_k S z = 25 := by omega
        obtain ⟨c60, rfl, rfl, ha, hb, ⟨a1, a2, a3, a4, a5, a6⟩, ⟨b1, b2, b3, b4, b5, b6⟩, h75⟩ := two (by unfold nq_two; omega)
        have eO : pb_op S z A B = np_or A B := np_op_25 w
        have ean := wi_onn (n := a) (by omega)
        have ebn := wi_onn (n := b) (by omega)
        refine ⟨_, wm_t hT rfl, pp_b (c := 200) (by omega) (by omega), ?_⟩
        refine ⟨_, wm_t hT rfl, pp_b (c := 200) (by omega) (by omega), ?_⟩
        rw [ean, ebn]
        refine ⟨_, wm_t hT rfl, pp_b (c := 200) (by omega) (by omega), (by decide), ?_⟩
        rw [enn]
        refine ⟨_, wm_t hT rfl, pp_b (c := 200) (by omega) (by omega), ?_⟩
        refine ⟨_, wm_t hT rfl, pp_b (c := 200) (by omega) (by omega), ?_⟩
        rw [ean, ebn, wv_u_no _ _ (by omega), wv_u_no _ _ (by omega)]
        refine ⟨_, wm_t hT rfl, pp_b (c := 200) (by omega) (by omega), (by decide), ?_⟩
        rw [enn]
        have hP3 : pb_P (wv_u (wv_u L1 512 n (L1 512 a ||| L1 512 b)) 513 n (L1 513 a ||| L1 513 b)) s (pb_op S z A B) := by
          rw [eO]
          exact pb_orP a3 b3 (fun j _ => ⟨by rw [wv_u_no _ _ (by omega), wv_u_no _ _ (by omega)], by rw [wv_u_no _ _ (by omega), wv_u_no _ _ (by omega)]⟩)
        have hG : pb_G2 n s L1 (wv_u (wv_u L1 512 n (L1 512 a ||| L1 512 b)) 513 n (L1 513 a ||| L1 513 b)) := ⟨fun c j y1 y2 y3 => by
          rw [wv_u_no _ _ (by omega), wv_u_no _ _ (by omega)], fun j hj => by
          rw [wv_u_no _ _ (by omega), wv_u_no _ _ (by omega), wv_u_no _ _ (by omega), wv_u_no _ _ (by omega)]
          exact ⟨rfl, rfl⟩⟩
        have hF5 : pb_b (wv_u (wv_u L1 512 n (L1 512 a ||| L1 512 b)) 513 n (L1 513 a ||| L1 513 b) 512 n) s (np_n (pb_op S z A B)) (np_F (pb_op S z A B)) := by
          rw [eO, wv_u_no _ _ (by omega), wv_u_at]
          exact pb_b_or a4 b4
        have hL5 : pb_b (wv_u (wv_u L1 512 n (L1 512 a ||| L1 512 b)) 513 n (L1 513 a ||| L1 513 b) 513 n) s (np_n (pb_op S z A B)) (np_L (pb_op S z A B)) := by
          rw [eO, wv_u_at]
          exact pb_b_or a5 b5
        have key : ∀ (bb : Bool), bb = (np_e A || np_e B) → wv_u (wv_u I 510 n (Int32.ofNat s)) 514 n (vp_nar .boolean (wb_i bb)) 510 n = Int32.ofNat s ∧ wv_u (wv_u I 510 n (Int32.ofNat s)) 514 n (vp_nar .boolean (wb_i bb)) 460 75 = Int32.ofNat (s + np_n (pb_op S z A B)) ∧ wv_u (wv_u I 510 n (Int32.ofNat s)) 514 n (vp_nar .boolean (wb_i bb)) 514 n = wb_i (np_e (pb_op S z A B)) ∧ pb_F3 n I (wv_u (wv_u I 510 n (Int32.ofNat s)) 514 n (vp_nar .boolean (wb_i bb))) := fun bb hbb => by
          refine ⟨by rw [wv_u_no _ _ (by omega), wv_u_at], ?_, ?_, fun c j y1 y2 => by rw [wv_u_no _ _ (by omega), wv_u_no _ _ (by omega)]⟩
          · rw [wv_u_no _ _ (by omega), h75, eO]
            congr 1
            show s + np_n A + np_n B = s + (np_n A + np_n B)
            omega
          · rw [wv_u_at, eO, hbb]
            show vp_nar .boolean (wb_i (np_e A || np_e B)) = wb_i (np_e A || np_e B)
            cases (np_e A || np_e B) <;> rfl
        refine ⟨2, _, Or.inl rfl, wm_t hT rfl, pp_b (c := 200) (by omega) (by omega), ?_⟩
        rw [ean, a6]
        refine ⟨fun w1 => ?_, fun w1 => ?_⟩
        · have w1 : np_e A = true := wb_i_1.mp w1
          refine ⟨_, wm_t hT rfl, pp_b (c := 200) (by omega) (by omega), (by decide), ?_⟩
          rw [enn]
          obtain ⟨y1, y2, y3, y4⟩ := key true (by rw [w1]; rfl)
          exact ⟨1, by omega, _, _, _, _, rfl, rfl, rfl, rfl, rfl, rfl, rfl, y1, y2, hP3, hF5, hL5, y3, y4, hG, rfl⟩
        have w1 : np_e A = false := wb_i_2.mp w1
        refine ⟨2, _, Or.inl rfl, wm_t hT rfl, pp_b (c := 200) (by omega) (by omega), ?_⟩
        rw [ebn, b6]
        refine ⟨fun w2 => ?_, fun w2 => ?_⟩
        · have w2 : np_e B = false := wb_i_2.mp (fun y => y w2)
          refine ⟨_, wm_t hT rfl, pp_b (c := 200) (by omega) (by omega), (by decide), ?_⟩
          rw [enn]
          obtain ⟨y1, y2, y3, y4⟩ := key false (by rw [w1, w2]; rfl)
          exact ⟨1, by omega, _, _, _, _, rfl, rfl, rfl, rfl, rfl, rfl, rfl, y1, y2, hP3, hF5, hL5, y3, y4, hG, rfl⟩
        · have w2 : np_e B = true := wb_i_1.mp w2
          refine ⟨_, wm_t hT rfl, pp_b (c := 200) (by omega) (by omega), (by decide), ?_⟩
          rw [enn]
          obtain ⟨y1, y2, y3, y4⟩ := key true (by rw [w2, Bool.or_true])
          exact ⟨1, by omega, _, _, _, _, rfl, rfl, rfl, rfl, rfl, rfl, rfl, y1, y2, hP3, hF5, hL5, y3, y4, hG, rfl⟩
      · rw [ek] at w
        have w : rn_k S z = 26 := by omega
        obtain ⟨c60, rfl, rfl, ha, hb, hA, hB, h75⟩ := two (by unfold nq_two; omega)
        have eO : pb_op S z A B = np_and A B := np_op_26 w
        have hf2 : s + (np_n A + np_n B + np_n A * np_n B) ≤ 63 := by
          rw [eO] at hfit
          exact hfit
        refine ⟨A, B, n, a, b, s, s + np_n A + np_n B, rfl, hT, hA, hB, rfl, by omega, h75, hn, ha, hb, fun I2 L2 k1 k2 k3 k4 k5 k6 k7 => ?_⟩
        obtain ⟨k8, k9⟩ := pb_F23 k6
        refine ⟨1, by omega, _, _, _, _, rfl, rfl, rfl, rfl, rfl, ?_, ?_, k8, ?_, ?_, ?_, ?_, ?_, k9, k7, rfl⟩
        · rfl
        · rfl
        · rw [k1, eO]
          congr 1
          show s + np_n A + np_n B + np_n A * np_n B = s + (np_n A + np_n B + np_n A * np_n B)
          omega
        · rw [eO]
          exact k3
        · rw [eO]
          exact k4
        · rw [eO]
          exact k5
        · rw [eO]
          exact k2
      · rw [ek] at w
        have w : rn_k S z = 40 := by omega
        obtain ⟨rfl, ha, ⟨a1, a2, a3, a4, a5, a6⟩, h75⟩ := one (by omega) (by unfold nq_two; omega)
        have eO : pb_op S z A B = np_star true A := np_op_40 w
        have ean := wi_onn (n := a) (by omega)
        have hf2 : s + np_n A ≤ 63 := by
          rw [eO] at hfit
          exact hfit
        refine ⟨_, wm_t hT rfl, pp_b (c := 200) (by omega) (by omega), ?_⟩
        refine ⟨_, wm_t hT rfl, pp_b (c := 200) (by omega) (by omega), ?_⟩
        rw [ean]
        refine ⟨L1 513 a, L1 512 a, s + np_n A, rfl, hT, h75, by omega, ?_⟩
        have hP3 := pb_starP (b := true) (L1 := pb_ld L1 (s + np_n A) (L1 513 a) (L1 512 a)) a3 (by omega) (Nat.le_refl _) a5 a4 (fun p _ => ⟨pb_ld_6 (by omega), rfl⟩)
        refine ⟨_, wm_t hT rfl, pp_b (c := 200) (by omega) (by omega), ?_⟩
        rw [ean, pb_ld_6 (by omega)]
        refine ⟨_, wm_t hT rfl, pp_b (c := 200) (by omega) (by omega), (by decide), ?_⟩
        rw [enn]
        refine ⟨_, wm_t hT rfl, pp_b (c := 200) (by omega) (by omega), ?_⟩
        rw [ean, wv_u_no _ _ (by omega), pb_ld_6 (by omega)]
        refine ⟨_, wm_t hT rfl, pp_b (c := 200) (by omega) (by omega), (by decide), ?_⟩
        rw [enn]
        generalize hL3 : wv_u (wv_u (pb_ld L1 (s + np_n A) (L1 513 a) (L1 512 a)) 512 n (L1 512 a)) 513 n (L1 513 a) = L3
        have hP4 : pb_P L3 s (pb_op S z A B) := by
          rw [eO, ← hL3]
          exact pb_P_c hP3 (fun j _ => ⟨by rw [wv_u_no _ _ (by omega), wv_u_no _ _ (by omega)], by rw [wv_u_no _ _ (by omega), wv_u_no _ _ (by omega)]⟩)
        have hG : pb_G2 n s L1 L3 := ⟨fun c j y1 y2 y3 => by
          rw [← hL3, wv_u_no _ _ (by omega), wv_u_no _ _ (by omega), pb_ld_6 y2], fun j hj => by
          rw [← hL3, wv_u_no _ _ (by omega), wv_u_no _ _ (by omega), wv_u_no _ _ (by omega), wv_u_no _ _ (by omega), pb_ld_6 (by omega), pb_ld_lo a5 hj (by omega)]
          exact ⟨rfl, rfl⟩⟩
        have hF5 : pb_b (L3 512 n) s (np_n (pb_op S z A B)) (np_F (pb_op S z A B)) := by
          rw [eO, ← hL3, wv_u_no _ _ (by omega), wv_u_at]
          exact a4
        have hL5 : pb_b (L3 513 n) s (np_n (pb_op S z A B)) (np_L (pb_op S z A B)) := by
          rw [eO, ← hL3, wv_u_at]
          exact a5
        have key : ∀ (bb : Bool), bb = (np_e A || true) → wv_u (wv_u I 510 n (Int32.ofNat s)) 514 n (vp_nar .boolean (wb_i bb)) 510 n = Int32.ofNat s ∧ wv_u (wv_u I 510 n (Int32.ofNat s)) 514 n (vp_nar .boolean (wb_i bb)) 460 75 = Int32.ofNat (s + np_n (pb_op S z A B)) ∧ wv_u (wv_u I 510 n (Int32.ofNat s)) 514 n (vp_nar .boolean (wb_i bb)) 514 n = wb_i (np_e (pb_op S z A B)) ∧ pb_F3 n I (wv_u (wv_u I 510 n (Int32.ofNat s)) 514 n (vp_nar .boolean (wb_i bb))) := fun bb hbb => by
          refine ⟨by rw [wv_u_no _ _ (by omega), wv_u_at], ?_, ?_, fun c j y1 y2 => by rw [wv_u_no _ _ (by omega), wv_u_no _ _ (by omega)]⟩
          · rw [wv_u_no _ _ (by omega), h75, eO]
            rfl
          · rw [wv_u_at, eO, hbb]
            show vp_nar .boolean (wb_i (np_e A || true)) = wb_i (np_e A || true)
            cases (np_e A || true) <;> rfl
        refine ⟨fun w1 => ?_, fun w1 => ?_⟩
        · refine ⟨_, wm_t hT rfl, pp_b (c := 200) (by omega) (by omega), (by decide), ?_⟩
          rw [enn]
          obtain ⟨y1, y2, y3, y4⟩ := key true (by rw [Bool.or_true])
          exact ⟨1, by omega, _, _, _, _, rfl, rfl, rfl, rfl, rfl, rfl, rfl, y1, y2, hP4, hF5, hL5, y3, y4, hG, rfl⟩
        · rw [wi_eq, ek, e40] at w1
          omega
      · rw [ek] at w
        have w : rn_k S z = 41 := by omega
        obtain ⟨rfl, ha, ⟨a1, a2, a3, a4, a5, a6⟩, h75⟩ := one (by omega) (by unfold nq_two; omega)
        have eO : pb_op S z A B = np_star false A := np_op_41 w
        have ean := wi_onn (n := a) (by omega)
        have hf2 : s + np_n A ≤ 63 := by
          rw [eO] at hfit
          exact hfit
        refine ⟨_, wm_t hT rfl, pp_b (c := 200) (by omega) (by omega), ?_⟩
        refine ⟨_, wm_t hT rfl, pp_b (c := 200) (by omega) (by omega), ?_⟩
        rw [ean]
        refine ⟨L1 513 a, L1 512 a, s + np_n A, rfl, hT, h75, by omega, ?_⟩
        have hP3 := pb_starP (b := false) (L1 := pb_ld L1 (s + np_n A) (L1 513 a) (L1 512 a)) a3 (by omega) (Nat.le_refl _) a5 a4 (fun p _ => ⟨pb_ld_6 (by omega), rfl⟩)
        refine ⟨_, wm_t hT rfl, pp_b (c := 200) (by omega) (by omega), ?_⟩
        rw [ean, pb_ld_6 (by omega)]
        refine ⟨_, wm_t hT rfl, pp_b (c := 200) (by omega) (by omega), (by decide), ?_⟩
        rw [enn]
        refine ⟨_, wm_t hT rfl, pp_b (c := 200) (by omega) (by omega), ?_⟩
        rw [ean, wv_u_no _ _ (by omega), pb_ld_6 (by omega)]
        refine ⟨_, wm_t hT rfl, pp_b (c := 200) (by omega) (by omega), (by decide), ?_⟩
        rw [enn]
        generalize hL3 : wv_u (wv_u (pb_ld L1 (s + np_n A) (L1 513 a) (L1 512 a)) 512 n (L1 512 a)) 513 n (L1 513 a) = L3
        have hP4 : pb_P L3 s (pb_op S z A B) := by
          rw [eO, ← hL3]
          exact pb_P_c hP3 (fun j _ => ⟨by rw [wv_u_no _ _ (by omega), wv_u_no _ _ (by omega)], by rw [wv_u_no _ _ (by omega), wv_u_no _ _ (by omega)]⟩)
        have hG : pb_G2 n s L1 L3 := ⟨fun c j y1 y2 y3 => by
          rw [← hL3, wv_u_no _ _ (by omega), wv_u_no _ _ (by omega), pb_ld_6 y2], fun j hj => by
          rw [← hL3, wv_u_no _ _ (by omega), wv_u_no _ _ (by omega), wv_u_no _ _ (by omega), wv_u_no _ _ (by omega), pb_ld_6 (by omega), pb_ld_lo a5 hj (by omega)]
          exact ⟨rfl, rfl⟩⟩
        have hF5 : pb_b (L3 512 n) s (np_n (pb_op S z A B)) (np_F (pb_op S z A B)) := by
          rw [eO, ← hL3, wv_u_no _ _ (by omega), wv_u_at]
          exact a4
        have hL5 : pb_b (L3 513 n) s (np_n (pb_op S z A B)) (np_L (pb_op S z A B)) := by
          rw [eO, ← hL3, wv_u_at]
          exact a5
        have key : ∀ (bb : Bool), bb = (np_e A || false) → wv_u (wv_u I 510 n (Int32.ofNat s)) 514 n (vp_nar .boolean (wb_i bb)) 510 n = Int32.ofNat s ∧ wv_u (wv_u I 510 n (Int32.ofNat s)) 514 n (vp_nar .boolean (wb_i bb)) 460 75 = Int32.ofNat (s + np_n (pb_op S z A B)) ∧ wv_u (wv_u I 510 n (Int32.ofNat s)) 514 n (vp_nar .boolean (wb_i bb)) 514 n = wb_i (np_e (pb_op S z A B)) ∧ pb_F3 n I (wv_u (wv_u I 510 n (Int32.ofNat s)) 514 n (vp_nar .boolean (wb_i bb))) := fun bb hbb => by
          refine ⟨by rw [wv_u_no _ _ (by omega), wv_u_at], ?_, ?_, fun c j y1 y2 => by rw [wv_u_no _ _ (by omega), wv_u_no _ _ (by omega)]⟩
          · rw [wv_u_no _ _ (by omega), h75, eO]
            rfl
          · rw [wv_u_at, eO, hbb]
            show vp_nar .boolean (wb_i (np_e A || false)) = wb_i (np_e A || false)
            cases (np_e A || false) <;> rfl
        refine ⟨fun w1 => ?_, fun w1 => ?_⟩
        · rw [wi_eq, ek, e40] at w1
          omega
        refine ⟨2, _, Or.inl rfl, wm_t hT rfl, pp_b (c := 200) (by omega) (by omega), ?_⟩
        rw [ean, a6]
        refine ⟨fun w2 => ?_, fun w2 => ?_⟩
        · have w2 : np_e A = false := wb_i_2.mp (fun y => y w2)
          refine ⟨_, wm_t hT rfl, pp_b (c := 200) (by omega) (by omega), (by decide), ?_⟩
          rw [enn]
          obtain ⟨y1, y2, y3, y4⟩ := key false (by rw [w2]; rfl)
          exact ⟨1, by omega, _, _, _, _, rfl, rfl, rfl, rfl, rfl, rfl, rfl, y1, y2, hP4, hF5, hL5, y3, y4, hG, rfl⟩
        · have w2 : np_e A = true := wb_i_1.mp w2
          refine ⟨_, wm_t hT rfl, pp_b (c := 200) (by omega) (by omega), (by decide), ?_⟩
          rw [enn]
          obtain ⟨y1, y2, y3, y4⟩ := key true (by rw [w2]; rfl)
          exact ⟨1, by omega, _, _, _, _, rfl, rfl, rfl, rfl, rfl, rfl, rfl, y1, y2, hP4, hF5, hL5, y3, y4, hG, rfl⟩
      · rw [ek] at w
        have w : rn_k S z = 42 := by omega
        obtain ⟨rfl, ha, hA, h75⟩ := one (by omega) (by unfold nq_two; omega)
        have eO : pb_op S z A B = np_times (nq_a (rn_d S z)) (nq_b (rn_d S z)) A := np_op_42 w
        obtain ⟨f1, f2, f3, f4⟩ := (hM z hz).2.2.2 (by omega)
        have e472 : I 472 z = Int32.ofNat (nq_a (rn_d S z)) := f3 (by omega)
        have e474 : I 474 z = Int32.ofNat (nq_b (rn_d S z)) := f4 w
        have hab := (hw2 (by omega)).2.2.1 w
        have hb9 := h42 w
        have hf2 : s + np_n A * pb_hi (nq_b (rn_d S z)) ≤ 63 := by
          rw [eO, pb_tn] at hfit
          exact hfit
        refine ⟨_, wm_t hT rfl, pp_b (c := 800) (by omega) (by omega), ?_⟩
        refine ⟨_, wm_t hT rfl, pp_b (c := 800) (by omega) (by omega), ?_⟩
        rw [ezn, wv_u_no _ _ (by omega), wv_u_no _ _ (by omega), e472, e474]
        refine ⟨A, n, a, nq_a (rn_d S z), nq_b (rn_d S z), s, rfl, hT, hA, hf2, h75, hn, ha, hab, hb9, fun I2 L2 k1 k2 k3 k4 k5 k6 k7 => ?_⟩
        obtain ⟨k8, k9⟩ := pb_F23 k6
        rw [← eO] at k1 k2 k3 k4 k5
        exact ⟨1, by omega, _, _, _, _, rfl, rfl, rfl, rfl, rfl, rfl, rfl, k8, k1, k3, k4, k5, k2, k9, k7, rfl⟩
      · rw [ek] at w
        have w : rn_k S z = 60 := by omega
        have eO : pb_op S z A B = np_cond (rn_h S z) := np_op_60 w
        have h75 : wv_u I 510 n (Int32.ofNat s) 460 75 = Int32.ofNat s := by
          rw [wv_u_no _ _ (by omega)]
          exact hin0 w
        have hf2 : s + 1 ≤ 63 := by
          rw [eO] at hfit
          exact hfit
        refine ⟨S, m0, z, rfl, XI, hz, w, fun x hx => ?_⟩
        refine ⟨x, s, rfl, hT, h75, by omega, ?_⟩
        refine ⟨_, wm_t hT rfl, pp_b (c := 200) (by omega) (by omega), (by decide), ?_⟩
        rw [enn]
        refine ⟨_, wm_t hT rfl, pp_b (c := 200) (by omega) (by omega), (by decide), ?_⟩
        rw [enn]
        refine ⟨_, wm_t hT rfl, pp_b (c := 200) (by omega) (by omega), (by decide), ?_⟩
        rw [enn]
        have hone : pb_b (Int64.ofNat 1 <<< ((Int32.ofNat s).toInt64 &&& 63)) s 1 (fun j => decide (j = 0)) := pb_b_1 (p := 0) (by omega) (by omega)
        refine ⟨1, by omega, _, _, _, _, rfl, rfl, rfl, rfl, rfl, rfl, rfl, ?_, ?_, ?_, ?_, ?_, ?_, ?_, ?_, rfl⟩
        · rw [wv_u_no _ _ (by omega), wv_u_no _ _ (by omega), wv_u_at]
        · rw [wv_u_no _ _ (by omega), wv_u_at, eO]
          rfl
        · rw [eO]
          intro j hj
          have hj : j < 1 := hj
          have j0 : j = 0 := by omega
          subst j0
          rw [Nat.add_zero, wv_u_no _ _ (by omega), wv_u_no _ _ (by omega), wv_u_no _ _ (by omega), wv_u_at, wv_u_no _ _ (by omega), wv_u_no _ _ (by omega), wv_u_at]
          exact ⟨hx, pb_b_0⟩
        · rw [eO, wv_u_no _ _ (by omega), wv_u_at]
          exact hone
        · rw [eO, wv_u_at]
          exact hone
        · rw [wv_u_at, eO]
          rfl
        · intro c j y1 y2
          rw [wv_u_no _ _ (by omega), wv_u_no _ _ (by omega), wv_u_no _ _ (by omega)]
        · refine ⟨fun c j y1 y2 y3 => ?_, fun j hj => ?_⟩
          · rw [wv_u_no _ _ (by omega), wv_u_no _ _ (by omega), wv_u_no _ _ (by omega), wv_u_no _ _ (by omega)]
          · rw [wv_u_no _ _ (by omega), wv_u_no _ _ (by omega), wv_u_no _ _ (by omega), wv_u_no _ _ (by omega), wv_u_no _ _ (by omega), wv_u_no _ _ (by omega), wv_u_no _ _ (by omega), wv_u_no _ _ (by omega)]
            exact ⟨rfl, rfl⟩
      · rw [ek] at n23 n24 n25 n26 n40 n41 n42 n60
        have w : 43 ≤ rn_k S z ∧ rn_k S z ≤ 44 := by unfold nq_row at hrow; omega
        obtain ⟨rfl, ha, hA, h75⟩ := one (by omega) (by unfold nq_two; omega)
        have eO : pb_op S z A B = np_occ (nq_a (rn_d S z)) (decide (rn_k S z = 44)) (rn_h S (nq_l (rn_d S z))) := np_op_oc w
        have hAc := hoc w
        obtain ⟨f1, f2, f3, f4⟩ := (hM z hz).2.2.2 (by omega)
        have e470 : I 470 z = Int32.ofNat (nq_l (rn_d S z)) := f1
        have e472 : I 472 z = Int32.ofNat (nq_a (rn_d S z)) := f3 (by omega)
        have hw3 := hw2 (by unfold rn_k at w; omega)
        have hl60 := hw3.2.2.2.1 w
        have hl := hw3.1.1
        rw [hAc] at hA h75
        refine ⟨_, wm_t hT rfl, pp_b (c := 800) (by omega) (by omega), ?_⟩
        refine ⟨_, wm_t hT rfl, pp_b (c := 800) (by omega) (by omega), ?_⟩
        rw [ezn, wv_u_no _ _ (by omega), wv_u_no _ _ (by omega), e470, e472]
        have hf2 : s + (1 + nt_S (nq_a (rn_d S z)) (decide (rn_k S z = 44))) ≤ 63 := by
          rw [eO] at hfit
          exact hfit
        refine ⟨fun w1 => ?_, fun w1 => ?_⟩
        · rw [wi_eq, ek, e44] at w1
          have ewb : decide (rn_k S z = 44) = false := decide_eq_false (by omega)
          rw [ewb] at hf2 eO
          refine ⟨S, m0, n, a, nq_l (rn_d S z), nq_a (rn_d S z), s, false, rfl, XI, by omega, hl60, hA, hf2, h75, hn, ha, fun I2 L2 k1 k2 k3 k4 k5 k6 k7 => ?_⟩
          obtain ⟨k8, k9⟩ := pb_F23 k6
          refine ⟨1, by omega, _, _, _, _, rfl, rfl, rfl, rfl, rfl, rfl, rfl, k8, ?_, ?_, ?_, ?_, ?_, k9, k7, rfl⟩
          · rw [eO]
            exact k1
          · rw [eO]
            exact k3
          · rw [eO]
            exact k4
          · rw [eO]
            exact k5
          · rw [eO]
            exact k2
        · rw [wi_eq, ek, e44] at w1
          have ewb : decide (rn_k S z = 44) = true := decide_eq_true (by omega)
          rw [ewb] at hf2 eO
          refine ⟨S, m0, n, a, nq_l (rn_d S z), nq_a (rn_d S z), s, true, rfl, XI, by omega, hl60, hA, hf2, h75, hn, ha, fun I2 L2 k1 k2 k3 k4 k5 k6 k7 => ?_⟩
          obtain ⟨k8, k9⟩ := pb_F23 k6
          refine ⟨1, by omega, _, _, _, _, rfl, rfl, rfl, rfl, rfl, rfl, rfl, k8, ?_, ?_, ?_, ?_, ?_, k9, k7, rfl⟩
          · rw [eO]
            exact k1
          · rw [eO]
            exact k3
          · rw [eO]
            exact k4
          · rw [eO]
            exact k5
          · rw [eO]
            exact k2
    rw [if_neg p115] at hP
    by_cases p292 : pc = 292
    · rw [if_pos p292] at hP
      cases hP
      subst p292
      obtain ⟨x6, rfl, rfl, rfl, rfl, rfl, rfl, rfl, w, rfl, hP3, hF3, hG, rfl⟩ := hh
      obtain ⟨i1, i2, i3, i4, i5⟩ := hin1 (by omega)
      obtain ⟨j1, j2, j3, j4⟩ := i4 (by unfold nq_two; omega)
      obtain ⟨a1, a2, a3, a4, a5, a6⟩ := pb_T_u (x := Int32.ofNat s) i3 i2
      obtain ⟨b1, b2, b3, b4, b5, b6⟩ := pb_T_u (x := Int32.ofNat s) j3 j2
      have eO : pb_op S z A B = np_then A B := np_op_23 w
      have ean := wi_onn (n := a) (by omega)
      have ebn := wi_onn (n := b) (by omega)
      have la : L1 513 a = L 513 a := hG.1 _ _ (by omega) (by omega) (by omega)
      have lb : L1 513 b = L 513 b := hG.1 _ _ (by omega) (by omega) (by omega)
      have key : ∀ x : Int64, pb_P (wv_u L1 513 n x) s (pb_op S z A B) ∧ pb_b (wv_u L1 513 n x 512 n) s (np_n A + np_n B) (np_F (pb_op S z A B)) ∧ pb_G2 n s L (wv_u L1 513 n x) := fun x => ⟨pb_P_c hP3 (fun j _ => ⟨wv_u_no _ _ (by omega), wv_u_no _ _ (by omega)⟩), by rw [wv_u_no _ _ (by omega)]; exact hF3, fun c j y1 y2 y3 => by
        rw [wv_u_no _ _ (by omega)]
        exact hG.1 c j y1 y2 y3, fun j hj => by
        rw [wv_u_no _ _ (by omega), wv_u_no _ _ (by omega)]
        exact hG.2 j hj⟩
      refine ⟨2, _, Or.inl rfl, wm_t hT rfl, pp_b (c := 200) (by omega) (by omega), ?_⟩
      rw [ebn, b6]
      refine ⟨fun w1 => ?_, fun w1 => ?_⟩
      · have w1 : np_e B = false := wb_i_2.mp (fun y => y w1)
        refine ⟨_, wm_t hT rfl, pp_b (c := 200) (by omega) (by omega), ?_⟩
        rw [ebn, lb]
        refine ⟨_, wm_t hT rfl, pp_b (c := 200) (by omega) (by omega), (by decide), ?_⟩
        rw [enn]
        obtain ⟨y1, y2, y3⟩ := key (L 513 b)
        refine ⟨96, by omega, x6, rfl, rfl, rfl, rfl, rfl, rfl, rfl, w, rfl, y1, y2, ?_, y3, rfl⟩
        rw [wv_u_at, eO]
        refine pb_b_c (pb_b_r b5) (fun j hj => ?_)
        show _ = (if j < np_n A then np_e B && np_L A j else np_L B (j - np_n A))
        rw [w1, Bool.false_and]
      · have w1 : np_e B = true := wb_i_1.mp w1
        refine ⟨_, wm_t hT rfl, pp_b (c := 200) (by omega) (by omega), ?_⟩
        refine ⟨_, wm_t hT rfl, pp_b (c := 200) (by omega) (by omega), ?_⟩
        rw [ean, ebn, la, lb]
        refine ⟨_, wm_t hT rfl, pp_b (c := 200) (by omega) (by omega), (by decide), ?_⟩
        rw [enn]
        obtain ⟨y1, y2, y3⟩ := key (L 513 a ||| L 513 b)
        refine ⟨96, by omega, x6, rfl, rfl, rfl, rfl, rfl, rfl, rfl, w, rfl, y1, y2, ?_, y3, rfl⟩
        rw [wv_u_at, eO]
        refine pb_b_c (pb_b_or a5 b5) (fun j hj => ?_)
        show _ = (if j < np_n A then np_e B && np_L A j else np_L B (j - np_n A))
        rw [w1, Bool.true_and]
    rw [if_neg p292] at hP
    by_cases p333 : pc = 333
    · rw [if_pos p333] at hP
      cases hP
      subst p333
      obtain ⟨x6, rfl, rfl, rfl, rfl, rfl, rfl, rfl, w, rfl, hP3, hF3, hL3, hG, rfl⟩ := hh
      obtain ⟨i1, i2, i3, i4, i5⟩ := hin1 (by omega)
      obtain ⟨j1, j2, j3, j4⟩ := i4 (by unfold nq_two; omega)
      obtain ⟨a1, a2, a3, a4, a5, a6⟩ := pb_T_u (x := Int32.ofNat s) i3 i2
      obtain ⟨b1, b2, b3, b4, b5, b6⟩ := pb_T_u (x := Int32.ofNat s) j3 j2
      have eO : pb_op S z A B = np_then A B := np_op_23 w
      have ean := wi_onn (n := a) (by omega)
      have ebn := wi_onn (n := b) (by omega)
      have eN : np_n (pb_op S z A B) = np_n A + np_n B := by rw [eO]; rfl
      rw [← eN] at hF3 hL3
      have key : ∀ (bb : Bool), bb = (np_e A && np_e B) → wv_u (wv_u I 510 n (Int32.ofNat s)) 514 n (vp_nar .boolean (wb_i bb)) 510 n = Int32.ofNat s ∧ wv_u (wv_u I 510 n (Int32.ofNat s)) 514 n (vp_nar .boolean (wb_i bb)) 460 75 = Int32.ofNat (s + np_n (pb_op S z A B)) ∧ wv_u (wv_u I 510 n (Int32.ofNat s)) 514 n (vp_nar .boolean (wb_i bb)) 514 n = wb_i (np_e (pb_op S z A B)) ∧ pb_F3 n I (wv_u (wv_u I 510 n (Int32.ofNat s)) 514 n (vp_nar .boolean (wb_i bb))) := fun bb hbb => by
        refine ⟨by rw [wv_u_no _ _ (by omega), wv_u_at], ?_, ?_, fun c j y1 y2 => by rw [wv_u_no _ _ (by omega), wv_u_no _ _ (by omega)]⟩
        · rw [wv_u_no _ _ (by omega), wv_u_no _ _ (by omega), j4, eN, Nat.add_assoc]
        · rw [wv_u_at, eO, hbb]
          show vp_nar .boolean (wb_i (np_e A && np_e B)) = wb_i (np_e A && np_e B)
          cases (np_e A && np_e B) <;> rfl
      refine ⟨2, _, Or.inl rfl, wm_t hT rfl, pp_b (c := 200) (by omega) (by omega), ?_⟩
      rw [ean, a6]
      refine ⟨fun w1 => ?_, fun w1 => ?_⟩
      · have w1 : np_e A = false := wb_i_2.mp (fun y => y w1)
        refine ⟨_, wm_t hT rfl, pp_b (c := 200) (by omega) (by omega), (by decide), ?_⟩
        rw [enn]
        obtain ⟨y1, y2, y3, y4⟩ := key false (by rw [w1]; rfl)
        exact ⟨1, by omega, _, _, _, _, rfl, rfl, rfl, rfl, rfl, rfl, rfl, y1, y2, hP3, hF3, hL3, y3, y4, hG, rfl⟩
      have w1 : np_e A = true := wb_i_1.mp w1
      refine ⟨2, _, Or.inl rfl, wm_t hT rfl, pp_b (c := 200) (by omega) (by omega), ?_⟩
      rw [ebn, b6]
      refine ⟨fun w2 => ?_, fun w2 => ?_⟩
      · have w2 : np_e B = false := wb_i_2.mp (fun y => y w2)
        refine ⟨_, wm_t hT rfl, pp_b (c := 200) (by omega) (by omega), (by decide), ?_⟩
        rw [enn]
        obtain ⟨y1, y2, y3, y4⟩ := key false (by rw [w2, Bool.and_false])
        exact ⟨1, by omega, _, _, _, _, rfl, rfl, rfl, rfl, rfl, rfl, rfl, y1, y2, hP3, hF3, hL3, y3, y4, hG, rfl⟩
      · have w2 : np_e B = true := wb_i_1.mp w2
        refine ⟨_, wm_t hT rfl, pp_b (c := 200) (by omega) (by omega), (by decide), ?_⟩
        rw [enn]
        obtain ⟨y1, y2, y3, y4⟩ := key true (by rw [w1, w2]; rfl)
        exact ⟨1, by omega, _, _, _, _, rfl, rfl, rfl, rfl, rfl, rfl, rfl, y1, y2, hP3, hF3, hL3, y3, y4, hG, rfl⟩
    rw [if_neg p333] at hP
    by_cases p591 : pc = 591
    · rw [if_pos p591] at hP
      cases hP
      subst p591
      obtain ⟨x5, x6, x7, x8, rfl, rfl, rfl, rfl, rfl, rfl, rfl, k1, k2, k3, k4, k5, k6, k7, k8, rfl⟩ := hh
      refine ⟨_, wm_t hT rfl, pp_b (c := 200) (by omega) (by omega), (by decide), ?_⟩
      rw [enn, k2]
      refine h _ _ ⟨?_, wv_u_at _ _ _ _, k3, k4, k5, ?_⟩ ?_ ?_ k8
      · rw [wv_u_no _ _ (by omega)]
        exact k1
      · rw [wv_u_no _ _ (by omega)]
        exact k6
      · rw [wv_u_no _ _ (by omega)]
        exact k2
      · intro c j y1 y2
        rw [wv_u_no _ _ (by omega)]
        exact k7 c j y1 y2
    rw [if_neg p591] at hP
    cases hP
