/-! ===== the reference: the rows of a node ===== -/
theorem ns_eq_60 {x : nq_N} {c ca : Nat → Bool} {w : Nat → Option Nat} {Z : Nat} {SA SB : Nat → Nat → Prop} {i j : Nat} (h : nq_k x = 60) : ns_eq x c ca w Z SA SB i j ↔ (j = i + 1 ∧ i < Z ∧ nl_ok c (w i)) := by
  unfold ns_eq
  rw [if_pos h]
theorem ns_eq_23 {x : nq_N} {c ca : Nat → Bool} {w : Nat → Option Nat} {Z : Nat} {SA SB : Nat → Nat → Prop} {i j : Nat} (h : nq_k x = 23) : ns_eq x c ca w Z SA SB i j ↔ (∃ k, SA i k ∧ SB k j) := by
  unfold ns_eq
  rw [if_neg (by omega), if_pos h]
theorem ns_eq_24 {x : nq_N} {c ca : Nat → Bool} {w : Nat → Option Nat} {Z : Nat} {SA SB : Nat → Nat → Prop} {i j : Nat} (h : nq_k x = 24) : ns_eq x c ca w Z SA SB i j ↔ (∃ k, i ≤ k ∧ SA i (k + 1) ∧ SB k j ∧ k < j) := by
  unfold ns_eq
  rw [if_neg (by omega), if_neg (by omega), if_pos h]
theorem ns_eq_25 {x : nq_N} {c ca : Nat → Bool} {w : Nat → Option Nat} {Z : Nat} {SA SB : Nat → Nat → Prop} {i j : Nat} (h : nq_k x = 25) : ns_eq x c ca w Z SA SB i j ↔ (SA i j ∨ SB i j) := by
  unfold ns_eq
  rw [if_neg (by omega), if_neg (by omega), if_neg (by omega), if_pos h]
theorem ns_eq_26 {x : nq_N} {c ca : Nat → Bool} {w : Nat → Option Nat} {Z : Nat} {SA SB : Nat → Nat → Prop} {i j : Nat} (h : nq_k x = 26) : ns_eq x c ca w Z SA SB i j ↔ (SA i j ∧ SB i j) := by
  unfold ns_eq
  rw [if_neg (by omega), if_neg (by omega), if_neg (by omega), if_neg (by omega), if_pos h]
theorem ns_eq_40 {x : nq_N} {c ca : Nat → Bool} {w : Nat → Option Nat} {Z : Nat} {SA SB : Nat → Nat → Prop} {i j : Nat} (h : nq_k x = 40) : ns_eq x c ca w Z SA SB i j ↔ (j ≤ Z ∧ ∃ m, na_it (ns_stp SA) m i j) := by
  unfold ns_eq
  rw [if_neg (by omega), if_neg (by omega), if_neg (by omega), if_neg (by omega), if_neg (by omega), if_pos h]
theorem ns_eq_41 {x : nq_N} {c ca : Nat → Bool} {w : Nat → Option Nat} {Z : Nat} {SA SB : Nat → Nat → Prop} {i j : Nat} (h : nq_k x = 41) : ns_eq x c ca w Z SA SB i j ↔ (∃ k, SA i k ∧ ∃ m, na_it (ns_stp SA) m k j) := by
  unfold ns_eq
  rw [if_neg (by omega), if_neg (by omega), if_neg (by omega), if_neg (by omega), if_neg (by omega), if_neg (by omega), if_pos h]
theorem ns_eq_42 {x : nq_N} {c ca : Nat → Bool} {w : Nat → Option Nat} {Z : Nat} {SA SB : Nat → Nat → Prop} {i j : Nat} (h : nq_k x = 42) : ns_eq x c ca w Z SA SB i j ↔ (j ≤ Z ∧ ∃ m, nq_a x ≤ m ∧ m ≤ nq_b x ∧ na_it SA m i j) := by
  unfold ns_eq
  rw [if_neg (by omega), if_neg (by omega), if_neg (by omega), if_neg (by omega), if_neg (by omega), if_neg (by omega), if_neg (by omega), if_pos h]
theorem ns_eq_oc {x : nq_N} {c ca : Nat → Bool} {w : Nat → Option Nat} {Z : Nat} {SA SB : Nat → Nat → Prop} {i j : Nat} (h : 43 ≤ nq_k x ∧ nq_k x ≤ 44) : ns_eq x c ca w Z SA SB i j ↔ (j ≤ Z ∧ ∃ k, j = i + k ∧ na_oc (nl_ok ca) (nl_ok (fun v => ! ca v)) (nq_k x = 44) w k (nq_a x) i) := by
  unfold ns_eq
  rw [if_neg (by omega), if_neg (by omega), if_neg (by omega), if_neg (by omega), if_neg (by omega), if_neg (by omega), if_neg (by omega), if_neg (by omega)]
theorem mr_q23 {E F : Nat → Nat → Prop} {Z i x : Nat} (hB : mr_B E Z) (hi : i ≤ Z) : mr_ch 23 E F i (Z + 1) x ↔ ∃ k, E i k ∧ F k x := by
  constructor
  · rintro ⟨b, b1, b2, b3, b4⟩
    exact ⟨b, b3, b4⟩
  · rintro ⟨b, b3, b4⟩
    obtain ⟨b1, b2⟩ := hB i hi b b3
    exact ⟨b, b1, by omega, b3, b4⟩
theorem mr_q24 {E F : Nat → Nat → Prop} {Z i x : Nat} (hB : mr_B E Z) (hB2 : mr_B F Z) (hi : i ≤ Z) : mr_ch 24 E F i (Z + 1) x ↔ ∃ k, i ≤ k ∧ E i (k + 1) ∧ F k x ∧ k < x := by
  constructor
  · rintro ⟨b, b1, b2, b3, b4, b5, b6⟩
    have b4 : i < b := b4
    have b6 : ¬ x = b - 1 := b6
    have := (hB2 (b - 1) (by omega) x b5).1
    exact ⟨b - 1, by omega, by rw [show b - 1 + 1 = b by omega]; exact b3, b5, by omega⟩
  · rintro ⟨k, k1, k2, k3, k4⟩
    obtain ⟨b1, b2⟩ := hB i hi (k + 1) k2
    refine ⟨k + 1, b1, by omega, k2, ?_⟩
    show i < k + 1 ∧ F (k + 1 - 1) x ∧ ¬ x = k + 1 - 1
    rw [Nat.add_sub_cancel]
    exact ⟨by omega, k3, by omega⟩
theorem mr_q41 {E E1 G : Nat → Nat → Prop} {Z i x : Nat} (hB : mr_B E Z) (hi : i ≤ Z) (hE : ∀ i b, i ≤ Z → (E1 i b ↔ E i b)) (hG : ∀ i x, i ≤ Z → (G i x ↔ mr_Q E Z i x)) : mr_A E1 G Z i x ↔ ∃ k, E i k ∧ ∃ m, na_it (ns_stp E) m k x := by
  constructor
  · rintro ⟨b, b1, b2, b3, b4⟩
    exact ⟨b, (hE i b hi).mp b3, ((hG b x (by omega)).mp b4).2⟩
  · rintro ⟨b, b3, m, b4⟩
    obtain ⟨b1, b2⟩ := hB i hi b b3
    exact ⟨b, b1, by omega, (hE i b hi).mpr b3, (hG b x b2).mpr ⟨mr_it_B (E := ns_stp E) (fun i hi j hj => hB i hi j hj.2) m b b2 x b4, m, b4⟩⟩
def mr_c380 : wv_c1 := fun as T N I L R q => ∃ (S : rn_N) (m0 lk wd n : Nat) (v : Nat → Nat), as = [.ref 460, .int (Int32.ofNat n)] ∧ mr_X T I S m0 lk wd v ∧ n < rn_n S ∧ nq_row (rn_k S n) ∧ nq_wf (rn_d S) (rn_n S) ∧ ((rn_k S n = 42 → nq_b (rn_d S n) < 10000) ∧ (43 ≤ rn_k S n ∧ rn_k S n ≤ 44 → nq_a (rn_d S n) < 10000)) ∧ (∀ m, m < n → nq_row (rn_k S m) → mr_B (mr_E L m) (lk + wd)) ∧ ∀ L1, (∀ i, i ≤ lk + wd → ∀ j, mr_E L1 n i j ↔ ns_eq (rn_d S n) (rn_h S n) (rn_h S (nq_l (rn_d S n))) (pd_wn v lk) (lk + wd) (mr_E L (nq_l (rn_d S n))) (mr_E L (nq_r (rn_d S n))) i j) → mr_Fn n L L1 → q (.inl none) T N I L1 R 0 0
set_option maxRecDepth 100000 in
theorem wM_380 : ∃ cb ci np, pt_mt 380 = some (32, cb, 2, false, none, ci, np) := ⟨_, _, _, rfl⟩
set_option maxRecDepth 100000 in
set_option maxHeartbeats 4000000 in
theorem mr_rows {sc : pt_Sc} {d : Nat} : wv_C wm_fx sc (d + 1 + 1 + 1 + 1 + 1) 380 mr_c380 := by
  rintro as T N I L R q ⟨S, m0, lk, wd, n, v, rfl, hX, hn, hrow, hwf, hab, hB, h⟩ w0 HR
  obtain ⟨cb, ci, np, hm⟩ := wM_380
  have hc381 : wv_C wm_fx sc (d + 1 + 1 + 1 + 1) 381 mr_c381 := wv_C_deep (by omega) (mr_plain (d := d))
  have hc389 : wv_C wm_fx sc (d + 1 + 1 + 1 + 1) 389 mr_c389 := wv_C_deep (by omega) (mr_chains (d := d))
  have hc393 : wv_C wm_fx sc (d + 1 + 1 + 1 + 1) 393 mr_c393 := wv_C_deep (by omega) (mr_choices (d := d))
  have hc394 : wv_C wm_fx sc (d + 1 + 1 + 1 + 1) 394 mr_c394 := wv_C_deep (by omega) (mr_star (d := d))
  have hc397 : wv_C wm_fx sc (d + 1 + 1 + 1 + 1) 397 mr_c397 := wv_C_deep (by omega) (mr_add (d := d))
  have hc398 : wv_C wm_fx sc (d + 1 + 1 + 1 + 1) 398 mr_c398 := wv_C_deep (by omega) (mr_aheadM (d := d))
  have hc399 : wv_C wm_fx sc (d + 1 + 1 + 1 + 1) 399 mr_c399 := wv_C_deep (by omega) (mr_times (d := d))
  have hc401 : wv_C wm_fx sc (d + 1 + 1 + 1 + 1) 401 mr_c401 := wv_C_deep (by omega) (mr_occ (d := d))
  refine wv_meth (hh := none) rfl (sp := wv_sp [(381, mr_c381), (389, mr_c389), (393, mr_c393), (394, mr_c394), (397, mr_c397), (398, mr_c398), (399, mr_c399), (401, mr_c401)]) (hd := fun _ => none) (n := 0) (n1 := 300) hm zc_380 rfl (wv_sp_ok (fun q hq => by
    rcases List.mem_cons.mp hq with h | h
    · rw [h]; exact hc381
    rcases List.mem_cons.mp h with h | h
    · rw [h]; exact hc389
    rcases List.mem_cons.mp h with h | h
    · rw [h]; exact hc393
    rcases List.mem_cons.mp h with h | h
    · rw [h]; exact hc394
    rcases List.mem_cons.mp h with h | h
    · rw [h]; exact hc397
    rcases List.mem_cons.mp h with h | h
    · rw [h]; exact hc398
    rcases List.mem_cons.mp h with h | h
    · rw [h]; exact hc399
    rw [List.mem_singleton.mp h]; exact hc401)) ?_ (fun pc P h => by cases h) HR
  have hX0 := hX
  obtain ⟨hT, ⟨h37, hn5, hm0, hM⟩, h49, hlk, h32, hwd, hv⟩ := hX0
  have enn := wi_onn (n := n) (by omega)
  have e1 : I 469 n = Int32.ofNat (rn_k S n) := (hM n hn).1
  have hk100 : rn_k S n < 100 := by unfold nq_row at hrow; omega
  have ek := wi_on (n := rn_k S n) (by omega)
  refine ⟨_, wm_t hT rfl, pp_b (c := 800) (by omega) (by omega), ?_⟩
  rw [enn, e1]
  have hw2 := hwf n hn hrow
  refine ⟨fun w => ?_, fun n23 => ⟨fun w => ?_, fun n24 => ⟨fun w => ?_, fun n25 => ⟨fun w => ?_, fun n26 => ⟨fun w => ?_, fun n40 => ⟨fun w => ?_, fun n41 => ⟨fun w => ?_, fun n42 => ⟨fun w => ?_, fun n60 => ?_⟩⟩⟩⟩⟩⟩⟩⟩
  · rw [ek] at w
    have w : rn_k S n = 23 := by omega
    obtain ⟨⟨l1, l2⟩, r1, w1, w2, w3⟩ := hw2 (by unfold rn_k at w; omega)
    obtain ⟨r1, r2⟩ := r1 (by unfold nq_two; unfold rn_k at w; omega)
    refine ⟨S, m0, lk, wd, n, v, rfl, hX, hn, by omega, l1, r1, fun L1 s1 f1 => ?_⟩
    refine h _ (fun i hi j => ?_) (mr_Fn_a f1)
    unfold mr_E
    rw [s1 i j hi, w, ns_eq_23 w]
    exact mr_q23 (hB _ l1 l2) hi
  · rw [ek] at w
    have w : rn_k S n = 24 := by omega
    obtain ⟨⟨l1, l2⟩, r1, w1, w2, w3⟩ := hw2 (by unfold rn_k at w; omega)
    obtain ⟨r1, r2⟩ := r1 (by unfold nq_two; unfold rn_k at w; omega)
    refine ⟨S, m0, lk, wd, n, v, rfl, hX, hn, by omega, l1, r1, fun L1 s1 f1 => ?_⟩
    refine h _ (fun i hi j => ?_) (mr_Fn_a f1)
    unfold mr_E
    rw [s1 i j hi, w, ns_eq_24 w]
    exact mr_q24 (hB _ l1 l2) (hB _ r1 r2) hi
  · rw [ek] at w
    have w : rn_k S n = 25 := by omega
    obtain ⟨⟨l1, l2⟩, r1, w1, w2, w3⟩ := hw2 (by unfold rn_k at w; omega)
    obtain ⟨r1, r2⟩ := r1 (by unfold nq_two; unfold rn_k at w; omega)
    refine ⟨S, m0, lk, wd, n, v, rfl, hX, hn, by omega, l1, r1, fun L1 s1 f1 => ?_⟩
    refine h _ (fun i hi j => ?_) (mr_Fn_a f1)
    unfold mr_E
    rw [s1 i j hi, w, ns_eq_25 w]
    exact Iff.of_eq (Bool.or_eq_true _ _)
  · rw [ek] at w
    have w : rn_k S n = 26 := by omega
    obtain ⟨⟨l1, l2⟩, r1, w1, w2, w3⟩ := hw2 (by unfold rn_k at w; omega)
    obtain ⟨r1, r2⟩ := r1 (by unfold nq_two; unfold rn_k at w; omega)
    refine ⟨S, m0, lk, wd, n, v, rfl, hX, hn, by omega, l1, r1, fun L1 s1 f1 => ?_⟩
    refine h _ (fun i hi j => ?_) (mr_Fn_a f1)
    unfold mr_E
    rw [s1 i j hi, w, ns_eq_26 w]
    exact Iff.of_eq (Bool.and_eq_true _ _)
  · rw [ek] at w
    have w : rn_k S n = 40 := by omega
    obtain ⟨⟨l1, l2⟩, r1, w1, w2, w3⟩ := hw2 (by unfold rn_k at w; omega)
    obtain ⟨_, e2, e3⟩ := mr_nd (hM n hn) (by omega)
    refine ⟨_, wm_t hT rfl, pp_b (c := 800) (by omega) (by omega), ?_⟩
    rw [enn, e2]
    refine ⟨S, m0, lk, wd, nq_l (rn_d S n), v, rfl, hX, by omega, fun L1 s1 f1 => ?_⟩
    refine ⟨S, m0, lk, wd, n, v, true, rfl, hX, by omega, fun L2 s2 f2 => ?_⟩
    refine h _ (fun i hi j => ?_) (mr_Fn_t (mr_Fn_q f1) (mr_Fn_a f2))
    unfold mr_E
    rw [s2 i j hi, ns_eq_40 w]
    exact s1 i j hi
  · rw [ek] at w
    have w : rn_k S n = 41 := by omega
    obtain ⟨⟨l1, l2⟩, r1, w1, w2, w3⟩ := hw2 (by unfold rn_k at w; omega)
    obtain ⟨_, e2, e3⟩ := mr_nd (hM n hn) (by omega)
    refine ⟨_, wm_t hT rfl, pp_b (c := 800) (by omega) (by omega), ?_⟩
    rw [enn, e2]
    refine ⟨S, m0, lk, wd, nq_l (rn_d S n), v, rfl, hX, by omega, fun L1 s1 f1 => ?_⟩
    refine ⟨_, wm_t hT rfl, pp_b (c := 800) (by omega) (by omega), ?_⟩
    rw [enn, e2]
    refine ⟨S, m0, lk, wd, nq_l (rn_d S n), v, rfl, hX, by omega, fun L2 s2 f2 => ?_⟩
    refine ⟨S, m0, lk, wd, n, v, true, rfl, hX, by omega, fun L3 s3 f3 => ?_⟩
    refine h _ (fun i hi j => ?_) (mr_Fn_t (mr_Fn_q (mr_Fr_t f1 f2)) (mr_Fn_a f3))
    rw [ns_eq_41 w]
    unfold mr_E
    rw [s3 i j hi]
    refine (s2 i j hi).trans (mr_q41 (hB _ l1 l2) hi (fun a b _ => ?_) s1)
    unfold mr_E
    rw [mr_Fr_e f1]
  · rw [ek] at w
    have w : rn_k S n = 42 := by omega
    obtain ⟨⟨l1, l2⟩, r1, w1, w2, w3⟩ := hw2 (by unfold rn_k at w; omega)
    refine ⟨S, m0, lk, wd, n, v, rfl, hX, hn, w, l1, w1 w, hab.1 w, hB _ l1 l2, fun L1 s1 f1 => ?_⟩
    refine h _ (fun i hi j => ?_) f1
    rw [ns_eq_42 w]
    refine (s1 i j hi).trans ⟨?_, ?_⟩
    · rintro ⟨m, m1, m2, m3⟩
      exact ⟨mr_it_B (hB _ l1 l2) m i hi j m3, m, m1, by omega, m3⟩
    · rintro ⟨_, m, m1, m2, m3⟩
      exact ⟨m, m1, by omega, m3⟩
  · rw [ek] at w
    have w : rn_k S n = 60 := by omega
    refine ⟨S, m0, lk, wd, n, v, rfl, hX, hn, w, fun L1 s1 f1 => ?_⟩
    refine h _ (fun i hi j => ?_) (mr_Fn_a f1)
    unfold mr_E
    rw [s1 i j hi, ns_eq_60 w, Bool.and_eq_true, mr_nl (by omega)]
    exact ⟨fun z => ⟨of_decide_eq_true z.2, z.1⟩, fun z => ⟨z.2, decide_eq_true z.1⟩⟩
  · rw [ek] at n23 n24 n25 n26 n40 n41 n42 n60
    have w : 43 ≤ rn_k S n ∧ rn_k S n ≤ 44 := by unfold nq_row at hrow; omega
    obtain ⟨⟨l1, l2⟩, r1, w1, w2, w3⟩ := hw2 (by unfold rn_k at w; omega)
    refine ⟨S, m0, lk, wd, n, v, rfl, hX, hn, w, l1, w2 w, hab.2 w, fun L1 s1 f1 => ?_⟩
    refine h _ (fun i hi j => ?_) f1
    rw [ns_eq_oc w]
    exact s1 i j hi
