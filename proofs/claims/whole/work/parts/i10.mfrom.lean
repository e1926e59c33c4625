/-! ===== the reference: failing from a place on ===== -/
theorem fl_eq_60 {x : nq_N} {c cl cr : Nat → Bool} {v : Nat → Nat} {N : Nat} {S : Nat → Nat → Prop} {FL FR : Nat → Prop} {i : Nat} (h : nq_k x = 60) : fl_eq x c cl cr v N S FL FR i ↔ (c (v i) = false) := by
  unfold fl_eq
  rw [if_pos h]
theorem fl_eq_61 {x : nq_N} {c cl cr : Nat → Bool} {v : Nat → Nat} {N : Nat} {S : Nat → Nat → Prop} {FL FR : Nat → Prop} {i : Nat} (h : nq_k x = 61) : fl_eq x c cl cr v N S FL FR i ↔ (∀ j, ¬ S i j) := by
  unfold fl_eq
  rw [if_neg (by omega), if_pos h]
theorem fl_eq_32 {x : nq_N} {c cl cr : Nat → Bool} {v : Nat → Nat} {N : Nat} {S : Nat → Nat → Prop} {FL FR : Nat → Prop} {i : Nat} (h : nq_k x = 32) : fl_eq x c cl cr v N S FL FR i ↔ (∃ j, i < j ∧ j ≤ N ∧ S i j ∧ FR (j - 1)) := by
  unfold fl_eq
  rw [if_neg (by omega), if_neg (by omega), if_pos h]
theorem fl_eq_33 {x : nq_N} {c cl cr : Nat → Bool} {v : Nat → Nat} {N : Nat} {S : Nat → Nat → Prop} {FL FR : Nat → Prop} {i : Nat} (h : nq_k x = 33) : fl_eq x c cl cr v N S FL FR i ↔ (∃ j, i ≤ j ∧ j < N ∧ S i j ∧ FR j) := by
  unfold fl_eq
  rw [if_neg (by omega), if_neg (by omega), if_neg (by omega), if_pos h]
theorem fl_eq_31 {x : nq_N} {c cl cr : Nat → Bool} {v : Nat → Nat} {N : Nat} {S : Nat → Nat → Prop} {FL FR : Nat → Prop} {i : Nat} (h : nq_k x = 31) : fl_eq x c cl cr v N S FL FR i ↔ (cl (v i) = true ∧ FR i) := by
  unfold fl_eq
  rw [if_neg (by omega), if_neg (by omega), if_neg (by omega), if_neg (by omega), if_pos h]
theorem fl_eq_10 {x : nq_N} {c cl cr : Nat → Bool} {v : Nat → Nat} {N : Nat} {S : Nat → Nat → Prop} {FL FR : Nat → Prop} {i : Nat} (h : nq_k x = 10) : fl_eq x c cl cr v N S FL FR i ↔ (∃ j, i ≤ j ∧ j < N ∧ FL j) := by
  unfold fl_eq
  rw [if_neg (by omega), if_neg (by omega), if_neg (by omega), if_neg (by omega), if_neg (by omega), if_pos h]
theorem fl_eq_11 {x : nq_N} {c cl cr : Nat → Bool} {v : Nat → Nat} {N : Nat} {S : Nat → Nat → Prop} {FL FR : Nat → Prop} {i : Nat} (h : nq_k x = 11) : fl_eq x c cl cr v N S FL FR i ↔ (∃ k j, i ≤ k ∧ k < j ∧ j ≤ N ∧ S k j) := by
  unfold fl_eq
  rw [if_neg (by omega), if_neg (by omega), if_neg (by omega), if_neg (by omega), if_neg (by omega), if_neg (by omega), if_pos h]
theorem fl_eq_12 {x : nq_N} {c cl cr : Nat → Bool} {v : Nat → Nat} {N : Nat} {S : Nat → Nat → Prop} {FL FR : Nat → Prop} {i : Nat} (h : nq_k x = 12) : fl_eq x c cl cr v N S FL FR i ↔ (i + nq_a x < N ∧ FL (i + nq_a x)) := by
  unfold fl_eq
  rw [if_neg (by omega), if_neg (by omega), if_neg (by omega), if_neg (by omega), if_neg (by omega), if_neg (by omega), if_neg (by omega), if_pos h]
theorem fl_eq_13 {x : nq_N} {c cl cr : Nat → Bool} {v : Nat → Nat} {N : Nat} {S : Nat → Nat → Prop} {FL FR : Nat → Prop} {i : Nat} (h : nq_k x = 13) : fl_eq x c cl cr v N S FL FR i ↔ (∃ j, i ≤ j ∧ j < N ∧ (∀ u, i ≤ u → u ≤ j → cr (v u) = false) ∧ FL j) := by
  unfold fl_eq
  rw [if_neg (by omega), if_neg (by omega), if_neg (by omega), if_neg (by omega), if_neg (by omega), if_neg (by omega), if_neg (by omega), if_neg (by omega), if_pos h]
theorem fl_eq_14 {x : nq_N} {c cl cr : Nat → Bool} {v : Nat → Nat} {N : Nat} {S : Nat → Nat → Prop} {FL FR : Nat → Prop} {i : Nat} (h : nq_k x = 14) : fl_eq x c cl cr v N S FL FR i ↔ (∃ j, i ≤ j ∧ j < N ∧ cr (v j) = true ∧ ∀ u, i ≤ u → u < j → ¬ (cl (v u) = true ∧ cr (v u) = false)) := by
  unfold fl_eq
  rw [if_neg (by omega), if_neg (by omega), if_neg (by omega), if_neg (by omega), if_neg (by omega), if_neg (by omega), if_neg (by omega), if_neg (by omega), if_neg (by omega), if_pos h]
theorem fl_eq_15 {x : nq_N} {c cl cr : Nat → Bool} {v : Nat → Nat} {N : Nat} {S : Nat → Nat → Prop} {FL FR : Nat → Prop} {i : Nat} (h : nq_k x = 15) : fl_eq x c cl cr v N S FL FR i ↔ (FL i ∨ FR i) := by
  unfold fl_eq
  rw [if_neg (by omega), if_neg (by omega), if_neg (by omega), if_neg (by omega), if_neg (by omega), if_neg (by omega), if_neg (by omega), if_neg (by omega), if_neg (by omega), if_neg (by omega)]
theorem fl_eq_c {x : nq_N} {c cl cr : Nat → Bool} {v : Nat → Nat} {N : Nat} {S S2 : Nat → Nat → Prop} {FL FL2 FR FR2 : Nat → Prop} {i : Nat} (hk : fl_prop (nq_k x)) (hS : tr_S (nq_k x) → S = S2) (hL : tr_L (nq_k x) → FL = FL2) (hR : tr_R (nq_k x) → FR = FR2) : fl_eq x c cl cr v N S FL FR i ↔ fl_eq x c cl cr v N S2 FL2 FR2 i := by
  unfold tr_S at hS
  unfold tr_L at hL
  unfold tr_R at hR
  unfold fl_prop at hk
  rcases hk with h | h | h | h
  · rw [fl_eq_60 h, fl_eq_60 h]
  · rw [fl_eq_61 h, fl_eq_61 h, hS (Or.inl h)]
  · by_cases c31 : nq_k x = 31
    · rw [fl_eq_31 c31, fl_eq_31 c31, hR (Or.inl h)]
    · by_cases c32 : nq_k x = 32
      · rw [fl_eq_32 c32, fl_eq_32 c32, hR (Or.inl h), hS (by omega)]
      · have c33 : nq_k x = 33 := by omega
        rw [fl_eq_33 c33, fl_eq_33 c33, hR (Or.inl h), hS (by omega)]
  · by_cases c10 : nq_k x = 10
    · rw [fl_eq_10 c10, fl_eq_10 c10, hL (by omega)]
    by_cases c11 : nq_k x = 11
    · rw [fl_eq_11 c11, fl_eq_11 c11, hS (by omega)]
    by_cases c12 : nq_k x = 12
    · rw [fl_eq_12 c12, fl_eq_12 c12, hL (by omega)]
    by_cases c13 : nq_k x = 13
    · rw [fl_eq_13 c13, fl_eq_13 c13, hL (by omega)]
    by_cases c14 : nq_k x = 14
    · rw [fl_eq_14 c14, fl_eq_14 c14]
    have c15 : nq_k x = 15 := by omega
    rw [fl_eq_15 c15, fl_eq_15 c15, hL (by omega), hR (by omega)]
/-- rows of a node, and what fails, within the word -/
def mr_S (L : Nat → Nat → Int64) (Z n i j : Nat) : Prop := i ≤ Z ∧ mr_E L n i j
def mr_Fl (I : Nat → Nat → Int32) (lk n i : Nat) : Prop := i < lk ∧ mr_f I n i = true
theorem mr_S_0 {L : Nat → Nat → Int64} {Z l i : Nat} (hi : i ≤ Z) : (L 492 (172 * l + 2 * i) = 0 ∧ L 492 (172 * l + 2 * i + 1) = 0) ↔ ∀ j, ¬ mr_S L Z l i j := by
  constructor
  · rintro ⟨h1, h2⟩ j ⟨_, h3⟩
    unfold mr_E mr_e at h3
    rw [h1, h2] at h3
    have h4 : mr_b 0 0 j = false := mr_b_0 j
    rw [h4] at h3
    cases h3
  · intro h
    have h2 : ∀ j, mr_b (L 492 (172 * l + 2 * i)) (L 492 (172 * l + 2 * i + 1)) j = false := fun j => Bool.eq_false_iff.mpr (fun z => h j ⟨hi, z⟩)
    constructor
    · refine nb_z.mpr (fun k hk => ?_)
      have := h2 k
      unfold mr_b at this
      rw [if_pos hk] at this
      exact this
    · refine nb_z.mpr (fun k hk => ?_)
      have := h2 (k + 64)
      unfold mr_b at this
      rw [if_neg (by omega), Nat.add_sub_cancel] at this
      exact this
def mr_h403 (rn_k10 : Prop) (F : Nat → Bool) (n i lk : Nat) (T : wv_T) (N : Nat) (I : Nat → Nat → Int32) (L : Nat → Nat → Int64) (R : Nat → Nat → Option Nat) : Nat → Option (Nat → wv_P) := fun pc =>
  if pc = 223 then some (fun mm lv st T1 N1 I1 L1 R1 nc ns => ∃ (j : Nat) (b : Bool), lv = [some (.ref 460), some (.int (Int32.ofNat n)), some (.int (Int32.ofNat i)), some (.int (wb_i b)), some (.int (Int32.ofNat j)), none, none, none] ∧ st = [] ∧ T1 = T ∧ N1 = N ∧ I1 = I ∧ L1 = L ∧ R1 = R ∧ nc = 0 ∧ ns = 0 ∧ rn_k10 ∧ i ≤ j ∧ j ≤ lk ∧ mm = 2 * (lk + 1 - j) ∧ (b = true ↔ ∃ a, i ≤ a ∧ a < j ∧ F a = true))
  else if pc = 256 then some (fun mm lv st T1 N1 I1 L1 R1 nc ns => ∃ (j : Nat) (b b2 : Bool), lv = [some (.ref 460), some (.int (Int32.ofNat n)), some (.int (Int32.ofNat i)), some (.int (wb_i b)), some (.int (Int32.ofNat j)), none, none, none] ∧ st = [.int (wb_i b2)] ∧ T1 = T ∧ N1 = N ∧ I1 = I ∧ L1 = L ∧ R1 = R ∧ nc = 0 ∧ ns = 0 ∧ rn_k10 ∧ i ≤ j ∧ j < lk ∧ mm = 2 * (lk + 1 - j) - 1 ∧ (b2 = true ↔ ∃ a, i ≤ a ∧ a < j + 1 ∧ F a = true))
  else none
def mr_c403 : wv_c1 := fun as T N I L R q => ∃ (S : rn_N) (m0 lk wd n i : Nat) (v : Nat → Nat), as = [.ref 460, .int (Int32.ofNat n), .int (Int32.ofNat i)] ∧ mr_X T I S m0 lk wd v ∧ n < rn_n S ∧ rn_q S ∧ i < lk ∧ (fl_prop (rn_k S n) → ∀ b : Bool, (b = true ↔ fl_eq (rn_d S n) (rn_h S n) (rn_h S (nq_l (rn_d S n))) (rn_h S (nq_r (rn_d S n))) v lk (mr_S L (lk + wd) (nq_l (rn_d S n))) (mr_Fl I lk (nq_l (rn_d S n))) (mr_Fl I lk (nq_r (rn_d S n))) i) → q (.inl (some (.int (wb_i b)))) T N I L R 0 0) ∧ (¬ fl_prop (rn_k S n) → q (.inl (some (.int 0))) T N I L R 0 0)
set_option maxRecDepth 100000 in
theorem wM_403 : ∃ cb ci np, pt_mt 403 = some (32, cb, 5, false, some .boolean, ci, np) := ⟨_, _, _, rfl⟩
set_option maxRecDepth 100000 in
set_option maxHeartbeats 4000000 in
theorem mr_failsFrom {sc : pt_Sc} {d : Nat} : wv_C wm_fx sc (d + 1 + 1 + 1 + 1) 403 mr_c403 := by
  rintro as T N I L R q ⟨S, m0, lk, wd, n, i, v, rfl, hX, hn, hq, hi, h1, h0⟩ w0 HR
  obtain ⟨cb, ci, np, hm⟩ := wM_403
  have hc386 : wv_C wm_fx sc (d + 1 + 1 + 1) 386 mr_c386 := wv_C_deep (by omega) (mr_holds (d := d))
  have hc404 : wv_C wm_fx sc (d + 1 + 1 + 1) 404 mr_c404 := wv_C_deep (by omega) (mr_suffix (d := d))
  have hc405 : wv_C wm_fx sc (d + 1 + 1 + 1) 405 mr_c405 := wv_C_deep (by omega) (mr_failsAt (d := d))
  have hc406 : wv_C wm_fx sc (d + 1 + 1 + 1) 406 mr_c406 := wv_C_deep (by omega) (mr_letterHolds (d := d))
  have hc407 : wv_C wm_fx sc (d + 1 + 1 + 1) 407 mr_c407 := wv_C_deep (by omega) (mr_anyRow (d := d))
  have hc408 : wv_C wm_fx sc (d + 1 + 1 + 1) 408 mr_c408 := wv_C_deep (by omega) (mr_until (d := d))
  have hc409 : wv_C wm_fx sc (d + 1 + 1 + 1) 409 mr_c409 := wv_C_deep (by omega) (mr_before (d := d))
  refine wv_meth (hh := none) rfl (sp := wv_sp [(386, mr_c386), (404, mr_c404), (405, mr_c405), (406, mr_c406), (407, mr_c407), (408, mr_c408), (409, mr_c409)]) (hd := mr_h403 (rn_k S n = 10) (fun u => mr_f I (nq_l (rn_d S n)) u) n i lk T N I L R) (n := 300) (n1 := 300) hm zc_403 rfl (wv_sp_ok (fun q hq => by
    rcases List.mem_cons.mp hq with h | h
    · rw [h]; exact hc386
    rcases List.mem_cons.mp h with h | h
    · rw [h]; exact hc404
    rcases List.mem_cons.mp h with h | h
    · rw [h]; exact hc405
    rcases List.mem_cons.mp h with h | h
    · rw [h]; exact hc406
    rcases List.mem_cons.mp h with h | h
    · rw [h]; exact hc407
    rcases List.mem_cons.mp h with h | h
    · rw [h]; exact hc408
    rw [List.mem_singleton.mp h]; exact hc409)) ?_ ?_ HR
  · have hX0 := hX
    obtain ⟨hT, ⟨h37, hn5, hm0, hM⟩, h49, hlk, h32, hwd, hv⟩ := hX0
    have enn := wi_onn (n := n) (by omega)
    have e0 : I 469 n = Int32.ofNat (rn_k S n) := (hM n hn).1
    have hk100 : rn_k S n < 100 := (hq n hn).1
    have ek := wi_on (n := rn_k S n) (by omega)
    refine ⟨_, wm_t hT rfl, pp_b (c := 800) (by omega) (by omega), ?_⟩
    rw [enn, e0]
    have hw2 := (hq n hn).2
    have hnd : ¬ rn_k S n = 60 → I 470 n = Int32.ofNat (nq_l (rn_d S n)) ∧ I 471 n = Int32.ofNat (nq_r (rn_d S n)) := fun z => (mr_nd (hM n hn) z).2
    refine ⟨fun w => ?_, fun n10 => ⟨fun w => ?_, fun n11 => ⟨fun w => ?_, fun n12 => ⟨fun w => ?_, fun n13 => ⟨fun w => ?_, fun n14 => ⟨fun w => ?_, fun n15 => ⟨fun w => ?_, fun n31 => ⟨fun w => ?_, fun n32 => ⟨fun w => ?_, fun n33 => ⟨fun w => ?_, fun n60 => ⟨fun w => ?_, fun n61 => ?_⟩⟩⟩⟩⟩⟩⟩⟩⟩⟩⟩
    · rw [ek] at w
      have w : rn_k S n = 10 := by omega
      have w0 : nq_k (rn_d S n) = 10 := w
      exact ⟨_, i, false, rfl, rfl, rfl, rfl, rfl, rfl, rfl, rfl, rfl, w, Nat.le_refl _, by omega, rfl, ⟨fun z => (by cases z), fun ⟨a, a1, a2, _⟩ => by omega⟩⟩
    · rw [ek] at w
      have w : rn_k S n = 11 := by omega
      have w0 : nq_k (rn_d S n) = 11 := w
      obtain ⟨e2, e3⟩ := hnd (by omega)
      obtain ⟨tL, tR, tS, t1, t2, t3⟩ := hw2 (by unfold fl_prop; omega)
      obtain ⟨l1, l2, l3⟩ := tS (by unfold tr_S; omega)
      refine ⟨_, wm_t hT rfl, pp_b (c := 800) (by omega) (by omega), ?_⟩
      rw [enn, e2]
      refine ⟨nq_l (rn_d S n), i, lk, rfl, hT, h49, hlk, by omega, by omega, fun b hb => ?_⟩
      have hq := h1 (by unfold fl_prop; omega) b (hb.trans ((fl_eq_11 w0).trans ⟨fun ⟨k, j, a, b, c, d⟩ => ⟨k, j, a, b, c, d.2⟩, fun ⟨k, j, a, b, c, d⟩ => ⟨k, j, a, b, c, by omega, d⟩⟩).symm)
      cases b with
      | true => exact ⟨⟨rfl, rfl⟩, hq⟩
      | false => exact ⟨⟨rfl, rfl⟩, hq⟩
    · rw [ek] at w
      have w : rn_k S n = 12 := by omega
      have w0 : nq_k (rn_d S n) = 12 := w
      obtain ⟨e2, e3⟩ := hnd (by omega)
      obtain ⟨tL, tR, tS, t1, t2, t3⟩ := hw2 (by unfold fl_prop; omega)
      obtain ⟨l1, l2⟩ := tL (by unfold tr_L; omega)
      have ha := t3 w0
      have e4 : I 472 n = Int32.ofNat (nq_a (rn_d S n)) := ((hM n hn).2.2.2 (by omega)).2.2.1 (by omega)
      refine ⟨_, wm_t hT rfl, pp_b (c := 800) (by omega) (by omega), ?_⟩
      rw [enn, e2]
      refine ⟨_, wm_t hT rfl, pp_b (c := 800) (by omega) (by omega), ?_⟩
      rw [enn, e4]
      refine ⟨nq_l (rn_d S n), i + nq_a (rn_d S n), lk, congrArg (fun z => [Value.ref 460, Value.int (Int32.ofNat (nq_l (rn_d S n))), Value.int z]) (wq_ad (by omega)), hT, h49, hlk, by omega, by omega, ?_⟩
      have hb : (decide (i + nq_a (rn_d S n) < lk) && mr_f I (nq_l (rn_d S n)) (i + nq_a (rn_d S n))) = true ↔ fl_eq (rn_d S n) (rn_h S n) (rn_h S (nq_l (rn_d S n))) (rn_h S (nq_r (rn_d S n))) v lk (mr_S L (lk + wd) (nq_l (rn_d S n))) (mr_Fl I lk (nq_l (rn_d S n))) (mr_Fl I lk (nq_r (rn_d S n))) i := by
        rw [fl_eq_12 w0, Bool.and_eq_true]
        exact ⟨fun z => ⟨of_decide_eq_true z.1, of_decide_eq_true z.1, z.2⟩, fun z => ⟨decide_eq_true z.1, z.2.2⟩⟩
      generalize (decide (i + nq_a (rn_d S n) < lk) && mr_f I (nq_l (rn_d S n)) (i + nq_a (rn_d S n))) = b at *
      have hq := h1 (by unfold fl_prop; omega) b (hb)
      cases b with
      | true => exact ⟨⟨rfl, rfl⟩, hq⟩
      | false => exact ⟨⟨rfl, rfl⟩, hq⟩
    · rw [ek] at w
      have w : rn_k S n = 13 := by omega
      have w0 : nq_k (rn_d S n) = 13 := w
      obtain ⟨tL, tR, tS, t1, t2, t3⟩ := hw2 (by unfold fl_prop; omega)
      obtain ⟨l1, l2⟩ := tL (by unfold tr_L; omega)
      obtain ⟨r1, r2⟩ := t2 (by omega)
      refine ⟨S, m0, lk, wd, n, i, v, rfl, hX, hn, w, l1, r1, r2, by omega, fun b hb => ?_⟩
      have hq := h1 (by unfold fl_prop; omega) b (hb.trans ((fl_eq_13 w0).trans ⟨fun ⟨j, a, b, c, d⟩ => ⟨j, a, b, c, d.2⟩, fun ⟨j, a, b, c, d⟩ => ⟨j, a, b, c, b, d⟩⟩).symm)
      cases b with
      | true => exact ⟨⟨rfl, rfl⟩, hq⟩
      | false => exact ⟨⟨rfl, rfl⟩, hq⟩
    · rw [ek] at w
      have w : rn_k S n = 14 := by omega
      have w0 : nq_k (rn_d S n) = 14 := w
      obtain ⟨tL, tR, tS, t1, t2, t3⟩ := hw2 (by unfold fl_prop; omega)
      obtain ⟨l1, l2⟩ := t1 (by omega)
      obtain ⟨r1, r2⟩ := t2 (by omega)
      refine ⟨S, m0, lk, wd, n, i, v, rfl, hX, hn, w, l1, r1, l2, r2, by omega, fun b hb => ?_⟩
      have hq := h1 (by unfold fl_prop; omega) b (hb.trans (fl_eq_14 w0).symm)
      cases b with
      | true => exact ⟨⟨rfl, rfl⟩, hq⟩
      | false => exact ⟨⟨rfl, rfl⟩, hq⟩
    · rw [ek] at w
      have w : rn_k S n = 15 := by omega
      have w0 : nq_k (rn_d S n) = 15 := w
      obtain ⟨e2, e3⟩ := hnd (by omega)
      obtain ⟨tL, tR, tS, t1, t2, t3⟩ := hw2 (by unfold fl_prop; omega)
      obtain ⟨l1, l2⟩ := tL (by unfold tr_L; omega)
      obtain ⟨r1, r2⟩ := tR (by unfold tr_R; omega)
      refine ⟨_, wm_t hT rfl, pp_b (c := 800) (by omega) (by omega), ?_⟩
      rw [enn, e2]
      refine ⟨nq_l (rn_d S n), i, lk, rfl, hT, h49, hlk, by omega, by omega, ?_⟩
      rw [decide_eq_true hi, Bool.true_and]
      refine ⟨fun w2 => ?_, fun w2 => ?_⟩
      · have w2 := wb_i_1.mp w2
        exact ⟨⟨rfl, rfl⟩, h1 (by unfold fl_prop; omega) true ⟨fun _ => (fl_eq_15 w0).mpr (Or.inl ⟨hi, w2⟩), fun _ => rfl⟩⟩
      have w2 := wb_i_2.mp w2
      refine ⟨_, wm_t hT rfl, pp_b (c := 800) (by omega) (by omega), ?_⟩
      rw [enn, e3]
      refine ⟨nq_r (rn_d S n), i, lk, rfl, hT, h49, hlk, by omega, by omega, ?_⟩
      rw [decide_eq_true hi, Bool.true_and]
      refine ⟨fun w3 => ?_, fun w3 => ?_⟩
      · have w3 := wb_i_2.mp (fun z => z w3)
        refine ⟨⟨rfl, rfl⟩, h1 (by unfold fl_prop; omega) false ⟨fun z => (by cases z), fun z => ?_⟩⟩
        rcases (fl_eq_15 w0).mp z with y | y
        · have y := y.2
          rw [w2] at y
          cases y
        · have y := y.2
          rw [w3] at y
          cases y
      · have w3 := wb_i_1.mp w3
        exact ⟨⟨rfl, rfl⟩, h1 (by unfold fl_prop; omega) true ⟨fun _ => (fl_eq_15 w0).mpr (Or.inr ⟨hi, w3⟩), fun _ => rfl⟩⟩
    · rw [ek] at w
      have w : rn_k S n = 31 := by omega
      have w0 : nq_k (rn_d S n) = 31 := w
      obtain ⟨e2, e3⟩ := hnd (by omega)
      obtain ⟨tL, tR, tS, t1, t2, t3⟩ := hw2 (by unfold fl_prop; omega)
      obtain ⟨l1, l2⟩ := t1 (by omega)
      obtain ⟨r1, r2⟩ := tR (by unfold tr_R; omega)
      refine ⟨_, wm_t hT rfl, pp_b (c := 800) (by omega) (by omega), ?_⟩
      rw [enn, e2]
      refine ⟨S, m0, lk, wd, nq_l (rn_d S n), i, v, rfl, hX, by omega, l2, hi, ?_⟩
      refine ⟨fun w2 => ?_, fun w2 => ?_⟩
      · have w2 := wb_i_2.mp (fun z => z w2)
        refine ⟨⟨rfl, rfl⟩, h1 (by unfold fl_prop; omega) false ⟨fun z => (by cases z), fun z => ?_⟩⟩
        have y := ((fl_eq_31 w0).mp z).1
        rw [w2] at y
        cases y
      have w2 := wb_i_1.mp w2
      refine ⟨_, wm_t hT rfl, pp_b (c := 800) (by omega) (by omega), ?_⟩
      rw [enn, e3]
      refine ⟨nq_r (rn_d S n), i, lk, rfl, hT, h49, hlk, by omega, by omega, ?_⟩
      rw [decide_eq_true hi, Bool.true_and]
      refine ⟨fun w3 => ?_, fun w3 => ?_⟩
      · have w3 := wb_i_2.mp (fun z => z w3)
        refine ⟨⟨rfl, rfl⟩, h1 (by unfold fl_prop; omega) false ⟨fun z => (by cases z), fun z => ?_⟩⟩
        have y := ((fl_eq_31 w0).mp z).2.2
        rw [w3] at y
        cases y
      · have w3 := wb_i_1.mp w3
        exact ⟨⟨rfl, rfl⟩, h1 (by unfold fl_prop; omega) true ⟨fun _ => (fl_eq_31 w0).mpr ⟨w2, hi, w3⟩, fun _ => rfl⟩⟩
    · rw [ek] at w
      have w : rn_k S n = 32 := by omega
      have w0 : nq_k (rn_d S n) = 32 := w
      obtain ⟨tL, tR, tS, t1, t2, t3⟩ := hw2 (by unfold fl_prop; omega)
      obtain ⟨l1, l2, l3⟩ := tS (by unfold tr_S; omega)
      obtain ⟨r1, r2⟩ := tR (by unfold tr_R; omega)
      refine ⟨S, m0, lk, wd, n, i, v, rfl, hX, hn, by omega, l1, r1, by omega, fun b hb => ?_⟩
      have hq := h1 (by unfold fl_prop; omega) b (hb.trans ((fl_eq_32 w0).trans ⟨fun ⟨j, a1, a2, a3, a4⟩ => ⟨j, by omega, by omega, a3.2, by rw [w]; exact ⟨a1, a4.2⟩⟩, fun ⟨j, a1, a2, a3, a4⟩ => by rw [w] at a4; exact ⟨j, a4.1, by omega, ⟨by omega, a3⟩, (by have := a4.1; omega), a4.2⟩⟩).symm)
      cases b with
      | true => exact ⟨⟨rfl, rfl⟩, hq⟩
      | false => exact ⟨⟨rfl, rfl⟩, hq⟩
    · rw [ek] at w
      have w : rn_k S n = 33 := by omega
      have w0 : nq_k (rn_d S n) = 33 := w
      obtain ⟨tL, tR, tS, t1, t2, t3⟩ := hw2 (by unfold fl_prop; omega)
      obtain ⟨l1, l2, l3⟩ := tS (by unfold tr_S; omega)
      obtain ⟨r1, r2⟩ := tR (by unfold tr_R; omega)
      refine ⟨S, m0, lk, wd, n, i, v, rfl, hX, hn, by omega, l1, r1, by omega, fun b hb => ?_⟩
      have hq := h1 (by unfold fl_prop; omega) b (hb.trans ((fl_eq_33 w0).trans ⟨fun ⟨j, a1, a2, a3, a4⟩ => ⟨j, by omega, by omega, a3.2, by rw [w]; exact ⟨a2, a4.2⟩⟩, fun ⟨j, a1, a2, a3, a4⟩ => by rw [w] at a4; exact ⟨j, a1, a4.1, ⟨by omega, a3⟩, a4.1, a4.2⟩⟩).symm)
      cases b with
      | true => exact ⟨⟨rfl, rfl⟩, hq⟩
      | false => exact ⟨⟨rfl, rfl⟩, hq⟩
    · rw [ek] at w
      have w : rn_k S n = 60 := by omega
      have w0 : nq_k (rn_d S n) = 60 := w
      refine ⟨S, m0, lk, wd, n, i, v, rfl, hX, hn, w, hi, ?_⟩
      refine ⟨fun w2 => ?_, fun w2 => ?_⟩
      · have w2 := wb_i_1.mp w2
        refine ⟨⟨rfl, rfl⟩, h1 (by unfold fl_prop; omega) false ⟨fun z => (by cases z), fun z => ?_⟩⟩
        have y := (fl_eq_60 w0).mp z
        rw [w2] at y
        cases y
      · have w2 := wb_i_2.mp w2
        exact ⟨⟨rfl, rfl⟩, h1 (by unfold fl_prop; omega) true ⟨fun _ => (fl_eq_60 w0).mpr w2, fun _ => rfl⟩⟩
    · rw [ek] at w
      have w : rn_k S n = 61 := by omega
      have w0 : nq_k (rn_d S n) = 61 := w
      obtain ⟨e2, e3⟩ := hnd (by omega)
      obtain ⟨tL, tR, tS, t1, t2, t3⟩ := hw2 (by unfold fl_prop; omega)
      obtain ⟨l1, l2, l3⟩ := tS (by unfold tr_S; omega)
      have hS0 := mr_S_0 (L := L) (Z := lk + wd) (l := nq_l (rn_d S n)) (i := i) (by omega)
      have d1 := mr_ix (n := nq_l (rn_d S n)) (i := i) (by omega) (by omega)
      have d2 := wq_4s (172 * nq_l (rn_d S n) + 2 * i)
      have n1 := wi_onn (n := 172 * nq_l (rn_d S n) + 2 * i) (by omega)
      have n2 := wi_onn (n := 172 * nq_l (rn_d S n) + 2 * i + 1) (by omega)
      refine ⟨_, wm_t hT rfl, pp_b (c := 800) (by omega) (by omega), ?_⟩
      rw [enn, e2]
      refine ⟨_, wm_t hT rfl, by rw [d1]; exact pp_b (c := 137600) (by omega) (by omega), ?_⟩
      rw [d1, n1]
      refine ⟨fun w2 => ?_, fun w2 => ?_⟩
      · have w2 : ¬ L 492 (172 * nq_l (rn_d S n) + 2 * i) = 0 := fun z => w2 (lg_cmp_0.mpr z)
        exact ⟨⟨rfl, rfl⟩, h1 (by unfold fl_prop; omega) false ⟨fun z => (by cases z), fun z => (w2 (hS0.mpr ((fl_eq_61 w0).mp z)).1).elim⟩⟩
      have w2 : L 492 (172 * nq_l (rn_d S n) + 2 * i) = 0 := lg_cmp_0.mp (Decidable.not_not.mp w2)
      refine ⟨_, wm_t hT rfl, pp_b (c := 800) (by omega) (by omega), ?_⟩
      rw [enn, e2]
      refine ⟨_, wm_t hT rfl, by rw [d1, d2]; exact pp_b (c := 137600) (by omega) (by omega), ?_⟩
      rw [d1, d2, n2]
      refine ⟨fun w3 => ?_, fun w3 => ?_⟩
      · have w3 : ¬ L 492 (172 * nq_l (rn_d S n) + 2 * i + 1) = 0 := fun z => w3 (lg_cmp_0.mpr z)
        exact ⟨⟨rfl, rfl⟩, h1 (by unfold fl_prop; omega) false ⟨fun z => (by cases z), fun z => (w3 (hS0.mpr ((fl_eq_61 w0).mp z)).2).elim⟩⟩
      · have w3 : L 492 (172 * nq_l (rn_d S n) + 2 * i + 1) = 0 := lg_cmp_0.mp (Decidable.not_not.mp w3)
        exact ⟨⟨rfl, rfl⟩, h1 (by unfold fl_prop; omega) true ⟨fun _ => (fl_eq_61 w0).mpr (hS0.mp ⟨w2, w3⟩), fun _ => rfl⟩⟩
    · rw [ek] at n10 n11 n12 n13 n14 n15 n31 n32 n33 n60 n61
      exact ⟨⟨rfl, rfl⟩, h0 (by unfold fl_prop; omega)⟩
  · intro pc P hP m lv st T1 N1 I1 L1 R1 nc ns hh
    have hX0 := hX
    obtain ⟨hT, ⟨h37, hn5, hm0, hM⟩, h49, hlk, h32, hwd, hv⟩ := hX0
    have enn := wi_onn (n := n) (by omega)
    have el := wi_on (n := lk) (by omega)
    unfold mr_h403 at hP
    by_cases p223 : pc = 223
    · rw [if_pos p223] at hP
      cases hP
      subst p223
      obtain ⟨j, b, rfl, rfl, rfl, rfl, rfl, rfl, rfl, rfl, rfl, w, hij, hj, rfl, hb⟩ := hh
      have w0 : nq_k (rn_d S n) = 10 := w
      obtain ⟨_, e2, e3⟩ := mr_nd (hM n hn) (by omega)
      obtain ⟨tL, tR, tS, t1, t2, t3⟩ := (hq n hn).2 (by unfold fl_prop; omega)
      obtain ⟨l1, l2⟩ := tL (by unfold tr_L; omega)
      have ej := wi_on (n := j) (by omega)
      refine ⟨fun w => ?_, fun w => ?_⟩
      · rw [h49, wi_le, el, ej] at w
        have ejl : j = lk := by omega
        subst ejl
        have hq := h1 (by unfold fl_prop; omega) b (hb.trans ((fl_eq_10 w0).trans ⟨fun ⟨j, a, b, c⟩ => ⟨j, a, b, c.2⟩, fun ⟨j, a, b, c⟩ => ⟨j, a, b, b, c⟩⟩).symm)
        cases b with
        | true => exact ⟨⟨rfl, rfl⟩, hq⟩
        | false => exact ⟨⟨rfl, rfl⟩, hq⟩
      rw [h49, wi_le, el, ej] at w
      have key : (∃ a, i ≤ a ∧ a < j + 1 ∧ mr_f I1 (nq_l (rn_d S n)) a = true) ↔ (∃ a, i ≤ a ∧ a < j ∧ mr_f I1 (nq_l (rn_d S n)) a = true) ∨ mr_f I1 (nq_l (rn_d S n)) j = true := by
        constructor
        · rintro ⟨a, a1, a2, a3⟩
          by_cases e : a = j
          · subst e
            exact Or.inr a3
          · exact Or.inl ⟨a, a1, by omega, a3⟩
        · rintro (⟨a, a1, a2, a3⟩ | z)
          · exact ⟨a, a1, by omega, a3⟩
          · exact ⟨j, hij, by omega, z⟩
      refine ⟨fun w2 => ?_, fun w2 => ?_⟩
      · have w2 := wb_i_1.mp w2
        exact ⟨2 * (lk + 1 - j) - 1, by omega, j, b, true, rfl, rfl, rfl, rfl, rfl, rfl, rfl, rfl, rfl, w0, hij, by omega, rfl, ⟨fun _ => key.mpr (Or.inl (hb.mp w2)), fun _ => rfl⟩⟩
      have w2 := wb_i_2.mp w2
      have nb0 : ¬ b = true := by rw [w2]; decide
      refine ⟨_, wm_t hT rfl, pp_b (c := 800) (by omega) (by omega), ?_⟩
      rw [enn, e2]
      refine ⟨nq_l (rn_d S n), j, lk, rfl, hT, h49, hlk, by omega, by omega, ?_⟩
      rw [decide_eq_true (show j < lk by omega), Bool.true_and]
      refine ⟨fun w3 => ?_, fun w3 => ?_⟩
      · have w3 := wb_i_2.mp (fun z => z w3)
        refine ⟨2 * (lk + 1 - j) - 1, by omega, j, b, false, rfl, rfl, rfl, rfl, rfl, rfl, rfl, rfl, rfl, w0, hij, by omega, rfl, ⟨fun z => (by cases z), fun z => ?_⟩⟩
        rcases key.mp z with y | y
        · exact (nb0 (hb.mpr y)).elim
        · rw [w3] at y
          cases y
      · have w3 := wb_i_1.mp w3
        exact ⟨2 * (lk + 1 - j) - 1, by omega, j, b, true, rfl, rfl, rfl, rfl, rfl, rfl, rfl, rfl, rfl, w0, hij, by omega, rfl, ⟨fun _ => key.mpr (Or.inr w3), fun _ => rfl⟩⟩
    rw [if_neg p223] at hP
    by_cases p256 : pc = 256
    · rw [if_pos p256] at hP
      cases hP
      subst p256
      obtain ⟨j, b, b2, rfl, rfl, rfl, rfl, rfl, rfl, rfl, rfl, rfl, w, hij, hj, rfl, hb⟩ := hh
      exact ⟨2 * (lk + 1 - (j + 1)), by omega, j + 1, b2, by rw [← wq_4s j]; rfl, rfl, rfl, rfl, rfl, rfl, rfl, rfl, rfl, w, by omega, by omega, rfl, hb⟩
    rw [if_neg p256] at hP
    cases hP
