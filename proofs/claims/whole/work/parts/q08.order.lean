/-! ===== the sequences of a property that was read, in order ===== -/
theorem fl_ok_of {ts : List wt_t} {n o : Nat} {S : rn_N} {s : wt_q} {fr : List ap_F} (hv : ∀ y, y ∈ ts → pr_vt y) (hl : ts.length ≤ 401) (hS : rn_i S) (hq : rn_q S) (hf : ap_fr S fr) (hn : tk_now ts s = (Int8.ofInt 13).toInt32) (hz : o ≤ 20) (he : rn_n S + fr.length ≤ s.1) (h : (sq_fin ts n o S s).2.2.2.2.1.2 = none) : fl_ok ts n o S s fr := by
  obtain ⟨S3, y, s3, b1, b2, b3, b4, b5, b6, b7, b8, b9, b10⟩ := sq_fin_ok (z := o) (e := fr.length) hv hl hS hn hz he h
  have bq := rn_q_fin (z := o) (e := fr.length) hv hl hS hq hn hz he h
  unfold fl_ok
  rw [b1] at bq ⊢
  exact ⟨bq, ap_fr_E b6 hf, b4, b5, b7⟩
theorem fl_step {ts : List wt_t} {n : Nat} {S : rn_N} {fr : List ap_F} {p : Option Nat} {o : Nat} {s : wt_q} {sq : List Nat} (hv : ∀ y, y ∈ ts → pr_vt y) (hl : ts.length ≤ 401) (h : ap_I ts S fr p o s sq) (hs : s.2 = none) (hw : ap_fl S fr p sq) (hf : (ap_t (ap_1 ts n (S, fr, p, o, s, sq, false))).2 = none) : ap_fl (ap_1 ts n (S, fr, p, o, s, sq, false)).1 (ap_1 ts n (S, fr, p, o, s, sq, false)).2.1 (ap_1 ts n (S, fr, p, o, s, sq, false)).2.2.1 (ap_1 ts n (S, fr, p, o, s, sq, false)).2.2.2.2.2.1 := by
  obtain ⟨i1, iq, i2, i3, i4, i5, i6, i7, i8⟩ := h
  cases p with
  | none =>
    have hf : (ap_t (ap_b ts n S fr o s sq)).2 = none := hf
    refine ap_fl_b (ts := ts) (n := n) (o := o) (s := s) iq i2 (fun c4 => ?_) (fun c3 c4 => ?_) hw
    · refine fl_ok_of (S := S) (fr := fr) hv hl i1 iq i2 c4 i5 (by omega) ?_
      unfold ap_b at hf
      rw [if_neg (by rw [c4]; decide), if_neg (by rw [c4]; decide), if_neg (by rw [c4]; decide), if_pos c4] at hf
      generalize sq_fin ts n o S s = r at hf ⊢
      unfold ap_sq at hf
      by_cases c5 : tk_now ts r.2.2.2.2.1 = (Int8.ofInt 18).toInt32
      · exact (tk_ad1 (ts := ts) (s := r.2.2.2.2.1) (by rw [c5]; decide)).1
      rw [if_neg c5] at hf
      by_cases c6 : tk_now ts r.2.2.2.2.1 = (Int8.ofInt 19).toInt32
      · exact (tk_ad1 (ts := ts) (s := r.2.2.2.2.1) (by rw [c6]; decide)).1
      rw [if_neg c6] at hf
      exact hf
    · obtain ⟨a1, a2, a3⟩ := tk_ad1 (s := s) (ts := ts) (by rw [c3]; decide)
      have a21 : (tk_adv ts s).1 = s.1 + 1 := by rw [a2]
      refine fl_ok_of (S := S) (fr := fr) hv hl i1 iq i2 c4 i5 (by rw [a21]; omega) ?_
      unfold ap_b at hf
      rw [if_neg (by rw [c3]; decide), if_neg (by rw [c3]; decide), if_pos c3] at hf
      unfold ap_nv at hf
      rw [if_pos c4] at hf
      exact hf
  | some x =>
    have hx := i3 x rfl
    exact ap_fl_e (ts := ts) (n := n) (x := x) (o := o) (s := s) iq ⟨hx.1, hx.2.1⟩ i2 hw
theorem fl_ap {ts : List wt_t} {n : Nat} (hv : ∀ y, y ∈ ts → pr_vt y) (hl : ts.length ≤ 401) : ∀ (f : Nat) (S : rn_N) (fr : List ap_F) (p : Option Nat) (o : Nat) (s : wt_q) (sq : List Nat) (d : Bool), ap_I ts S fr p o s sq → s.2 = none → ap_fl S fr p sq → (ap_t (ap_run ts n f (S, fr, p, o, s, sq, d))).2 = none → ap_fl (ap_run ts n f (S, fr, p, o, s, sq, d)).1 (ap_run ts n f (S, fr, p, o, s, sq, d)).2.1 (ap_run ts n f (S, fr, p, o, s, sq, d)).2.2.1 (ap_run ts n f (S, fr, p, o, s, sq, d)).2.2.2.2.2.1 := by
  intro f
  induction f with
  | zero => exact fun S fr p o s sq d _ _ h _ => h
  | succ f ih =>
    intro S fr p o s sq d hI hs hw hn
    cases d with
    | true =>
      rw [ap_run_no (fun w => by cases (ap_go_iff.mp w).1)]
      exact hw
    | false =>
      rw [ap_run_at (ap_go_iff.mpr ⟨rfl, hs⟩)] at hn ⊢
      have g := fl_step (n := n) hv hl hI hs hw
      generalize h2 : ap_1 ts n (S, fr, p, o, s, sq, false) = y at hn g ⊢
      obtain ⟨S2, fr2, p2, o2, s2, sq2, d2⟩ := y
      by_cases hf2 : s2.2 = none
      · obtain ⟨a1, a2, a3, a4⟩ := ap_1_I hv hl hI hs h2 hf2
        exact ih S2 fr2 p2 o2 s2 sq2 d2 a1 hf2 (g hf2) hn
      · rw [ap_run_no (fun w => hf2 (ap_go_iff.mp w).2)] at hn
        exact absurd hn hf2
/-- the sequences of a property that was read are those of its tree, in order -/
theorem fl_all {ts : List wt_t} {n : Nat} (hv : ∀ y, y ∈ ts → pr_vt y) (hl : ts.length ≤ 401) {S : rn_N} {x o : Nat} {s : wt_q} {sq : List Nat} (h : ap_fin ts n = (S, [], some x, o, s, sq, true)) (hs : s.2 = none) : fQ (rn_d S) x = sq ∧ ∀ z, z < rn_n S → fw_s S z = true → nq_l (rn_d S z) ∈ sq := by
  have g := fl_ap hv hl 3000 rn_0 [] none 0 (0, none) [] false (n := n) ap_I_0 rfl ⟨rfl, fun z hz => absurd hz (Nat.not_lt_zero _)⟩
  have h : ap_run ts n 3000 (rn_0, [], none, 0, (0, none), [], false) = (S, [], some x, o, s, sq, true) := h
  rw [h] at g
  exact g hs
/-- parts that hold a sequence, counted, and the list of sequences -/
theorem fq_part {P : pd_P} {S : rn_N} {Q : Nat → Prop} {pa pb : Nat → Nat} (h : tr_ok P (rn_d S) (rn_h S) (rn_t S) Q pa pb) (hq : rn_q S) (hn : ∀ y, Q y → y < rn_n S) : ∀ n, Q n → (fQ (rn_d S) n).length + fs P (pa n) = fs P (pb n) ∧ ∀ y, tq_Q (rn_d S) n y → tr_S (rn_k S y) → ∃ j, fs P (pa y) = fs P (pa n) + j ∧ (fQ (rn_d S) n)[j]? = some (nq_l (rn_d S y)) := by
  intro n
  induction n using Nat.strongRecOn with
  | ind n ih =>
    intro hQ
    obtain ⟨te, hl, hr, hab, hbm⟩ := h n hQ
    have fs1 : ∀ i, fs P (i + 1) = fs P i + (if pd_k P i = 1 ∨ pd_k P i = 2 ∨ pd_k P i = 3 ∨ pd_k P i = 6 then 1 else 0) := fun i => rfl
    have e := fQ_eq (fq_w_q hq) (hn n hQ)
    have sub : ∀ y, tq_Q (rn_d S) n y → y = n ∨ (tr_L (nq_k (rn_d S n)) ∧ tq_Q (rn_d S) (nq_l (rn_d S n)) y) ∨ (tr_R (nq_k (rn_d S n)) ∧ tq_Q (rn_d S) (nq_r (rn_d S n)) y) := fun y ⟨d, hd⟩ => tq_c d y hd
    have il : tr_L (nq_k (rn_d S n)) → _ := fun k => ih _ (hl k).1 (hl k).2
    have ir : tr_R (nq_k (rn_d S n)) → _ := fun k => ih _ (hr k).1 (hr k).2
    have tS : tr_S (rn_k S n) ↔ nq_k (rn_d S n) = 61 ∨ nq_k (rn_d S n) = 32 ∨ nq_k (rn_d S n) = 33 ∨ nq_k (rn_d S n) = 11 := Iff.rfl
    have tL : tr_L (nq_k (rn_d S n)) ↔ nq_k (rn_d S n) = 10 ∨ nq_k (rn_d S n) = 12 ∨ nq_k (rn_d S n) = 13 ∨ nq_k (rn_d S n) = 15 := Iff.rfl
    have tR : tr_R (nq_k (rn_d S n)) ↔ (31 ≤ nq_k (rn_d S n) ∧ nq_k (rn_d S n) ≤ 33) ∨ nq_k (rn_d S n) = 15 := Iff.rfl
    -- a leaf without a sequence
    have leaf0 : ¬ tr_S (rn_k S n) → ¬ tr_L (nq_k (rn_d S n)) → ¬ tr_R (nq_k (rn_d S n)) → fs P (pb n) = fs P (pa n) → (fQ (rn_d S) n).length + fs P (pa n) = fs P (pb n) ∧ ∀ y, tq_Q (rn_d S) n y → tr_S (rn_k S y) → ∃ j, fs P (pa y) = fs P (pa n) + j ∧ (fQ (rn_d S) n)[j]? = some (nq_l (rn_d S y)) := fun k1 k2 k3 k4 => by
      rw [if_neg (fun w => k1 (tS.mpr w)), if_neg (fun w => k2 (tL.mpr w)), if_neg (fun w => k3 (tR.mpr w))] at e
      rw [e]
      refine ⟨by rw [k4]; exact Nat.zero_add _, fun y hy ht => ?_⟩
      rcases sub y hy with rfl | ⟨w, _⟩ | ⟨w, _⟩
      · exact (k1 ht).elim
      · exact (k2 w).elim
      · exact (k3 w).elim
    have leaf1 : tr_S (rn_k S n) → ¬ tr_L (nq_k (rn_d S n)) → ¬ tr_R (nq_k (rn_d S n)) → fs P (pb n) = fs P (pa n) + 1 → (fQ (rn_d S) n).length + fs P (pa n) = fs P (pb n) ∧ ∀ y, tq_Q (rn_d S) n y → tr_S (rn_k S y) → ∃ j, fs P (pa y) = fs P (pa n) + j ∧ (fQ (rn_d S) n)[j]? = some (nq_l (rn_d S y)) := fun k1 k2 k3 k4 => by
      rw [if_pos (tS.mp k1), if_neg (fun w => k2 (tL.mpr w)), if_neg (fun w => k3 (tR.mpr w))] at e
      rw [e]
      refine ⟨by rw [k4]; exact Nat.add_comm _ _, fun y hy ht => ?_⟩
      rcases sub y hy with rfl | ⟨w, _⟩ | ⟨w, _⟩
      · exact ⟨0, rfl, rfl⟩
      · exact (k2 w).elim
      · exact (k3 w).elim
    have one : ∀ c, (c = nq_l (rn_d S n) ∧ tr_L (nq_k (rn_d S n)) ∧ ¬ tr_R (nq_k (rn_d S n)) ∨ c = nq_r (rn_d S n) ∧ ¬ tr_L (nq_k (rn_d S n)) ∧ tr_R (nq_k (rn_d S n))) → ¬ tr_S (rn_k S n) → fs P (pa c) = fs P (pa n) → pb n = pb c → (fQ (rn_d S) n).length + fs P (pa n) = fs P (pb n) ∧ ∀ y, tq_Q (rn_d S) n y → tr_S (rn_k S y) → ∃ j, fs P (pa y) = fs P (pa n) + j ∧ (fQ (rn_d S) n)[j]? = some (nq_l (rn_d S y)) := fun c kc k1 k4 k5 => by
      have ec : fQ (rn_d S) n = fQ (rn_d S) c := by
        rcases kc with ⟨rfl, w1, w2⟩ | ⟨rfl, w1, w2⟩
        · rw [e, if_neg (fun w => k1 (tS.mpr w)), if_pos (tL.mp w1), if_neg (fun w => w2 (tR.mpr w)), List.append_nil]
          rfl
        · rw [e, if_neg (fun w => k1 (tS.mpr w)), if_neg (fun w => w1 (tL.mpr w)), if_pos (tR.mp w2)]
          rfl
      have ii : (fQ (rn_d S) c).length + fs P (pa c) = fs P (pb c) ∧ ∀ y, tq_Q (rn_d S) c y → tr_S (rn_k S y) → ∃ j, fs P (pa y) = fs P (pa c) + j ∧ (fQ (rn_d S) c)[j]? = some (nq_l (rn_d S y)) := by
        rcases kc with ⟨rfl, w1, w2⟩ | ⟨rfl, w1, w2⟩
        · exact il w1
        · exact ir w2
      rw [ec, k5, ← k4]
      refine ⟨ii.1, fun y hy ht => ?_⟩
      rcases sub y hy with rfl | ⟨w, q⟩ | ⟨w, q⟩
      · exact (k1 ht).elim
      · rcases kc with ⟨rfl, w1, w2⟩ | ⟨rfl, w1, w2⟩
        · exact ii.2 y q ht
        · exact (w1 w).elim
      · rcases kc with ⟨rfl, w1, w2⟩ | ⟨rfl, w1, w2⟩
        · exact (w2 w).elim
        · exact ii.2 y q ht
    have nS : ∀ k, nq_k (rn_d S n) = k → ¬ (k = 61 ∨ k = 32 ∨ k = 33 ∨ k = 11) → ¬ tr_S (rn_k S n) := fun k ek nk w => by
      have := tS.mp w
      omega
    have two : (nq_k (rn_d S n) = 32 ∨ nq_k (rn_d S n) = 33) → fs P (pa (nq_r (rn_d S n))) = fs P (pa n) + 1 → pb n = pb (nq_r (rn_d S n)) → (fQ (rn_d S) n).length + fs P (pa n) = fs P (pb n) ∧ ∀ y, tq_Q (rn_d S) n y → tr_S (rn_k S y) → ∃ j, fs P (pa y) = fs P (pa n) + j ∧ (fQ (rn_d S) n)[j]? = some (nq_l (rn_d S y)) := fun k k4 k5 => by
      have kL : ¬ tr_L (nq_k (rn_d S n)) := fun w => by have := tL.mp w; omega
      have kR : tr_R (nq_k (rn_d S n)) := tR.mpr (by omega)
      rw [if_pos (by omega), if_neg (fun w => kL (tL.mpr w)), if_pos (tR.mp kR)] at e
      obtain ⟨ii1, ii2⟩ := ir kR
      have e : fQ (rn_d S) n = nq_l (rn_d S n) :: fQ (rn_d S) (nq_r (rn_d S n)) := e
      rw [e, k5]
      refine ⟨by rw [List.length_cons]; omega, fun y hy ht => ?_⟩
      rcases sub y hy with rfl | ⟨w, q⟩ | ⟨w, q⟩
      · exact ⟨0, rfl, rfl⟩
      · exact (kL w).elim
      · obtain ⟨j, j1, j2⟩ := ii2 y q ht
        exact ⟨j + 1, by omega, by rw [List.getElem?_cons_succ]; exact j2⟩
    rcases te with ⟨k1, k2, _, k3⟩ | ⟨k1, k2, _, k3⟩ | ⟨k1, k2, k3, k4, k5⟩ | ⟨k1, k2, k3, k4, k5⟩ | ⟨k1, k2, k3, k4, k5⟩ | ⟨k1, k2, k4, k5⟩ | ⟨k1, k2, _, k3⟩ | ⟨k1, k2, k3, k4, k5⟩ | ⟨k1, k2, k3, k4, k5⟩ | ⟨k1, k2, _, _, k3⟩ | ⟨k1, k2, k3, k4, k5, k6⟩
    · exact leaf0 (nS _ k1 (by omega)) (fun w => by have := tL.mp w; omega) (fun w => by have := tR.mp w; omega) (by rw [k3, fs1, if_neg (by omega)]; rfl)
    · exact leaf1 (tS.mpr (by omega)) (fun w => by have := tL.mp w; omega) (fun w => by have := tR.mp w; omega) (by rw [k3, fs1, if_pos (by omega)])
    · exact two (Or.inl k1) (by rw [k4, fs1, if_pos (by omega)]) k5
    · exact two (Or.inr k1) (by rw [k4, fs1, if_pos (by omega)]) k5
    · exact one _ (Or.inr ⟨rfl, fun w => by have := tL.mp w; omega, tR.mpr (by omega)⟩) (nS _ k1 (by omega)) (by rw [k4, fs1, if_neg (by omega)]; rfl) k5
    · exact one _ (Or.inl ⟨rfl, tL.mpr (by omega), fun w => by have := tR.mp w; omega⟩) (nS _ k1 (by omega)) (by rw [k4, fs1, if_neg (by omega)]; rfl) k5
    · exact leaf1 (tS.mpr (by omega)) (fun w => by have := tL.mp w; omega) (fun w => by have := tR.mp w; omega) (by rw [k3, fs1, if_pos (by omega)])
    · exact one _ (Or.inl ⟨rfl, tL.mpr (by omega), fun w => by have := tR.mp w; omega⟩) (nS _ k1 (by omega)) (by rw [k4, fs1, if_neg (by omega)]; rfl) k5
    · exact one _ (Or.inl ⟨rfl, tL.mpr (by omega), fun w => by have := tR.mp w; omega⟩) (nS _ k1 (by omega)) (by rw [k4, fs1, if_neg (by omega)]; rfl) k5
    · exact leaf0 (nS _ k1 (by omega)) (fun w => by have := tL.mp w; omega) (fun w => by have := tR.mp w; omega) (by rw [k3, fs1, if_neg (by omega)]; rfl)
    · have kS : ¬ tr_S (rn_k S n) := nS _ k1 (by omega)
      have kL : tr_L (nq_k (rn_d S n)) := tL.mpr (by omega)
      have kR : tr_R (nq_k (rn_d S n)) := tR.mpr (by omega)
      rw [if_neg (fun w => kS (tS.mpr w)), if_pos (tL.mp kL), if_pos (tR.mp kR)] at e
      have e : fQ (rn_d S) n = fQ (rn_d S) (nq_l (rn_d S n)) ++ fQ (rn_d S) (nq_r (rn_d S n)) := e
      obtain ⟨a1, a2⟩ := il kL
      obtain ⟨b1, b2⟩ := ir kR
      have f1 : fs P (pa (nq_l (rn_d S n))) = fs P (pa n) := by rw [k3, fs1, if_neg (by omega)]; rfl
      have f2 : fs P (pa (nq_r (rn_d S n))) = fs P (pb (nq_l (rn_d S n))) := by rw [k4]
      rw [e, k6]
      refine ⟨by rw [List.length_append]; omega, fun y hy ht => ?_⟩
      rcases sub y hy with rfl | ⟨w, q⟩ | ⟨w, q⟩
      · exact (kS ht).elim
      · obtain ⟨j, j1, j2⟩ := a2 y q ht
        exact ⟨j, by omega, by rw [List.getElem?_append_left (List.getElem?_eq_some_iff.mp j2).1]; exact j2⟩
      · obtain ⟨j, j1, j2⟩ := b2 y q ht
        refine ⟨(fQ (rn_d S) (nq_l (rn_d S n))).length + j, by omega, ?_⟩
        rw [List.getElem?_append_right (by omega), Nat.add_sub_cancel_left]
        exact j2
