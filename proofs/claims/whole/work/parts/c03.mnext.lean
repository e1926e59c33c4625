/-! ===== the reference: the next token of a design text ===== -/
def wp_c467 : wv_c1 := fun as T N I L R q => ∃ p : Nat, as = [.ref 460] ∧ wt_mok T I ∧ p < 400 ∧ I 460 4 = Int32.ofNat p ∧ I 460 5 = Int32.ofNat (p + 1) ∧ wt_sml (wt_m I) p = true ∧ ∀ I1, I1 460 5 = Int32.ofNat (p + wt_wl (wt_m I) p 400) → (∀ c j, ¬ (c = 460 ∧ j = 5) → I1 c j = I c j) → q (.inl (some (.int (wp_dc (wt_m I) p (wt_wl (wt_m I) p 400))))) T N I1 L R 0 0
set_option maxRecDepth 100000 in
theorem wM_467 : ∃ cb ci np, pt_mt 467 = some (32, cb, 1, false, some .int, ci, np) := ⟨_, _, _, rfl⟩
set_option maxRecDepth 100000 in
set_option maxHeartbeats 2000000 in
theorem wp_nameToken {sc : pt_Sc} {d : Nat} : wv_C wm_fx sc (d + 1 + 1 + 1) 467 wp_c467 := by
  rintro as T N I L R q ⟨p, rfl, hk, hp, i4, i5, hs, h⟩ w0 HR
  obtain ⟨cb, ci, np, hm⟩ := wM_467
  have hc353 : wv_C wm_fx sc (d + 1 + 1) 353 wp_c353 := wv_C_deep (by omega) (wp_isSmall (d := d))
  have hc355 : wv_C wm_fx sc (d + 1 + 1) 355 wp_c355 := wv_C_deep (by omega) (wp_isWord (d := d))
  refine wv_meth (hh := none) rfl (sp := wv_sp [(353, wp_c353), (355, wp_c355)]) (hd := wp_h467 p T N I L R) (n := 300) (n1 := 300) hm zc_467 rfl (wv_sp_ok (fun q hq => by
    rcases List.mem_cons.mp hq with h | h
    · rw [h]; exact hc353
    rw [List.mem_singleton.mp h]; exact hc355)) ?_ ?_ HR
  · exact ⟨2000 - 1, 1, rfl, rfl, rfl, rfl, rfl, rfl, rfl, rfl, rfl, by omega, i5, fun _ _ _ => rfl, fun j hj => by rw [show j = 0 by omega]; exact hs⟩
  · intro pc P hP m lv st T1 N1 I1 L1 R1 nc ns hh
    unfold wp_h467 at hP
    split at hP
    · cases hP
      rename_i hpc
      subst hpc
      obtain ⟨k, rfl, rfl, rfl, rfl, rfl, rfl, rfl, rfl, hm, hpk, j5, hfr, hsm⟩ := hh
      have hmm : wt_m I1 = wt_m I := by
        funext j
        unfold wt_m
        rw [hfr _ _ (by omega), hfr _ _ (by omega)]
      have hk1 : wt_mok T1 I1 := by
        have := hk
        unfold wt_mok at this ⊢
        rw [hfr _ _ (by omega)]
        exact this
      refine ⟨p + k, congrArg (fun x => [Value.ref 460, Value.int x]) j5, by omega, hk1, ?_⟩
      rw [hmm]
      refine ⟨fun y => ?_, fun y => ?_⟩
      · exact ⟨1, by omega, k, rfl, rfl, rfl, rfl, rfl, rfl, rfl, rfl, rfl, hpk, j5, hfr, hsm, wp_b0 y⟩
      · have hs2 := wp_b1 y
        have hlt : p + k < 400 := wt_m_lt hk (by
          intro z
          unfold wt_sml at hs2
          rw [z] at hs2
          exact absurd hs2 (by decide))
        refine ⟨2000 - (k + 1), by omega, k + 1, rfl, rfl, rfl, rfl, rfl, rfl, rfl, rfl, rfl, by omega, ?_, ?_, ?_⟩
        · rw [wv_u_at, j5]; exact wq_4s (p + k)
        · intro c j hc
          rw [wv_u_no _ _ hc]
          exact hfr c j hc
        · intro j hj
          by_cases e : j = k
          · rw [e]; exact hs2
          · exact hsm j (by omega)
    · split at hP
      · cases hP
        rename_i hpc0 hpc
        subst hpc
        obtain ⟨k, rfl, rfl, rfl, rfl, rfl, rfl, rfl, rfl, hm, hpk, j5, hfr, hsm, hend⟩ := hh
        have hmm : wt_m I1 = wt_m I := by
          funext j
          unfold wt_m
          rw [hfr _ _ (by omega), hfr _ _ (by omega)]
        have hk1 : wt_mok T1 I1 := by
          have := hk
          unfold wt_mok at this ⊢
          rw [hfr _ _ (by omega)]
          exact this
        have j4 : I1 460 4 = Int32.ofNat p := by rw [hfr _ _ (by omega)]; exact i4
        have hwl : wt_wl (wt_m I) p 400 = k := wt_wl_k 400 p k hsm hend (by omega)
        rw [hwl] at h
        obtain ⟨t, ht⟩ : ∃ t, t = wt_m I := ⟨_, rfl⟩
        rw [← ht] at h hmm
        obtain ⟨w1, w2, w3, w4, w5⟩ := wp_isw_of (t := t) (p := p) (z := k)
        have ek : (I1 460 5 - I1 460 4).toInt = k := by
          rw [j4, j5, wi_sub, wi_on (by omega), wi_on (by omega), wr_id (by omega) (by omega)]
          omega
        have e8 : ((Int8.ofInt 8).toInt32).toInt = 8 := rfl
        have hq : q (.inl (some (.int (wp_dc t p k)))) T1 N1 I1 L1 R1 0 0 := h I1 j5 hfr
        clear h
        refine ⟨fun y => ?_, fun y => ?_⟩
        rotate_left
        · rw [wi_le, ek, e8] at y
          rw [show wp_dc t p k = (Int8.ofInt 51).toInt32 from if_pos (by omega)] at hq
          exact hq
        rw [wi_le, ek, e8] at y
        have hz8 : ¬ 8 < k := by omega
        refine ⟨p, k, _, _, _, _, _, _, rfl, hk1, j4, j5, by omega, ?_⟩
        rw [hmm]
        refine ⟨fun v0 => ?_, fun v0 => ?_⟩
        rotate_left
        · have hv : (decide (k = 5) && wt_rd t p [105, 110, 112, 117, 116]) = true := by rw [← w1]; exact wp_b1 v0
          have e : wp_dc t p k = (Int8.ofInt 71).toInt32 := by
            unfold wp_dc
            rw [if_neg hz8, if_pos hv]
          rw [e] at hq
          exact hq
        have f_input : (decide (k = 5) && wt_rd t p [105, 110, 112, 117, 116]) = false := by rw [← w1]; exact wp_b0 v0
        refine ⟨p, k, _, _, _, _, _, _, rfl, hk1, j4, j5, by omega, ?_⟩
        rw [hmm]
        refine ⟨fun v1 => ?_, fun v1 => ?_⟩
        rotate_left
        · have hv : (decide (k = 5) && wt_rd t p [108, 97, 116, 99, 104]) = true := by rw [← w2]; exact wp_b1 v1
          have e : wp_dc t p k = (Int8.ofInt 72).toInt32 := by
            unfold wp_dc
            rw [if_neg hz8, if_neg (by rw [f_input]; decide), if_pos hv]
          rw [e] at hq
          exact hq
        have f_latch : (decide (k = 5) && wt_rd t p [108, 97, 116, 99, 104]) = false := by rw [← w2]; exact wp_b0 v1
        refine ⟨p, k, _, _, _, _, _, _, rfl, hk1, j4, j5, by omega, ?_⟩
        rw [hmm]
        refine ⟨fun v2 => ?_, fun v2 => ?_⟩
        rotate_left
        · have hv : (decide (k = 6) && wt_rd t p [115, 105, 103, 110, 97, 108]) = true := by rw [← w5]; exact wp_b1 v2
          have e : wp_dc t p k = (Int8.ofInt 74).toInt32 := by
            unfold wp_dc
            rw [if_neg hz8, if_neg (by rw [f_input]; decide), if_neg (by rw [f_latch]; decide), if_neg (by rw [show (decide (k = 4) && wt_rd t p [119, 105, 114, 101]) = false from by rw [decide_eq_false (by have := (Bool.and_eq_true_iff.mp hv).1; have := of_decide_eq_true this; omega), Bool.false_and]]; decide), if_neg (by rw [show (decide (k = 4) && wt_rd t p [110, 101, 120, 116]) = false from by rw [decide_eq_false (by have := (Bool.and_eq_true_iff.mp hv).1; have := of_decide_eq_true this; omega), Bool.false_and]]; decide), if_pos hv]
          rw [e] at hq
          exact hq
        have f_signal : (decide (k = 6) && wt_rd t p [115, 105, 103, 110, 97, 108]) = false := by rw [← w5]; exact wp_b0 v2
        refine ⟨p, k, _, _, _, _, _, _, rfl, hk1, j4, j5, by omega, ?_⟩
        rw [hmm]
        refine ⟨fun v3 => ?_, fun v3 => ?_⟩
        rotate_left
        · have hv : (decide (k = 4) && wt_rd t p [119, 105, 114, 101]) = true := by rw [← w3]; exact wp_b1 v3
          have e : wp_dc t p k = (Int8.ofInt 73).toInt32 := by
            unfold wp_dc
            rw [if_neg hz8, if_neg (by rw [f_input]; decide), if_neg (by rw [f_latch]; decide), if_pos hv]
          rw [e] at hq
          exact hq
        have f_wire : (decide (k = 4) && wt_rd t p [119, 105, 114, 101]) = false := by rw [← w3]; exact wp_b0 v3
        refine ⟨p, k, _, _, _, _, _, _, rfl, hk1, j4, j5, by omega, ?_⟩
        rw [hmm]
        refine ⟨fun v4 => ?_, fun v4 => ?_⟩
        rotate_left
        · have hv : (decide (k = 4) && wt_rd t p [110, 101, 120, 116]) = true := by rw [← w4]; exact wp_b1 v4
          have e : wp_dc t p k = (Int8.ofInt 12).toInt32 := by
            unfold wp_dc
            rw [if_neg hz8, if_neg (by rw [f_input]; decide), if_neg (by rw [f_latch]; decide), if_neg (by rw [f_wire]; decide), if_pos hv]
          rw [e] at hq
          exact hq
        have f_next : (decide (k = 4) && wt_rd t p [110, 101, 120, 116]) = false := by rw [← w4]; exact wp_b0 v4
        have e : wp_dc t p k = (Int8.ofInt 70).toInt32 := by
          unfold wp_dc
          rw [if_neg hz8, if_neg (by rw [f_input]; decide), if_neg (by rw [f_latch]; decide), if_neg (by rw [f_wire]; decide), if_neg (by rw [f_next]; decide), if_neg (by rw [f_signal]; decide)]
        rw [e] at hq
        exact hq
      · cases hP
