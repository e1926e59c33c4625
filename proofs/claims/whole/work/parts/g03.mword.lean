/-! ===== the reference: words of a property text ===== -/
/-- what the reference makes of a word -/
def wp_pc (t : Nat → Int32) (p z : Nat) : Int32 := if z = 1 then (if (Int8.ofInt 102).toInt32 < t p then (Int8.ofInt 51).toInt32 else t p - (Int8.ofInt 97).toInt32) else if (decide (z = 6) && wt_rd t p [97, 108, 119, 97, 121, 115]) = true then (Int8.ofInt 10).toInt32 else if (decide (z = 6) && wt_rd t p [98, 101, 102, 111, 114, 101]) = true then (Int8.ofInt 14).toInt32 else if (decide (z = 5) && wt_rd t p [110, 101, 118, 101, 114]) = true then (Int8.ofInt 11).toInt32 else if (decide (z = 5) && wt_rd t p [117, 110, 116, 105, 108]) = true then (Int8.ofInt 13).toInt32 else if (decide (z = 4) && wt_rd t p [110, 101, 120, 116]) = true then (Int8.ofInt 12).toInt32 else if (decide (z = 3) && wt_rd t p [97, 110, 100]) = true then (Int8.ofInt 15).toInt32 else (Int8.ofInt 51).toInt32
theorem wp_isw_always {t : Nat → Int32} {p z : Nat} : wp_isw t p z 6 ((Int8.ofInt 97).toInt32) ((Int8.ofInt 108).toInt32) ((Int8.ofInt 119).toInt32) ((Int8.ofInt 97).toInt32) ((Int8.ofInt 121).toInt32) ((Int8.ofInt 115).toInt32) = (decide (z = 6) && wt_rd t p [97, 108, 119, 97, 121, 115]) := by
  unfold wp_isw
  rw [Bool.eq_iff_iff]
  simp only [wt_rd, Bool.and_eq_true, decide_eq_true_eq, Bool.and_true]
  constructor
  · rintro ⟨⟨h0, h1, h2, h3⟩, h4, h5, h6⟩
    refine ⟨h0, h1, h2, h3, ?_, ?_, ?_⟩
    · exact h4.elim (fun z => by omega) id
    · exact h5.elim (fun z => by omega) id
    · exact h6.elim (fun z => by omega) id
  · rintro ⟨h0, h1, h2, h3, h4, h5, h6⟩
    exact ⟨⟨h0, h1, h2, h3⟩, Or.inr h4, Or.inr h5, Or.inr h6⟩
theorem wp_isw_before {t : Nat → Int32} {p z : Nat} : wp_isw t p z 6 ((Int8.ofInt 98).toInt32) ((Int8.ofInt 101).toInt32) ((Int8.ofInt 102).toInt32) ((Int8.ofInt 111).toInt32) ((Int8.ofInt 114).toInt32) ((Int8.ofInt 101).toInt32) = (decide (z = 6) && wt_rd t p [98, 101, 102, 111, 114, 101]) := by
  unfold wp_isw
  rw [Bool.eq_iff_iff]
  simp only [wt_rd, Bool.and_eq_true, decide_eq_true_eq, Bool.and_true]
  constructor
  · rintro ⟨⟨h0, h1, h2, h3⟩, h4, h5, h6⟩
    refine ⟨h0, h1, h2, h3, ?_, ?_, ?_⟩
    · exact h4.elim (fun z => by omega) id
    · exact h5.elim (fun z => by omega) id
    · exact h6.elim (fun z => by omega) id
  · rintro ⟨h0, h1, h2, h3, h4, h5, h6⟩
    exact ⟨⟨h0, h1, h2, h3⟩, Or.inr h4, Or.inr h5, Or.inr h6⟩
theorem wp_isw_never {t : Nat → Int32} {p z : Nat} : wp_isw t p z 5 ((Int8.ofInt 110).toInt32) ((Int8.ofInt 101).toInt32) ((Int8.ofInt 118).toInt32) ((Int8.ofInt 101).toInt32) ((Int8.ofInt 114).toInt32) (Int32.ofInt 0) = (decide (z = 5) && wt_rd t p [110, 101, 118, 101, 114]) := by
  unfold wp_isw
  rw [Bool.eq_iff_iff]
  simp only [wt_rd, Bool.and_eq_true, decide_eq_true_eq, Bool.and_true]
  constructor
  · rintro ⟨⟨h0, h1, h2, h3⟩, h4, h5, h6⟩
    refine ⟨h0, h1, h2, h3, ?_, ?_⟩
    · exact h4.elim (fun z => by omega) id
    · exact h5.elim (fun z => by omega) id
  · rintro ⟨h0, h1, h2, h3, h4, h5⟩
    exact ⟨⟨h0, h1, h2, h3⟩, Or.inr h4, Or.inr h5, Or.inl (by decide)⟩
theorem wp_isw_until {t : Nat → Int32} {p z : Nat} : wp_isw t p z 5 ((Int8.ofInt 117).toInt32) ((Int8.ofInt 110).toInt32) ((Int8.ofInt 116).toInt32) ((Int8.ofInt 105).toInt32) ((Int8.ofInt 108).toInt32) (Int32.ofInt 0) = (decide (z = 5) && wt_rd t p [117, 110, 116, 105, 108]) := by
  unfold wp_isw
  rw [Bool.eq_iff_iff]
  simp only [wt_rd, Bool.and_eq_true, decide_eq_true_eq, Bool.and_true]
  constructor
  · rintro ⟨⟨h0, h1, h2, h3⟩, h4, h5, h6⟩
    refine ⟨h0, h1, h2, h3, ?_, ?_⟩
    · exact h4.elim (fun z => by omega) id
    · exact h5.elim (fun z => by omega) id
  · rintro ⟨h0, h1, h2, h3, h4, h5⟩
    exact ⟨⟨h0, h1, h2, h3⟩, Or.inr h4, Or.inr h5, Or.inl (by decide)⟩
theorem wp_isw_next {t : Nat → Int32} {p z : Nat} : wp_isw t p z 4 ((Int8.ofInt 110).toInt32) ((Int8.ofInt 101).toInt32) ((Int8.ofInt 120).toInt32) ((Int8.ofInt 116).toInt32) (Int32.ofInt 0) (Int32.ofInt 0) = (decide (z = 4) && wt_rd t p [110, 101, 120, 116]) := by
  unfold wp_isw
  rw [Bool.eq_iff_iff]
  simp only [wt_rd, Bool.and_eq_true, decide_eq_true_eq, Bool.and_true]
  constructor
  · rintro ⟨⟨h0, h1, h2, h3⟩, h4, h5, h6⟩
    refine ⟨h0, h1, h2, h3, ?_⟩
    · exact h4.elim (fun z => by omega) id
  · rintro ⟨h0, h1, h2, h3, h4⟩
    exact ⟨⟨h0, h1, h2, h3⟩, Or.inr h4, Or.inl (by decide), Or.inl (by decide)⟩
theorem wp_isw_and {t : Nat → Int32} {p z : Nat} : wp_isw t p z 3 ((Int8.ofInt 97).toInt32) ((Int8.ofInt 110).toInt32) ((Int8.ofInt 100).toInt32) (Int32.ofInt 0) (Int32.ofInt 0) (Int32.ofInt 0) = (decide (z = 3) && wt_rd t p [97, 110, 100]) := by
  unfold wp_isw
  rw [Bool.eq_iff_iff]
  simp only [wt_rd, Bool.and_eq_true, decide_eq_true_eq, Bool.and_true]
  constructor
  · rintro ⟨⟨h0, h1, h2, h3⟩, h4, h5, h6⟩
    refine ⟨h0, h1, h2, h3⟩
  · rintro ⟨h0, h1, h2, h3⟩
    exact ⟨⟨h0, h1, h2, h3⟩, Or.inl (by decide), Or.inl (by decide), Or.inl (by decide)⟩
def wp_h354 (p : Nat) (T : wv_T) (N : Nat) (I : Nat → Nat → Int32) (L : Nat → Nat → Int64) (R : Nat → Nat → Option Nat) : Nat → Option (Nat → wv_P) := fun pc =>
  if pc = 0 then some (fun m lv st T1 N1 I1 L1 R1 nc ns => ∃ k : Nat, lv = [some (.ref 460), none] ∧ st = [] ∧ T1 = T ∧ N1 = N ∧ L1 = L ∧ R1 = R ∧ nc = 0 ∧ ns = 0 ∧ m = 2000 - k ∧ p + k ≤ 400 ∧ I1 460 5 = Int32.ofNat (p + k) ∧ (∀ c j, ¬ (c = 460 ∧ j = 5) → I1 c j = I c j) ∧ ∀ j, j < k → wt_sml (wt_m I) (p + j) = true)
  else if pc = 24 then some (fun m lv st T1 N1 I1 L1 R1 nc ns => ∃ k : Nat, lv = [some (.ref 460), none] ∧ st = [] ∧ T1 = T ∧ N1 = N ∧ L1 = L ∧ R1 = R ∧ nc = 0 ∧ ns = 0 ∧ m = 1 ∧ p + k ≤ 400 ∧ I1 460 5 = Int32.ofNat (p + k) ∧ (∀ c j, ¬ (c = 460 ∧ j = 5) → I1 c j = I c j) ∧ (∀ j, j < k → wt_sml (wt_m I) (p + j) = true) ∧ wt_sml (wt_m I) (p + k) = false)
  else none
def wp_c354 : wv_c1 := fun as T N I L R q => ∃ p : Nat, as = [.ref 460] ∧ wt_mok T I ∧ p < 400 ∧ I 460 4 = Int32.ofNat p ∧ I 460 5 = Int32.ofNat (p + 1) ∧ wt_sml (wt_m I) p = true ∧ ∀ I1, I1 460 5 = Int32.ofNat (p + wt_wl (wt_m I) p 400) → (∀ c j, ¬ (c = 460 ∧ j = 5) → I1 c j = I c j) → q (.inl (some (.int (wp_pc (wt_m I) p (wt_wl (wt_m I) p 400))))) T N I1 L R 0 0
set_option maxRecDepth 100000 in
theorem wM_354 : ∃ cb ci np, pt_mt 354 = some (32, cb, 1, false, some .int, ci, np) := ⟨_, _, _, rfl⟩
set_option maxRecDepth 100000 in
set_option maxHeartbeats 4000000 in
theorem wp_wordToken {sc : pt_Sc} {d : Nat} : wv_C wm_fx sc (d + 1 + 1 + 1) 354 wp_c354 := by
  rintro as T N I L R q ⟨p, rfl, hk, hp, i4, i5, hs, h⟩ w0 HR
  obtain ⟨cb, ci, np, hm⟩ := wM_354
  have hc349 : wv_C wm_fx sc (d + 1 + 1) 349 wp_c349 := wv_C_deep (by omega) (wp_at (d := d))
  have hc353 : wv_C wm_fx sc (d + 1 + 1) 353 wp_c353 := wv_C_deep (by omega) (wp_isSmall (d := d))
  have hc355 : wv_C wm_fx sc (d + 1 + 1) 355 wp_c355 := wv_C_deep (by omega) (wp_isWord (d := d))
  refine wv_meth (hh := none) rfl (sp := wv_sp [(349, wp_c349), (353, wp_c353), (355, wp_c355)]) (hd := wp_h354 p T N I L R) (n := 300) (n1 := 300) hm zc_354 rfl (wv_sp_ok (fun q hq => by
    rcases List.mem_cons.mp hq with h | h
    · rw [h]; exact hc349
    rcases List.mem_cons.mp h with h | h
    · rw [h]; exact hc353
    rw [List.mem_singleton.mp h]; exact hc355)) ?_ ?_ HR
  · exact ⟨2000 - 1, 1, rfl, rfl, rfl, rfl, rfl, rfl, rfl, rfl, rfl, by omega, i5, fun _ _ _ => rfl, fun j hj => by rw [show j = 0 by omega]; exact hs⟩
  · intro pc P hP m lv st T1 N1 I1 L1 R1 nc ns hh
    unfold wp_h354 at hP
    split at hP
    · cases hP
      rename_i hpc
      subst hpc
      obtain ⟨k, rfl, rfl, rfl, rfl, rfl, rfl, rfl, rfl, hm, hpk, j5, hfr, hsm⟩ := hh
      have hmm : wt_m I1 = wt_m I := by
        funext j
        unfold wt_m
        rw [hfr _ _ (by omega), hfr _ _ (by omega)]
      have hk1 : wt_mok T1 I1 := by
        have := hk
        unfold wt_mok at this ⊢
        rw [hfr _ _ (by omega)]
        exact this
      refine ⟨p + k, congrArg (fun x => [Value.ref 460, Value.int x]) j5, by omega, hk1, ?_⟩
      rw [hmm]
      refine ⟨fun y => ?_, fun y => ?_⟩
      · exact ⟨1, by omega, k, rfl, rfl, rfl, rfl, rfl, rfl, rfl, rfl, rfl, hpk, j5, hfr, hsm, wp_b0 y⟩
      · have hs2 := wp_b1 y
        have hlt : p + k < 400 := wt_m_lt hk (by
          intro z
          unfold wt_sml at hs2
          rw [z] at hs2
          exact absurd hs2 (by decide))
        refine ⟨2000 - (k + 1), by omega, k + 1, rfl, rfl, rfl, rfl, rfl, rfl, rfl, rfl, rfl, by omega, ?_, ?_, ?_⟩
        · rw [wv_u_at, j5]; exact wq_4s (p + k)
        · intro c j hc
          rw [wv_u_no _ _ hc]
          exact hfr c j hc
        · intro j hj
          by_cases e : j = k
          · rw [e]; exact hs2
          · exact hsm j (by omega)
    · split at hP
      · cases hP
        rename_i hpc0 hpc
        subst hpc
        obtain ⟨k, rfl, rfl, rfl, rfl, rfl, rfl, rfl, rfl, hm, hpk, j5, hfr, hsm, hend⟩ := hh
        have hmm : wt_m I1 = wt_m I := by
          funext j
          unfold wt_m
          rw [hfr _ _ (by omega), hfr _ _ (by omega)]
        have hk1 : wt_mok T1 I1 := by
          have := hk
          unfold wt_mok at this ⊢
          rw [hfr _ _ (by omega)]
          exact this
        have j4 : I1 460 4 = Int32.ofNat p := by rw [hfr _ _ (by omega)]; exact i4
        have hwl : wt_wl (wt_m I) p 400 = k := wt_wl_k 400 p k hsm hend (by omega)
        rw [hwl] at h
        obtain ⟨t, ht⟩ : ∃ t, t = wt_m I := ⟨_, rfl⟩
        rw [← ht] at h hmm
        have ek : (I1 460 5 - I1 460 4).toInt = k := by
          rw [j4, j5, wi_sub, wi_on (by omega), wi_on (by omega), wr_id (by omega) (by omega)]
          omega
        have hq : q (.inl (some (.int (wp_pc t p k)))) T1 N1 I1 L1 R1 0 0 := h I1 j5 hfr
        clear h
        unfold wp_pc at hq
        refine ⟨fun y => ?_, fun y => ?_⟩
        rotate_left
        · have y := Decidable.not_not.mp y
          have hk1' : k = 1 := by
            have := congrArg Int32.toInt y
            rw [ek, show (Int32.ofInt 1).toInt = 1 from rfl] at this
            omega
          rw [if_pos hk1'] at hq
          refine ⟨p, congrArg (fun x => [Value.ref 460, Value.int x]) j4, by omega, hk1, ?_⟩
          rw [hmm]
          refine ⟨fun x => ?_, fun x => ?_⟩
          · rw [if_pos x] at hq
            exact hq
          · rw [if_neg x] at hq
            refine ⟨p, congrArg (fun x => [Value.ref 460, Value.int x]) j4, by omega, hk1, ?_⟩
            rw [hmm]
            exact hq
        have hk1' : ¬ k = 1 := fun e => y (by
          apply wi_eq.mpr
          rw [ek, e]
          rfl)
        rw [if_neg hk1'] at hq
        refine ⟨p, k, _, _, _, _, _, _, rfl, hk1, j4, j5, by omega, ?_⟩
        rw [hmm]
        refine ⟨fun v0 => ?_, fun v0 => ?_⟩
        rotate_left
        · rw [if_pos (show (decide (k = 6) && wt_rd t p [97, 108, 119, 97, 121, 115]) = true from by rw [← wp_isw_always]; exact wp_b1 v0)] at hq
          exact hq
        rw [if_neg (by rw [show (decide (k = 6) && wt_rd t p [97, 108, 119, 97, 121, 115]) = false from by rw [← wp_isw_always]; exact wp_b0 v0]; decide)] at hq
        refine ⟨p, k, _, _, _, _, _, _, rfl, hk1, j4, j5, by omega, ?_⟩
        rw [hmm]
        refine ⟨fun v1 => ?_, fun v1 => ?_⟩
        rotate_left
        · rw [if_pos (show (decide (k = 6) && wt_rd t p [98, 101, 102, 111, 114, 101]) = true from by rw [← wp_isw_before]; exact wp_b1 v1)] at hq
          exact hq
        rw [if_neg (by rw [show (decide (k = 6) && wt_rd t p [98, 101, 102, 111, 114, 101]) = false from by rw [← wp_isw_before]; exact wp_b0 v1]; decide)] at hq
        refine ⟨p, k, _, _, _, _, _, _, rfl, hk1, j4, j5, by omega, ?_⟩
        rw [hmm]
        refine ⟨fun v2 => ?_, fun v2 => ?_⟩
        rotate_left
        · rw [if_pos (show (decide (k = 5) && wt_rd t p [110, 101, 118, 101, 114]) = true from by rw [← wp_isw_never]; exact wp_b1 v2)] at hq
          exact hq
        rw [if_neg (by rw [show (decide (k = 5) && wt_rd t p [110, 101, 118, 101, 114]) = false from by rw [← wp_isw_never]; exact wp_b0 v2]; decide)] at hq
        refine ⟨p, k, _, _, _, _, _, _, rfl, hk1, j4, j5, by omega, ?_⟩
        rw [hmm]
        refine ⟨fun v3 => ?_, fun v3 => ?_⟩
        rotate_left
        · rw [if_pos (show (decide (k = 5) && wt_rd t p [117, 110, 116, 105, 108]) = true from by rw [← wp_isw_until]; exact wp_b1 v3)] at hq
          exact hq
        rw [if_neg (by rw [show (decide (k = 5) && wt_rd t p [117, 110, 116, 105, 108]) = false from by rw [← wp_isw_until]; exact wp_b0 v3]; decide)] at hq
        refine ⟨p, k, _, _, _, _, _, _, rfl, hk1, j4, j5, by omega, ?_⟩
        rw [hmm]
        refine ⟨fun v4 => ?_, fun v4 => ?_⟩
        rotate_left
        · rw [if_pos (show (decide (k = 4) && wt_rd t p [110, 101, 120, 116]) = true from by rw [← wp_isw_next]; exact wp_b1 v4)] at hq
          exact hq
        rw [if_neg (by rw [show (decide (k = 4) && wt_rd t p [110, 101, 120, 116]) = false from by rw [← wp_isw_next]; exact wp_b0 v4]; decide)] at hq
        refine ⟨p, k, _, _, _, _, _, _, rfl, hk1, j4, j5, by omega, ?_⟩
        rw [hmm]
        refine ⟨fun v5 => ?_, fun v5 => ?_⟩
        rotate_left
        · rw [if_pos (show (decide (k = 3) && wt_rd t p [97, 110, 100]) = true from by rw [← wp_isw_and]; exact wp_b1 v5)] at hq
          exact hq
        rw [if_neg (by rw [show (decide (k = 3) && wt_rd t p [97, 110, 100]) = false from by rw [← wp_isw_and]; exact wp_b0 v5]; decide)] at hq
        exact hq
      · cases hP
