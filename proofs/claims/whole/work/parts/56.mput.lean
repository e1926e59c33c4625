/-! ===== the reference: put, its loops ===== -/
/-- what put does -/
def wp_put (s : Int32) (T : wv_T) (N : Nat) (I : Nat → Nat → Int32) (L : Nat → Nat → Int64) (R : Nat → Nat → Option Nat) (q : wv_Q) : Prop :=
  if wb_any s 4 = true then q (.inl (some (.int 0))) T N (wv_u I 460 0 1) L R 0 0 else if 400 < (I 460 2).toInt + wb_cnt s 4 then q (.inl (some (.int 0))) T N (wv_u I 460 0 2) L R 0 0 else q (.inl (some (.int (wb_ap 460 2 461 s (wv_u I 460 0 0) 4 460 2)))) T N (wb_ap 460 2 461 s (wv_u I 460 0 0) 4) L R 0 0
def wp_c344 : wv_c1 := fun as T N I L R q => ∃ s : Int32, as = [.ref 460, .int s] ∧ wm_T T ∧ 0 ≤ (I 460 2).toInt ∧ (I 460 2).toInt ≤ 400 ∧ wp_put s T N I L R q
def wp_b (b : Bool) : Int32 := if b = true then 1 else 0
def wp_h344 (s : Int32) (T : wv_T) (N : Nat) (I : Nat → Nat → Int32) (L : Nat → Nat → Int64) (R : Nat → Nat → Option Nat) : Nat → Option (Nat → wv_P) := fun pc =>
  if pc = 7 then some (fun m lv st T1 N1 I1 L1 R1 nc ns => ∃ (j : Nat) (x5 : Option Value), lv = [some (.ref 460), some (.int s), some (.int (Int32.ofNat (wb_cnt s j))), some (.int (wp_b (wb_any s j))), some (.int (Int32.ofNat (8 * j))), x5, none, none] ∧ st = [] ∧ T1 = T ∧ N1 = N ∧ I1 = I ∧ L1 = L ∧ R1 = R ∧ nc = 0 ∧ ns = 0 ∧ j ≤ 4 ∧ m = 20 - j)
  else if pc = 102 then some (fun m lv st T1 N1 I1 L1 R1 nc ns => ∃ (j : Nat) (x2 x3 : Int32) (x5 : Option Value), lv = [some (.ref 460), some (.int s), some (.int x2), some (.int x3), some (.int (Int32.ofNat (8 * j))), x5, none, none] ∧ st = [] ∧ T1 = T ∧ N1 = N ∧ I1 = wb_ap 460 2 461 s (wv_u I 460 0 0) j ∧ L1 = L ∧ R1 = R ∧ nc = 0 ∧ ns = 0 ∧ j ≤ 4 ∧ m = 10 - j ∧ wb_any s 4 = false ∧ (I 460 2).toInt + wb_cnt s 4 ≤ 400)
  else none
set_option maxRecDepth 100000 in
theorem wp_m344 : ∃ cb ci np, pt_mt 344 = some (32, cb, 6, false, some .int, ci, np) := ⟨_, _, _, rfl⟩
theorem wp_8 {j : Nat} (h : j ≤ 4) : (Int32.ofNat (8 * j)).toInt = 8 * j := by
  have e : ∀ j, j ≤ 4 → (Int32.ofNat (8 * j)).toInt = 8 * (j : Int) := by decide
  exact e j h
theorem wp_8s (j : Nat) : Int32.ofNat (8 * j) + Int32.ofInt 8 = Int32.ofNat (8 * (j + 1)) := by
  rw [Nat.mul_add, Int32.ofNat_add]
  rfl
theorem wb_cnt_mono (s : Int32) {i j : Nat} (h : i ≤ j) : wb_cnt s i ≤ wb_cnt s j := by
  induction h with
  | refl => exact Nat.le_refl _
  | step _ ih => exact Nat.le_trans ih (Nat.le_add_right _ _)
set_option maxRecDepth 100000 in
set_option maxHeartbeats 4000000 in
theorem wp_putC {sc : pt_Sc} {d : Nat} : wv_C wm_fx sc (d + 1 + 1) 344 wp_c344 := by
  rintro as T N I L R q ⟨s, rfl, hT, hs0, hs1, hq⟩ w HR
  obtain ⟨cb, ci, np, hm⟩ := wp_m344
  refine wv_meth (hh := none) rfl (sp := wv_sp [(345, wp_c345)]) (hd := wp_h344 s T N I L R) (n := 200) (n1 := 100) hm zc_344 rfl (wv_sp_ok (fun q hq => by rw [List.mem_singleton.mp hq]; exact wp_refuse)) ?_ ?_ HR
  · exact ⟨20, 0, none, rfl, rfl, rfl, rfl, rfl, rfl, rfl, rfl, rfl, by omega, rfl⟩
  · intro pc P hP m lv st T1 N1 I1 L1 R1 nc ns h
    unfold wp_h344 at hP
    split at hP
    · cases hP
      rename_i hpc
      subst hpc
      obtain ⟨j, x5, rfl, rfl, rfl, rfl, rfl, rfl, rfl, rfl, rfl, hj, hm⟩ := h
      have e8 := wp_8 hj
      refine ⟨?_, ?_⟩
      · intro hc
        have hj4 : j = 4 := by rw [wi_le, e8, wi_8] at hc; omega
        subst hj4
        have hcnt : (Int32.ofNat (wb_cnt s 4)).toInt = wb_cnt s 4 := by
          have := wb_cnt_le s 4
          exact (by decide : ∀ j, j ≤ 4 → (Int32.ofNat j).toInt = (j : Int)) _ this
        have hsum : (I1 460 2 + Int32.ofNat (wb_cnt s 4)).toInt = (I1 460 2).toInt + wb_cnt s 4 := by
          have := wb_cnt_le s 4
          rw [wi_add, hcnt, wr_id (by omega) (by omega)]
        unfold wp_put at hq
        have key : ∀ (b2 : Int32) (P0 P1 P2 : Prop), (b2 = 0 ↔ ¬ 400 < (I1 460 2).toInt + wb_cnt s 4) → (wb_any s 4 = true → P1) → (wb_any s 4 = false → ¬ 400 < (I1 460 2).toInt + wb_cnt s 4 → P0) → (wb_any s 4 = false → 400 < (I1 460 2).toInt + wb_cnt s 4 → P2) → (if wp_b (wb_any s 4) = 0 then (if b2 = 0 then P0 else P2) else P1) := by
          intro b2 P0 P1 P2 hb h1 h2 h3
          cases ha : wb_any s 4 with
          | true =>
            rw [if_neg (by decide)]
            exact h1 ha
          | false =>
            rw [if_pos (by decide)]
            by_cases hb0 : b2 = 0
            · rw [if_pos hb0]
              exact h2 ha (hb.mp hb0)
            · rw [if_neg hb0]
              refine h3 ha ?_
              by_cases h4 : 400 < (I1 460 2).toInt + wb_cnt s 4
              · exact h4
              · exact (hb0 (hb.mpr h4)).elim
        have g1 : wb_any s 4 = true → q (.inl (some (.int 0))) T1 N1 (wv_u I1 460 0 1) L1 R1 0 0 := by
          intro ha
          rw [if_pos ha] at hq
          exact hq
        have g2 : wb_any s 4 = false → 400 < (I1 460 2).toInt + wb_cnt s 4 → q (.inl (some (.int 0))) T1 N1 (wv_u I1 460 0 2) L1 R1 0 0 := by
          intro ha hb
          rw [if_neg (by rw [ha]; decide), if_pos hb] at hq
          exact hq
        have n10 : ¬ (1 : Int32) = 0 := by decide
        refine ⟨?_, ?_⟩
        · intro h1
          rw [wi_le, hsum, wi_16] at h1
          refine ⟨_, _, rfl, ?_⟩
          refine key _ _ _ _ ⟨fun _ => by omega, fun _ => rfl⟩ ?_ ?_ ?_
          · intro ha
            refine ⟨fun h => (n10 h).elim, fun _ => ?_⟩
            exact g1 ha
          · intro ha hb
            refine ⟨fun _ => ?_, fun h => (h rfl).elim⟩
            exact ⟨10, by omega, 0, _, _, x5, rfl, rfl, rfl, rfl, rfl, rfl, rfl, rfl, rfl, by omega, rfl, ha, by omega⟩
          · intro ha hb
            omega
        · intro h1
          rw [wi_le, hsum, wi_16] at h1
          refine ⟨_, _, rfl, ?_⟩
          refine key _ _ _ _ ⟨fun h => (n10 h).elim, fun h => by omega⟩ ?_ ?_ ?_
          · intro ha
            refine ⟨fun h => (n10 h).elim, fun _ => ?_⟩
            exact g1 ha
          · intro ha hb
            omega
          · intro ha hb
            refine ⟨fun h => (n10 h).elim, fun _ => ?_⟩
            exact g2 ha hb
      · intro hc
        have hj4 : j < 4 := by rw [wi_le, e8, wi_8] at hc; omega
        have fin : ∀ c2 c3 : Int32, c2 = Int32.ofNat (wb_cnt s (j + 1)) → c3 = wp_b (wb_any s (j + 1)) → (∃ m1, m1 < m ∧ ∃ (j1 : Nat) (x5 : Option Value), [some (.ref 460), some (.int s), some (.int c2), some (.int c3), some (.int (Int32.ofNat (8 * j) + Int32.ofInt 8)), some (.int (wb s j)), none, none] = [some (.ref 460), some (.int s), some (.int (Int32.ofNat (wb_cnt s j1))), some (.int (wp_b (wb_any s j1))), some (.int (Int32.ofNat (8 * j1))), x5, none, none] ∧ ([] : List Value) = [] ∧ T1 = T1 ∧ N1 = N1 ∧ I1 = I1 ∧ L1 = L1 ∧ R1 = R1 ∧ 0 = 0 ∧ 0 = 0 ∧ j1 ≤ 4 ∧ m1 = 20 - j1) := by
          intro c2 c3 h2 h3
          exact ⟨20 - (j + 1), by omega, j + 1, _, by rw [h2, h3, wp_8s], rfl, rfl, rfl, rfl, rfl, rfl, rfl, rfl, by omega, rfl⟩
        have c0 : wb s j = 0 → Int32.ofNat (wb_cnt s j) + Int32.ofInt 0 = Int32.ofNat (wb_cnt s (j + 1)) := by
          intro h
          rw [show wb_cnt s (j + 1) = wb_cnt s j + (if wb s j = 0 then 0 else 1) from rfl, if_pos h, Int32.ofNat_add]
          rfl
        have c1 : ¬ wb s j = 0 → Int32.ofNat (wb_cnt s j) + Int32.ofInt 1 = Int32.ofNat (wb_cnt s (j + 1)) := by
          intro h
          rw [show wb_cnt s (j + 1) = wb_cnt s j + (if wb s j = 0 then 0 else 1) from rfl, if_neg h, Int32.ofNat_add]
          rfl
        have any1 : ∀ b : Bool, wb_any s (j + 1) = b → wp_b (wb_any s (j + 1)) = wp_b b := fun b h => by rw [h]
        have an : wb_any s (j + 1) = (wb_any s j || wb_bad (wb s j)) := rfl
        refine ⟨?_, ?_⟩
        · intro h1
          have h2 : wb_any s j = true := by
            cases h3 : wb_any s j with
            | true => rfl
            | false => rw [h3] at h1; exact (h1 rfl).elim
          have h4 := any1 true (by rw [an, h2]; rfl)
          exact ⟨fun h => fin _ _ (c0 h) h4.symm, fun h => fin _ _ (c1 h) h4.symm⟩
        · intro h1
          have h2 : wb_any s j = false := by
            cases h3 : wb_any s j with
            | false => rfl
            | true => rw [h3] at h1; exact (h1 (by decide)).elim
          refine ⟨?_, ?_⟩
          · intro h3
            have h4 := any1 false (by rw [an, h2]; exact decide_eq_false (fun z => z.1 h3))
            exact ⟨fun h => fin _ _ (c0 h) h4.symm, fun h => fin _ _ (c1 h) h4.symm⟩
          · intro h3
            refine ⟨?_, ?_⟩
            · intro h5
              have h4 := any1 true (by rw [an, h2]; exact decide_eq_true ⟨h3, Or.inl h5⟩)
              exact ⟨fun h => fin _ _ (c0 h) h4.symm, fun h => fin _ _ (c1 h) h4.symm⟩
            · intro h5
              refine ⟨?_, ?_⟩
              · intro h6
                have h4 := any1 false (by rw [an, h2]; exact decide_eq_false (fun z => z.2.elim h5 (fun y => Int32.not_lt.mpr h6 y)))
                exact ⟨fun h => fin _ _ (c0 h) h4.symm, fun h => fin _ _ (c1 h) h4.symm⟩
              · intro h6
                have h4 := any1 true (by rw [an, h2]; exact decide_eq_true ⟨h3, Or.inr (Int32.not_le.mp h6)⟩)
                exact ⟨fun h => fin _ _ (c0 h) h4.symm, fun h => fin _ _ (c1 h) h4.symm⟩
    · split at hP
      · cases hP
        rename_i hpc0 hpc
        subst hpc
        obtain ⟨j, x2, x3, x5, rfl, rfl, rfl, rfl, rfl, rfl, rfl, rfl, rfl, hj, hm, ha, hn⟩ := h
        have e8 := wp_8 hj
        refine ⟨?_, ?_⟩
        · intro hc
          have hj4 : j = 4 := by rw [wi_le, e8, wi_8] at hc; omega
          subst hj4
          unfold wp_put at hq
          rw [if_neg (by rw [ha]; decide), if_neg (by omega)] at hq
          exact hq
        · intro hc
          have hj4 : j < 4 := by rw [wi_le, e8, wi_8] at hc; omega
          refine ⟨?_, ?_⟩
          · intro h1
            have h1' : wb s j = 0 := h1
            exact ⟨10 - (j + 1), by omega, j + 1, x2, x3, some (.int (wb s j)), by rw [← wp_8s]; rfl, rfl, rfl, rfl, (show wb_ap 460 2 461 s (wv_u I 460 0 0) (j + 1) = _ from if_pos h1').symm, rfl, rfl, rfl, rfl, by omega, rfl, ha, hn⟩
          · intro h1
            have h1' : ¬ wb s j = 0 := h1
            have hc1 := wb_ap_n (a := 460) (k := 2) (b := 461) (s := s) (I := wv_u I 460 0 0) (by decide) (by rw [wv_u_no _ _ (by decide)]; exact hs0) (by rw [wv_u_no _ _ (by decide)]; exact hs1) j hj
            rw [wv_u_no _ _ (by decide)] at hc1
            have hc2 := wb_cnt_mono s (show j + 1 ≤ 4 by omega)
            have hc3 : wb_cnt s (j + 1) = wb_cnt s j + 1 := by show _ + _ = _; rw [if_neg h1']
            refine ⟨_, wm_t hT rfl, ⟨by rw [wi_le, hc1, wi_0]; omega, by rw [hc1]; omega⟩, by decide, ?_⟩
            refine ⟨10 - (j + 1), by omega, j + 1, x2, x3, some (.int (wb s j)), by rw [← wp_8s]; rfl, rfl, rfl, rfl, ?_, rfl, rfl, rfl, rfl, by omega, rfl, ha, hn⟩
            rw [show wb_ap 460 2 461 s (wv_u I 460 0 0) (j + 1) = _ from if_neg h1']
            exact congrArg (fun z => wv_u (wv_u (wb_ap 460 2 461 s (wv_u I 460 0 0) j) 461 (wb_ap 460 2 461 s (wv_u I 460 0 0) j 460 2).toNatClampNeg (wb s j)) 460 2 (z + Int32.ofInt 1)) (wv_u_no (a := 461) (b := 460) (j := 2) (wb_ap 460 2 461 s (wv_u I 460 0 0) j) (wb s j) (by omega))
      · cases hP
