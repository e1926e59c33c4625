/-! ===== the class: put, its loops ===== -/
/-- what put does -/
def wq_put (s : Int32) (T : wv_T) (N : Nat) (I : Nat → Nat → Int32) (L : Nat → Nat → Int64) (R : Nat → Nat → Option Nat) (q : wv_Q) : Prop :=
  if wb_any s 4 = true then q (.inr 0) T N I L R 1 6 else if 400 < (I 1 6).toInt + wb_cnt s 4 then q (.inr 1) T N I L R 1 6 else q (.inl (some (.int (wb_ap 1 6 2 s I 4 1 6)))) T N (wb_ap 1 6 2 s I 4) L R 0 0
def wq_c90 : wv_c1 := fun as T N I L R q => ∃ s : Int32, as = [.ref 0, .int s] ∧ wm_T T ∧ 0 ≤ (I 1 6).toInt ∧ (I 1 6).toInt ≤ 400 ∧ wq_put s T N I L R q
def wq_h90 (s : Int32) (T : wv_T) (N : Nat) (I : Nat → Nat → Int32) (L : Nat → Nat → Int64) (R : Nat → Nat → Option Nat) : Nat → Option (Nat → wv_P) := fun pc =>
  if pc = 4 then some (fun m lv st T1 N1 I1 L1 R1 nc ns => ∃ (j : Nat) (x4 : Option Value), lv = [some (.ref 0), some (.int s), some (.int (Int32.ofNat (wb_cnt s j))), some (.int (Int32.ofNat j)), x4, none, none] ∧ st = [] ∧ T1 = T ∧ N1 = N ∧ I1 = I ∧ L1 = L ∧ R1 = R ∧ nc = 0 ∧ ns = 0 ∧ j ≤ 4 ∧ m = 20 - j ∧ wb_any s j = false)
  else if pc = 92 then some (fun m lv st T1 N1 I1 L1 R1 nc ns => ∃ (j : Nat) (x2 : Int32) (x4 : Option Value), lv = [some (.ref 0), some (.int s), some (.int x2), some (.int (Int32.ofNat j)), x4, none, none] ∧ st = [] ∧ T1 = T ∧ N1 = N ∧ I1 = wb_ap 1 6 2 s I j ∧ L1 = L ∧ R1 = R ∧ nc = 0 ∧ ns = 0 ∧ j ≤ 4 ∧ m = 10 - j ∧ wb_any s 4 = false ∧ (I 1 6).toInt + wb_cnt s 4 ≤ 400)
  else none
set_option maxRecDepth 100000 in
theorem wq_m90 : ∃ cb ci np, pt_mt 90 = some (1, cb, 5, false, some .int, ci, np) := ⟨_, _, _, rfl⟩
theorem wq_4 {j : Nat} (h : j ≤ 4) : (Int32.ofNat j).toInt = j := (by decide : ∀ j, j ≤ 4 → (Int32.ofNat j).toInt = (j : Int)) j h
theorem wq_4s (j : Nat) : Int32.ofNat j + Int32.ofInt 1 = Int32.ofNat (j + 1) := by
  rw [Int32.ofNat_add]
  rfl
theorem wb_any_mono (s : Int32) {i j : Nat} (h : i ≤ j) (hi : wb_any s i = true) : wb_any s j = true := by
  induction h with
  | refl => exact hi
  | step _ ih => show (_ || _) = true; rw [ih]; rfl
set_option maxRecDepth 100000 in
set_option maxHeartbeats 4000000 in
theorem wq_putC {sc : pt_Sc} {d : Nat} : wv_C wm_fx sc (d + 1 + 1) 90 wq_c90 := by
  rintro as T N I L R q ⟨s, rfl, hT, hs0, hs1, hq⟩ w HR
  obtain ⟨cb, ci, np, hm⟩ := wq_m90
  refine wv_meth (hh := none) rfl (sp := wv_sp [(24, wp_c24), (96, wp_c96)]) (hd := wq_h90 s T N I L R) (n := 200) (n1 := 100) hm zc_90 rfl (wv_sp_ok (fun q hq => by rcases List.mem_cons.mp hq with h | h; rw [h]; exact wp_count; rw [List.mem_singleton.mp h]; exact wp_addSign)) ?_ ?_ HR
  · exact ⟨20, 0, none, rfl, rfl, rfl, rfl, rfl, rfl, rfl, rfl, rfl, by omega, rfl, rfl⟩
  · intro pc P hP m lv st T1 N1 I1 L1 R1 nc ns h
    unfold wq_h90 at hP
    split at hP
    · cases hP
      rename_i hpc
      subst hpc
      obtain ⟨j, x4, rfl, rfl, rfl, rfl, rfl, rfl, rfl, rfl, rfl, hj, hm, ha⟩ := h
      have e4 := wq_4 hj
      have cat : wv_cat ([] : List Value) ≤ 8 := by decide
      refine ⟨?_, ?_⟩
      · intro hc
        have hj4 : j = 4 := by rw [wi_le, e4, wi_of] at hc; unfold wr at hc; omega
        subst hj4
        have hcnt : (Int32.ofNat (wb_cnt s 4)).toInt = wb_cnt s 4 := wq_4 (wb_cnt_le s 4)
        have hsum : (I1 1 6 + Int32.ofNat (wb_cnt s 4)).toInt = (I1 1 6).toInt + wb_cnt s 4 := by
          have := wb_cnt_le s 4
          rw [wi_add, hcnt, wr_id (by omega) (by omega)]
        unfold wq_put at hq
        rw [if_neg (by rw [ha]; decide)] at hq
        refine ⟨rfl, ?_⟩
        refine ⟨?_, ?_⟩
        · intro h1
          rw [wi_le, hsum, wi_16] at h1
          exact ⟨10, by omega, 0, _, x4, rfl, rfl, rfl, rfl, rfl, rfl, rfl, rfl, rfl, by omega, rfl, ha, by omega⟩
        · intro h1
          rw [wi_le, hsum, wi_16] at h1
          rw [if_pos (by omega)] at hq
          exact hq
      · intro hc
        have hj4 : j < 4 := by rw [wi_le, e4, wi_of] at hc; unfold wr at hc; omega
        have eb := wb_u s hj4
        have an : wb_any s (j + 1) = (wb_any s j || wb_bad (wb s j)) := rfl
        have fin : ∀ c2 : Int32, c2 = Int32.ofNat (wb_cnt s (j + 1)) → wb_bad (wb s j) = false → ∀ c4, (∃ m1, m1 < m ∧ ∃ (j1 : Nat) (x4 : Option Value), [some (.ref 0), some (.int s), some (.int c2), some (.int (Int32.ofNat j + Int32.ofInt 1)), some (.int c4), none, none] = [some (.ref 0), some (.int s), some (.int (Int32.ofNat (wb_cnt s j1))), some (.int (Int32.ofNat j1)), x4, none, none] ∧ ([] : List Value) = [] ∧ T1 = T1 ∧ N1 = N1 ∧ I1 = I1 ∧ L1 = L1 ∧ R1 = R1 ∧ 0 = 0 ∧ 0 = 0 ∧ j1 ≤ 4 ∧ m1 = 20 - j1 ∧ wb_any s j1 = false) := by
          intro c2 h2 h3 c4
          exact ⟨20 - (j + 1), by omega, j + 1, _, by rw [h2, wq_4s], rfl, rfl, rfl, rfl, rfl, rfl, rfl, rfl, by omega, rfl, by rw [an, ha, h3]; rfl⟩
        have c0 : wb s j = 0 → Int32.ofNat (wb_cnt s j) + Int32.ofInt 0 = Int32.ofNat (wb_cnt s (j + 1)) := by
          intro h
          rw [show wb_cnt s (j + 1) = wb_cnt s j + (if wb s j = 0 then 0 else 1) from rfl, if_pos h, Int32.ofNat_add]
          rfl
        have c1 : ¬ wb s j = 0 → Int32.ofNat (wb_cnt s j) + Int32.ofInt 1 = Int32.ofNat (wb_cnt s (j + 1)) := by
          intro h
          rw [show wb_cnt s (j + 1) = wb_cnt s j + (if wb s j = 0 then 0 else 1) from rfl, if_neg h, Int32.ofNat_add]
          rfl
        have thr : wb_bad (wb s j) = true → q (.inr 0) T1 N1 I1 L1 R1 1 6 := by
          intro h3
          unfold wq_put at hq
          rw [if_pos (wb_any_mono s (show j + 1 ≤ 4 by omega) (by rw [an, h3, Bool.or_true]))] at hq
          exact hq
        refine ⟨?_, ?_⟩
        · intro h1
          have h1' : wb s j = 0 := eb.symm.trans h1
          have h3 : wb_bad (wb s j) = false := decide_eq_false (fun z => z.1 h1')
          exact ⟨fun h => (h h1).elim, fun h => fin _ (c0 h1') h3 _⟩
        · intro h1
          have h1' : ¬ wb s j = 0 := fun z => h1 (eb.trans z)
          refine ⟨?_, ?_⟩
          · intro h2
            rw [eb] at h2
            exact thr (decide_eq_true ⟨h1', Or.inl h2⟩)
          · intro h2
            rw [eb] at h2
            refine ⟨?_, ?_⟩
            · intro h5
              rw [eb] at h5
              have h3 : wb_bad (wb s j) = false := decide_eq_false (fun z => z.2.elim h2 (fun y => Int32.not_lt.mpr h5 y))
              exact ⟨fun h => fin _ (c1 h1') h3 _, fun h => (h h1).elim⟩
            · intro h5
              rw [eb] at h5
              exact thr (decide_eq_true ⟨h1', Or.inr (Int32.not_le.mp h5)⟩)
    · split at hP
      · cases hP
        rename_i hpc0 hpc
        subst hpc
        obtain ⟨j, x2, x4, rfl, rfl, rfl, rfl, rfl, rfl, rfl, rfl, rfl, hj, hm, ha, hn⟩ := h
        have e4 := wq_4 hj
        refine ⟨?_, ?_⟩
        · intro hc
          have hj4 : j = 4 := by rw [wi_le, e4, wi_of] at hc; unfold wr at hc; omega
          subst hj4
          unfold wq_put at hq
          rw [if_neg (by rw [ha]; decide), if_neg (by omega)] at hq
          exact ⟨rfl, hq⟩
        · intro hc
          have hj4 : j < 4 := by rw [wi_le, e4, wi_of] at hc; unfold wr at hc; omega
          have eb := wb_u s hj4
          have hc1 := wb_ap_n (a := 1) (k := 6) (b := 2) (s := s) (I := I) (by decide) hs0 hs1 j hj
          have hc2 := wb_cnt_mono s (show j + 1 ≤ 4 by omega)
          refine ⟨_, rfl, hT, by rw [hc1]; omega, ?_, ?_⟩
          · rw [eb]
            by_cases h1 : wb s j = 0
            · exact Or.inl h1
            · have hc3 : wb_cnt s (j + 1) = wb_cnt s j + 1 := by show _ + _ = _; rw [if_neg h1]
              exact Or.inr (by rw [hc1]; omega)
          · exact ⟨10 - (j + 1), by omega, j + 1, x2, x4, by rw [← wq_4s]; rfl, rfl, rfl, rfl, by rw [eb]; rfl, rfl, rfl, rfl, rfl, by omega, rfl, ha, hn⟩
      · cases hP
