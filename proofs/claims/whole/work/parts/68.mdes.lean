/-! ===== the reference: design ===== -/
def wg_bad (a b : Int32) : Prop := a < Int32.ofInt 1 ∨ Int32.ofInt 3 < a ∨ b < 0 ∨ Int32.ofInt 5 < b
/-- latches stay as they are -/
def wg_l (I : Nat → Nat → Int32) : Nat → Nat → Nat → Int32
  | 0 => I
  | j + 1 => wv_u (wv_u (wg_l I j) 498 j (Int32.ofInt 2 * (Int32.ofInt 1 + wg_l I j 460 56 + Int32.ofNat j))) 499 j (vp_nar .boolean (Int32.ofInt 0))
/-- signals are the first input -/
def wg_s (b : Nat) (I : Nat → Nat → Int32) : Nat → Nat → Nat → Int32
  | 0 => I
  | j + 1 => wv_u (wg_s b I j) b j (Int32.ofInt 2)
def wg_0 (a b : Int32) (I : Nat → Nat → Int32) : Nat → Nat → Int32 := wv_u (wv_u (wv_u (wv_u I 460 0 0) 460 56 a) 460 57 b) 460 58 (Int32.ofInt 0)
def wp_c451 : wv_c1 := fun as T N I L R q => ∃ a b : Int32, as = [.ref 460, .int a, .int b] ∧ wm_T T ∧ (wg_bad a b → q (.inl none) T N (wv_u I 460 0 1) L R 0 0) ∧ (¬ wg_bad a b → q (.inl none) T N (wv_u (wg_s 500 (wg_l (wg_0 a b I) 5) 6) 460 66 (Int32.ofInt 0)) L R 0 0)
def wp_h451 (a b : Int32) (T : wv_T) (N : Nat) (I : Nat → Nat → Int32) (L : Nat → Nat → Int64) (R : Nat → Nat → Option Nat) : Nat → Option (Nat → wv_P) := fun pc =>
  if pc = 50 then some (fun m lv st T1 N1 I1 L1 R1 nc ns => ∃ j : Nat, lv = [some (.ref 460), some (.int a), some (.int b), some (.int (Int32.ofNat j)), none, none, none] ∧ st = [] ∧ T1 = T ∧ N1 = N ∧ I1 = wg_l (wg_0 a b I) j ∧ L1 = L ∧ R1 = R ∧ nc = 0 ∧ ns = 0 ∧ j ≤ 5 ∧ m = 40 - j ∧ ¬ wg_bad a b)
  else if pc = 86 then some (fun m lv st T1 N1 I1 L1 R1 nc ns => ∃ j : Nat, lv = [some (.ref 460), some (.int a), some (.int b), some (.int (Int32.ofNat j)), none, none, none] ∧ st = [] ∧ T1 = T ∧ N1 = N ∧ I1 = wg_s 500 (wg_l (wg_0 a b I) 5) j ∧ L1 = L ∧ R1 = R ∧ nc = 0 ∧ ns = 0 ∧ j ≤ 6 ∧ m = 20 - j ∧ ¬ wg_bad a b)
  else none
set_option maxRecDepth 100000 in
theorem wp_m451 : ∃ cb ci np, pt_mt 451 = some (32, cb, 4, false, none, ci, np) := ⟨_, _, _, rfl⟩
theorem wg_j {j : Nat} (h : j ≤ 6) : (Int32.ofNat j).toInt = j := wL_of (by omega)
theorem wg_n {j : Nat} (h : j ≤ 6) : (Int32.ofNat j).toNatClampNeg = j := by rw [wi_nat, wg_j h]; omega
set_option maxRecDepth 100000 in
set_option maxHeartbeats 4000000 in
theorem wp_design {sc : pt_Sc} {d : Nat} : wv_C wm_fx sc (d + 1 + 1) 451 wp_c451 := by
  rintro as T N I L R q ⟨a, b, rfl, hT, hb, hg⟩ w HR
  obtain ⟨cb, ci, np, hm⟩ := wp_m451
  have n10 : ¬ (1 : Int32) = 0 := by decide
  refine wv_meth (hh := none) rfl (sp := wv_sp [(345, wp_c345)]) (hd := wp_h451 a b T N I L R) (n := 200) (n1 := 100) hm zc_451 rfl (wv_sp_ok (fun q hq => by rw [List.mem_singleton.mp hq]; exact wp_refuse)) ?_ ?_ HR
  · refine ⟨?_, ?_⟩
    · intro h1
      refine ⟨_, _, rfl, ?_⟩
      rw [if_neg (by decide)]
      exact ⟨fun z => (n10 z).elim, fun _ => hb (Or.inl h1)⟩
    · intro h1
      refine ⟨?_, ?_⟩
      · intro h2
        refine ⟨_, _, rfl, ?_⟩
        rw [if_neg (by decide)]
        exact ⟨fun z => (n10 z).elim, fun _ => hb (Or.inr (Or.inl h2))⟩
      · intro h2
        refine ⟨?_, ?_⟩
        · intro h3
          refine ⟨_, _, rfl, ?_⟩
          rw [if_neg (by decide)]
          exact ⟨fun z => (n10 z).elim, fun _ => hb (Or.inr (Or.inr (Or.inl h3)))⟩
        · intro h3
          refine ⟨?_, ?_⟩
          · intro h4
            have hnb : ¬ wg_bad a b := fun z => z.elim h1 (fun z => z.elim h2 (fun z => z.elim h3 (fun z => Int32.not_lt.mpr h4 z)))
            refine ⟨_, _, rfl, ?_⟩
            rw [if_pos (by decide), if_pos (by decide)]
            refine ⟨fun _ => ?_, fun z => (z rfl).elim⟩
            exact ⟨40, 0, rfl, rfl, rfl, rfl, rfl, rfl, rfl, rfl, rfl, by omega, rfl, hnb⟩
          · intro h4
            refine ⟨_, _, rfl, ?_⟩
            rw [if_neg (by decide)]
            exact ⟨fun z => (n10 z).elim, fun _ => hb (Or.inr (Or.inr (Or.inr (Int32.not_le.mp h4))))⟩
  · intro pc P hP m lv st T1 N1 I1 L1 R1 nc ns h
    unfold wp_h451 at hP
    split at hP
    · cases hP
      rename_i hpc
      subst hpc
      obtain ⟨j, rfl, rfl, rfl, rfl, rfl, rfl, rfl, rfl, rfl, hj, hm, hnb⟩ := h
      have ej := wg_j (j := j) (by omega)
      have en := wg_n (j := j) (by omega)
      have bj : j < 5 → 0 ≤ Int32.ofNat j ∧ (Int32.ofNat j).toInt < (5 : Nat) := fun h => ⟨by rw [wi_le, ej, wi_0]; omega, by rw [ej]; omega⟩
      refine ⟨?_, ?_⟩
      · intro hc
        have hj5 : j = 5 := by rw [wi_le, ej, wi_of, wr_id (by omega) (by omega)] at hc; omega
        subst hj5
        exact ⟨20, by omega, 0, rfl, rfl, rfl, rfl, rfl, rfl, rfl, rfl, rfl, by omega, rfl, hnb⟩
      · intro hc
        have hj5 : j < 5 := by rw [wi_le, ej, wi_of, wr_id (by omega) (by omega)] at hc; omega
        refine ⟨_, wm_t hT rfl, bj hj5, by decide, _, wm_t hT rfl, bj hj5, by decide, ?_⟩
        refine ⟨40 - (j + 1), by omega, j + 1, by rw [← wq_4s]; rfl, rfl, rfl, rfl, ?_, rfl, rfl, rfl, rfl, by omega, rfl, hnb⟩
        rw [en]
        rfl
    · split at hP
      · cases hP
        rename_i hpc0 hpc
        subst hpc
        obtain ⟨j, rfl, rfl, rfl, rfl, rfl, rfl, rfl, rfl, rfl, hj, hm, hnb⟩ := h
        have ej := wg_j (j := j) (by omega)
        have en := wg_n (j := j) (by omega)
        refine ⟨?_, ?_⟩
        · intro hc
          have hj6 : j = 6 := by rw [wi_le, ej, wi_8] at hc; omega
          subst hj6
          exact hg hnb
        · intro hc
          have hj6 : j < 6 := by rw [wi_le, ej, wi_8] at hc; omega
          refine ⟨_, wm_t hT rfl, ⟨by rw [wi_le, ej, wi_0]; omega, by rw [ej]; omega⟩, by decide, ?_⟩
          refine ⟨20 - (j + 1), by omega, j + 1, by rw [← wq_4s]; rfl, rfl, rfl, rfl, ?_, rfl, rfl, rfl, rfl, by omega, rfl, hnb⟩
          rw [en]
          rfl
      · cases hP
