/-! ===== colours of counted places ===== -/
theorem nc_occ {n : Nat} {wb : Bool} {m : Nat → Bool} (h1 : 1 ≤ nt_S n wb) : nc_ok (np_occ n wb m) (nt_S n wb) := by
  have hnn : np_n (np_occ n wb m) = 1 + nt_S n wb := rfl
  have eB : ∀ p q, np_B (np_occ n wb m) p q = (decide (1 ≤ p) && (decide (q = 1 + 2 * (p / 2)) || decide (q = 2 + 2 * (p / 2)))) := fun _ _ => rfl
  have eL : ∀ p, np_L (np_occ n wb m) p = (decide (1 ≤ p) && decide (p / 2 = n)) := fun _ => rfl
  refine ⟨fun p => p / 2, fun p => 1 ≤ p ∧ p < 1 + nt_S n wb, ?_, ?_, ?_, ?_⟩
  · rintro p ⟨p1, p2⟩
    refine ⟨by omega, ?_⟩
    show p / 2 < nt_S n wb
    omega
  · intro p hp hf
    have hf : (decide (p = 1) || decide (p = 2 ∧ 0 < n)) = true := hf
    rcases nt_or_b.mp hf with z | z
    · have := of_decide_eq_true z
      exact ⟨by omega, by omega⟩
    · have := (of_decide_eq_true z).1
      exact ⟨by omega, by omega⟩
  · rintro p q ⟨p1, p2⟩ hq hb
    rw [eB] at hb
    rcases nt_or_b.mp (nt_and_b.mp hb).2 with z | z
    · have := of_decide_eq_true z
      exact ⟨by omega, by omega⟩
    · have := of_decide_eq_true z
      exact ⟨by omega, by omega⟩
  · rintro p q ⟨p1, p2⟩ ⟨q1, q2⟩ e
    have e : p / 2 = q / 2 := e
    refine ⟨?_, fun r hr => ?_⟩
    · rw [eL, eL, e, decide_eq_true p1, decide_eq_true q1]
    · rw [eB, eB, e, decide_eq_true p1, decide_eq_true q1]
theorem nc_times {lo hi k : Nat} {U : np_A} (hU : nc_ok U k) : nc_ok (np_times lo hi U) ((if 1 < hi then hi else 1) * k) := by
  obtain ⟨c, Al, a1, a2, a3, a4⟩ := hU
  by_cases h0 : hi = 0
  · subst h0
    have eU : np_times lo 0 U = (np_n U, np_M U, np_B U, fun _ => false, fun _ => false, true) := if_pos rfl
    rw [eU, if_neg (by omega), Nat.one_mul]
    refine ⟨c, Al, a1, fun p _ h => (by cases h), a3, fun p q hp hq e => ⟨rfl, (a4 p q hp hq e).2⟩⟩
  have eU : np_times lo hi U = (np_n U * hi, fun p => np_M U (p % np_n U), fun p q => if q / np_n U = p / np_n U then np_B U (p % np_n U) (q % np_n U) else if q / np_n U = p / np_n U + 1 then np_L U (p % np_n U) && np_F U (q % np_n U) else false,
    fun p => decide (p < np_n U) && np_F U p, fun p => np_L U (p % np_n U) && decide (np_need U lo ≤ p / np_n U + 1), decide (lo = 0) || np_e U) := if_neg h0
  rw [eU]
  have hk : (if 1 < hi then hi else 1) = hi := by
    split <;> omega
  rw [hk]
  refine ⟨fun p => (p / np_n U) * k + c (p % np_n U), fun p => p < np_n U * hi ∧ Al (p % np_n U), ?_, ?_, ?_, ?_⟩
  · rintro p ⟨p1, p2⟩
    refine ⟨p1, ?_⟩
    have hd : p / np_n U < hi := Nat.div_lt_of_lt_mul p1
    have hc := (a1 _ p2).2
    show (p / np_n U) * k + c (p % np_n U) < hi * k
    have : (p / np_n U + 1) * k ≤ hi * k := Nat.mul_le_mul_right _ hd
    rw [Nat.add_mul, Nat.one_mul] at this
    omega
  · intro p hp hf
    have hf : (decide (p < np_n U) && np_F U p) = true := hf
    obtain ⟨f1, f2⟩ := nt_and_b.mp hf
    have f1 := of_decide_eq_true f1
    refine ⟨hp, ?_⟩
    rw [Nat.mod_eq_of_lt f1]
    exact a2 p f1 f2
  · rintro p q ⟨p1, p2⟩ hq hb
    have hq : q < np_n U * hi := hq
    have h0n : 0 < np_n U := by
      rcases Nat.eq_zero_or_pos (np_n U) with z | z
      · rw [z, Nat.zero_mul] at hq
        omega
      · exact z
    have hm : q % np_n U < np_n U := Nat.mod_lt _ h0n
    have hb : (if q / np_n U = p / np_n U then np_B U (p % np_n U) (q % np_n U) else if q / np_n U = p / np_n U + 1 then np_L U (p % np_n U) && np_F U (q % np_n U) else false) = true := hb
    refine ⟨hq, ?_⟩
    split at hb
    · exact a3 _ _ p2 hm hb
    · split at hb
      · exact a2 _ hm (nt_and_b.mp hb).2
      · cases hb
  · rintro p q ⟨p1, p2⟩ ⟨q1, q2⟩ e
    have e : (p / np_n U) * k + c (p % np_n U) = (q / np_n U) * k + c (q % np_n U) := e
    have hc1 := (a1 _ p2).2
    have hc2 := (a1 _ q2).2
    have ed : p / np_n U = q / np_n U := by
      have x1 : ((p / np_n U) * k + c (p % np_n U)) / k = p / np_n U := by
        rw [Nat.add_comm, Nat.add_mul_div_right _ _ (by omega), Nat.div_eq_of_lt hc1, Nat.zero_add]
      have x2 : ((q / np_n U) * k + c (q % np_n U)) / k = q / np_n U := by
        rw [Nat.add_comm, Nat.add_mul_div_right _ _ (by omega), Nat.div_eq_of_lt hc2, Nat.zero_add]
      rw [← x1, ← x2, e]
    rw [ed] at e
    obtain ⟨e1, e2⟩ := a4 _ _ p2 q2 (by omega)
    refine ⟨?_, fun r hr => ?_⟩
    · show (np_L U (p % np_n U) && decide (np_need U lo ≤ p / np_n U + 1)) = (np_L U (q % np_n U) && decide (np_need U lo ≤ q / np_n U + 1))
      rw [e1, ed]
    · have hr : r < np_n U * hi := hr
      have h0n : 0 < np_n U := by
        rcases Nat.eq_zero_or_pos (np_n U) with z | z
        · rw [z, Nat.zero_mul] at hr
          omega
        · exact z
      show (if r / np_n U = p / np_n U then np_B U (p % np_n U) (r % np_n U) else if r / np_n U = p / np_n U + 1 then np_L U (p % np_n U) && np_F U (r % np_n U) else false) = (if r / np_n U = q / np_n U then np_B U (q % np_n U) (r % np_n U) else if r / np_n U = q / np_n U + 1 then np_L U (q % np_n U) && np_F U (r % np_n U) else false)
      rw [ed, e1, e2 _ (Nat.mod_lt _ h0n)]
