/-! ===== the reference: tokens of a design text ===== -/
/-- the class's kinds of tokens, as the reference numbers them -/
def ds_mc (k : Int32) : Int32 := if k = 0 then 50 else if k = 1 then 51 else if k = 4 then 6 else if k = 5 then 7 else if k = 6 then 20 else if k = 7 then 21 else if k = 8 then 22 else if k = 9 then 23 else if k = 15 then 29 else if k = 16 then 30 else if k = 28 then 12 else if k = 32 then 70 else if k = 33 then 71 else if k = 34 then 72 else if k = 35 then 73 else if k = 36 then 74 else if k = 37 then 75 else if k = 38 then 76 else 0
def wp_dc (t : Nat → Int32) (p z : Nat) : Int32 := if 8 < z then (Int8.ofInt 51).toInt32 else if (decide (z = 5) && wt_rd t p [105, 110, 112, 117, 116]) = true then (Int8.ofInt 71).toInt32 else if (decide (z = 5) && wt_rd t p [108, 97, 116, 99, 104]) = true then (Int8.ofInt 72).toInt32 else if (decide (z = 4) && wt_rd t p [119, 105, 114, 101]) = true then (Int8.ofInt 73).toInt32 else if (decide (z = 4) && wt_rd t p [110, 101, 120, 116]) = true then (Int8.ofInt 12).toInt32 else if (decide (z = 6) && wt_rd t p [115, 105, 103, 110, 97, 108]) = true then (Int8.ofInt 74).toInt32 else (Int8.ofInt 70).toInt32
def wp_h467 (p : Nat) (T : wv_T) (N : Nat) (I : Nat → Nat → Int32) (L : Nat → Nat → Int64) (R : Nat → Nat → Option Nat) : Nat → Option (Nat → wv_P) := fun pc =>
  if pc = 0 then some (fun m lv st T1 N1 I1 L1 R1 nc ns => ∃ k : Nat, lv = [some (.ref 460), none] ∧ st = [] ∧ T1 = T ∧ N1 = N ∧ L1 = L ∧ R1 = R ∧ nc = 0 ∧ ns = 0 ∧ m = 2000 - k ∧ p + k ≤ 400 ∧ I1 460 5 = Int32.ofNat (p + k) ∧ (∀ c j, ¬ (c = 460 ∧ j = 5) → I1 c j = I c j) ∧ ∀ j, j < k → wt_sml (wt_m I) (p + j) = true)
  else if pc = 24 then some (fun m lv st T1 N1 I1 L1 R1 nc ns => ∃ k : Nat, lv = [some (.ref 460), none] ∧ st = [] ∧ T1 = T ∧ N1 = N ∧ L1 = L ∧ R1 = R ∧ nc = 0 ∧ ns = 0 ∧ m = 1 ∧ p + k ≤ 400 ∧ I1 460 5 = Int32.ofNat (p + k) ∧ (∀ c j, ¬ (c = 460 ∧ j = 5) → I1 c j = I c j) ∧ (∀ j, j < k → wt_sml (wt_m I) (p + j) = true) ∧ wt_sml (wt_m I) (p + k) = false)
  else none
theorem wt_wl_k {t : Nat → Int32} : ∀ r p k, (∀ j, j < k → wt_sml t (p + j) = true) → wt_sml t (p + k) = false → k ≤ r → wt_wl t p r = k
  | 0, p, k, _, _, h => by
    show 0 = k
    omega
  | r + 1, p, 0, h1, h2, _ => by
    unfold wt_wl
    rw [Nat.add_zero] at h2
    rw [if_neg (by rw [h2]; decide)]
  | r + 1, p, k + 1, h1, h2, h3 => by
    unfold wt_wl
    have h0 := h1 0 (by omega)
    rw [Nat.add_zero] at h0
    rw [if_pos h0, wt_wl_k r (p + 1) k (fun j hj => by
      have := h1 (j + 1) (by omega)
      rw [show p + 1 + j = p + (j + 1) by omega]
      exact this) (by rw [show p + 1 + k = p + (k + 1) by omega]; exact h2) (by omega)]
theorem wp_isw_of {t : Nat → Int32} {p z : Nat} :
    wp_isw t p z 5 ((Int8.ofInt 105).toInt32) ((Int8.ofInt 110).toInt32) ((Int8.ofInt 112).toInt32) ((Int8.ofInt 117).toInt32) ((Int8.ofInt 116).toInt32) (Int32.ofInt 0) = (decide (z = 5) && wt_rd t p [105, 110, 112, 117, 116]) ∧
    wp_isw t p z 5 ((Int8.ofInt 108).toInt32) ((Int8.ofInt 97).toInt32) ((Int8.ofInt 116).toInt32) ((Int8.ofInt 99).toInt32) ((Int8.ofInt 104).toInt32) (Int32.ofInt 0) = (decide (z = 5) && wt_rd t p [108, 97, 116, 99, 104]) ∧
    wp_isw t p z 4 ((Int8.ofInt 119).toInt32) ((Int8.ofInt 105).toInt32) ((Int8.ofInt 114).toInt32) ((Int8.ofInt 101).toInt32) (Int32.ofInt 0) (Int32.ofInt 0) = (decide (z = 4) && wt_rd t p [119, 105, 114, 101]) ∧
    wp_isw t p z 4 ((Int8.ofInt 110).toInt32) ((Int8.ofInt 101).toInt32) ((Int8.ofInt 120).toInt32) ((Int8.ofInt 116).toInt32) (Int32.ofInt 0) (Int32.ofInt 0) = (decide (z = 4) && wt_rd t p [110, 101, 120, 116]) ∧
    wp_isw t p z 6 ((Int8.ofInt 115).toInt32) ((Int8.ofInt 105).toInt32) ((Int8.ofInt 103).toInt32) ((Int8.ofInt 110).toInt32) ((Int8.ofInt 97).toInt32) ((Int8.ofInt 108).toInt32) = (decide (z = 6) && wt_rd t p [115, 105, 103, 110, 97, 108]) := by
  refine ⟨?_, ?_, ?_, ?_, ?_⟩ <;>
  · unfold wp_isw
    rw [Bool.eq_iff_iff]
    simp only [wt_rd, Bool.and_eq_true, decide_eq_true_eq, Bool.and_true]
    constructor
    · intro h
      simp only [and_assoc] at h ⊢
      simp_all
      try exact ⟨h.2.1, h.2.2.1, h.2.2.2.1⟩
    · intro h
      simp_all
