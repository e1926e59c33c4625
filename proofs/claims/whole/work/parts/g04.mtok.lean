/-! ===== the tokens of a property text, as both read them ===== -/
/-- a token of the class, as the reference numbers it -/
def pr_mc (x : wt_t) : Int32 := if x.1 = 3 then x.2.2.1 else if x.1 = 0 then 50 else if x.1 = 1 then 51 else if x.1 = 4 then 6 else if x.1 = 5 then 7 else if x.1 = 6 then 20 else if x.1 = 7 then 21 else if x.1 = 8 then 22 else if x.1 = 9 then 23 else if x.1 = 10 then 24 else if x.1 = 11 then 25 else if x.1 = 12 then 26 else if x.1 = 13 then 27 else if x.1 = 14 then 28 else if x.1 = 15 then 29 else if x.1 = 16 then 30 else if x.1 = 17 then 31 else if x.1 = 18 then 32 else if x.1 = 19 then 33 else if x.1 = 20 then 40 else if x.1 = 21 then 41 else if x.1 = 22 then 42 else if x.1 = 23 then 43 else if x.1 = 24 then 44 else if x.1 = 25 then 45 else if x.1 = 26 then 10 else if x.1 = 27 then 11 else if x.1 = 28 then 12 else if x.1 = 29 then 13 else if x.1 = 30 then 14 else if x.1 = 31 then 15 else 0
theorem rd2 {t : Nat → Int32} {p a b : Nat} : wt_rd t p [a, b] = true ↔ t p = Int32.ofNat a ∧ t (p + 1) = Int32.ofNat b := by
  simp only [wt_rd, Bool.and_eq_true, decide_eq_true_eq, Bool.and_true]
theorem rd3 {t : Nat → Int32} {p a b c : Nat} : wt_rd t p [a, b, c] = true ↔ t p = Int32.ofNat a ∧ t (p + 1) = Int32.ofNat b ∧ t (p + 2) = Int32.ofNat c := by
  simp only [wt_rd, Bool.and_eq_true, decide_eq_true_eq, Bool.and_true]
/-- a word, as both read it -/
theorem pr_word_k {t : Nat → Int32} {n p z : Nat} (ht : wt_tx t n) (hs : wt_sml t p = true) (hz : wt_wl t p 400 = z) (hpn : p < n) : ∃ x p2, pr_word t n p = (some x, p2) ∧ pr_mc x = wp_pc t p z ∧ x.2.1 = p ∧ p + z ≤ n ∧ (¬ x.1 = 1 → p2 = p + z) ∧ ¬ x.1 = 0 ∧ ¬ (x.1 = 22 ∨ x.1 = 23 ∨ x.1 = 24 ∨ x.1 = 25) := by
  have h1 : 1 ≤ z := by rw [← hz]; exact wt_wl_1 hs
  have hpz : p + z ≤ n := by
    by_cases h : p + z ≤ n
    · exact h
    · have hs := wt_wl_s (t := t) 400 p (z - 1) (by omega)
      unfold wt_sml at hs
      rw [ht.1 (p + (z - 1)) (by omega)] at hs
      exact absurd hs (by decide)
  have hs2 := of_decide_eq_true hs
  have e97 : (t p - (Int8.ofInt 97).toInt32).toInt = (t p).toInt - 97 := by
    rw [wi_sub, show ((Int8.ofInt 97).toInt32).toInt = 97 from rfl, wr_id (by omega) (by omega)]
  unfold pr_word wp_pc
  rw [hz]
  by_cases hz1 : z = 1
  · rw [if_pos hz1]
    by_cases h6 : (Int8.ofInt 6).toInt32 ≤ t p - (Int8.ofInt 97).toInt32
    · rw [if_neg (fun w => w.2 h6)]
      have hk : pr_wk t p z = Int32.ofInt 1 := Decidable.not_not.mp (fun w => by
        unfold pr_wk at w
        rw [if_neg (fun e => by rw [decide_eq_false (show ¬ z = 6 by omega), Bool.false_and] at e; cases e), if_neg (fun e => by rw [decide_eq_false (show ¬ z = 5 by omega), Bool.false_and] at e; cases e), if_neg (fun e => by rw [decide_eq_false (show ¬ z = 4 by omega), Bool.false_and] at e; cases e), if_neg (fun e => by rw [decide_eq_false (show ¬ z = 5 by omega), Bool.false_and] at e; cases e), if_neg (fun e => by rw [decide_eq_false (show ¬ z = 6 by omega), Bool.false_and] at e; cases e), if_neg (fun e => by rw [decide_eq_false (show ¬ z = 3 by omega), Bool.false_and] at e; cases e)] at w
        exact w rfl)
      rw [if_pos hk, if_pos (show (Int8.ofInt 102).toInt32 < t p from by
        rw [wi_le, e97, show ((Int8.ofInt 6).toInt32).toInt = 6 from rfl] at h6
        rw [wi_lt, show ((Int8.ofInt 102).toInt32).toInt = 102 from rfl]
        omega)]
      exact ⟨_, _, rfl, rfl, rfl, hpz, fun w => (w rfl).elim, (show ¬ Int32.ofInt 1 = 0 by decide), (show ¬ (Int32.ofInt 1 = 22 ∨ Int32.ofInt 1 = 23 ∨ Int32.ofInt 1 = 24 ∨ Int32.ofInt 1 = 25) by decide)⟩
    · rw [if_pos ⟨hz1, h6⟩, if_neg (show ¬ (Int8.ofInt 102).toInt32 < t p from by
        rw [wi_le, e97, show ((Int8.ofInt 6).toInt32).toInt = 6 from rfl] at h6
        rw [wi_lt, show ((Int8.ofInt 102).toInt32).toInt = 102 from rfl]
        omega)]
      exact ⟨_, _, rfl, rfl, rfl, hpz, fun _ => rfl, (show ¬ Int32.ofInt 3 = 0 by decide), (show ¬ (Int32.ofInt 3 = 22 ∨ Int32.ofInt 3 = 23 ∨ Int32.ofInt 3 = 24 ∨ Int32.ofInt 3 = 25) by decide)⟩
  · rw [if_neg (fun w => hz1 w.1), if_neg hz1]
    unfold pr_wk
    by_cases c0 : (decide (z = 6) && wt_rd t p [97, 108, 119, 97, 121, 115]) = true
    · have g1 : (if (decide (z = 6) && wt_rd t p [97, 108, 119, 97, 121, 115]) = true then (Int8.ofInt 26).toInt32 else if (decide (z = 5) && wt_rd t p [110, 101, 118, 101, 114]) = true then (Int8.ofInt 27).toInt32 else if (decide (z = 4) && wt_rd t p [110, 101, 120, 116]) = true then (Int8.ofInt 28).toInt32 else if (decide (z = 5) && wt_rd t p [117, 110, 116, 105, 108]) = true then (Int8.ofInt 29).toInt32 else if (decide (z = 6) && wt_rd t p [98, 101, 102, 111, 114, 101]) = true then (Int8.ofInt 30).toInt32 else if (decide (z = 3) && wt_rd t p [97, 110, 100]) = true then (Int8.ofInt 31).toInt32 else Int32.ofInt 1) = (Int8.ofInt 26).toInt32 := by rw [if_pos c0]
      have g2 : (if (decide (z = 6) && wt_rd t p [97, 108, 119, 97, 121, 115]) = true then (Int8.ofInt 10).toInt32 else if (decide (z = 6) && wt_rd t p [98, 101, 102, 111, 114, 101]) = true then (Int8.ofInt 14).toInt32 else if (decide (z = 5) && wt_rd t p [110, 101, 118, 101, 114]) = true then (Int8.ofInt 11).toInt32 else if (decide (z = 5) && wt_rd t p [117, 110, 116, 105, 108]) = true then (Int8.ofInt 13).toInt32 else if (decide (z = 4) && wt_rd t p [110, 101, 120, 116]) = true then (Int8.ofInt 12).toInt32 else if (decide (z = 3) && wt_rd t p [97, 110, 100]) = true then (Int8.ofInt 15).toInt32 else (Int8.ofInt 51).toInt32) = (Int8.ofInt 10).toInt32 := by rw [if_pos c0]
      rw [g1, g2, if_neg (show ¬ (Int8.ofInt 26).toInt32 = Int32.ofInt 1 by decide)]
      exact ⟨_, _, rfl, rfl, rfl, hpz, fun _ => rfl, (show ¬ (Int8.ofInt 26).toInt32 = 0 by decide), (show ¬ ((Int8.ofInt 26).toInt32 = 22 ∨ (Int8.ofInt 26).toInt32 = 23 ∨ (Int8.ofInt 26).toInt32 = 24 ∨ (Int8.ofInt 26).toInt32 = 25) by decide)⟩
    by_cases c1 : (decide (z = 5) && wt_rd t p [110, 101, 118, 101, 114]) = true
    · have g1 : (if (decide (z = 6) && wt_rd t p [97, 108, 119, 97, 121, 115]) = true then (Int8.ofInt 26).toInt32 else if (decide (z = 5) && wt_rd t p [110, 101, 118, 101, 114]) = true then (Int8.ofInt 27).toInt32 else if (decide (z = 4) && wt_rd t p [110, 101, 120, 116]) = true then (Int8.ofInt 28).toInt32 else if (decide (z = 5) && wt_rd t p [117, 110, 116, 105, 108]) = true then (Int8.ofInt 29).toInt32 else if (decide (z = 6) && wt_rd t p [98, 101, 102, 111, 114, 101]) = true then (Int8.ofInt 30).toInt32 else if (decide (z = 3) && wt_rd t p [97, 110, 100]) = true then (Int8.ofInt 31).toInt32 else Int32.ofInt 1) = (Int8.ofInt 27).toInt32 := by rw [if_neg c0, if_pos c1]
      have g2 : (if (decide (z = 6) && wt_rd t p [97, 108, 119, 97, 121, 115]) = true then (Int8.ofInt 10).toInt32 else if (decide (z = 6) && wt_rd t p [98, 101, 102, 111, 114, 101]) = true then (Int8.ofInt 14).toInt32 else if (decide (z = 5) && wt_rd t p [110, 101, 118, 101, 114]) = true then (Int8.ofInt 11).toInt32 else if (decide (z = 5) && wt_rd t p [117, 110, 116, 105, 108]) = true then (Int8.ofInt 13).toInt32 else if (decide (z = 4) && wt_rd t p [110, 101, 120, 116]) = true then (Int8.ofInt 12).toInt32 else if (decide (z = 3) && wt_rd t p [97, 110, 100]) = true then (Int8.ofInt 15).toInt32 else (Int8.ofInt 51).toInt32) = (Int8.ofInt 11).toInt32 := by rw [if_neg c0, if_neg (show ¬ (decide (z = 6) && wt_rd t p [98, 101, 102, 111, 114, 101]) = true from fun e => by have e1 := of_decide_eq_true (Bool.and_eq_true_iff.mp e).1; have e2 := of_decide_eq_true (Bool.and_eq_true_iff.mp c1).1; omega), if_pos c1]
      rw [g1, g2, if_neg (show ¬ (Int8.ofInt 27).toInt32 = Int32.ofInt 1 by decide)]
      exact ⟨_, _, rfl, rfl, rfl, hpz, fun _ => rfl, (show ¬ (Int8.ofInt 27).toInt32 = 0 by decide), (show ¬ ((Int8.ofInt 27).toInt32 = 22 ∨ (Int8.ofInt 27).toInt32 = 23 ∨ (Int8.ofInt 27).toInt32 = 24 ∨ (Int8.ofInt 27).toInt32 = 25) by decide)⟩
    by_cases c2 : (decide (z = 4) && wt_rd t p [110, 101, 120, 116]) = true
    · have g1 : (if (decide (z = 6) && wt_rd t p [97, 108, 119, 97, 121, 115]) = true then (Int8.ofInt 26).toInt32 else if (decide (z = 5) && wt_rd t p [110, 101, 118, 101, 114]) = true then (Int8.ofInt 27).toInt32 else if (decide (z = 4) && wt_rd t p [110, 101, 120, 116]) = true then (Int8.ofInt 28).toInt32 else if (decide (z = 5) && wt_rd t p [117, 110, 116, 105, 108]) = true then (Int8.ofInt 29).toInt32 else if (decide (z = 6) && wt_rd t p [98, 101, 102, 111, 114, 101]) = true then (Int8.ofInt 30).toInt32 else if (decide (z = 3) && wt_rd t p [97, 110, 100]) = true then (Int8.ofInt 31).toInt32 else Int32.ofInt 1) = (Int8.ofInt 28).toInt32 := by rw [if_neg c0, if_neg c1, if_pos c2]
      have g2 : (if (decide (z = 6) && wt_rd t p [97, 108, 119, 97, 121, 115]) = true then (Int8.ofInt 10).toInt32 else if (decide (z = 6) && wt_rd t p [98, 101, 102, 111, 114, 101]) = true then (Int8.ofInt 14).toInt32 else if (decide (z = 5) && wt_rd t p [110, 101, 118, 101, 114]) = true then (Int8.ofInt 11).toInt32 else if (decide (z = 5) && wt_rd t p [117, 110, 116, 105, 108]) = true then (Int8.ofInt 13).toInt32 else if (decide (z = 4) && wt_rd t p [110, 101, 120, 116]) = true then (Int8.ofInt 12).toInt32 else if (decide (z = 3) && wt_rd t p [97, 110, 100]) = true then (Int8.ofInt 15).toInt32 else (Int8.ofInt 51).toInt32) = (Int8.ofInt 12).toInt32 := by rw [if_neg c0, if_neg (show ¬ (decide (z = 6) && wt_rd t p [98, 101, 102, 111, 114, 101]) = true from fun e => by have e1 := of_decide_eq_true (Bool.and_eq_true_iff.mp e).1; have e2 := of_decide_eq_true (Bool.and_eq_true_iff.mp c2).1; omega), if_neg c1, if_neg (show ¬ (decide (z = 5) && wt_rd t p [117, 110, 116, 105, 108]) = true from fun e => by have e1 := of_decide_eq_true (Bool.and_eq_true_iff.mp e).1; have e2 := of_decide_eq_true (Bool.and_eq_true_iff.mp c2).1; omega), if_pos c2]
      rw [g1, g2, if_neg (show ¬ (Int8.ofInt 28).toInt32 = Int32.ofInt 1 by decide)]
      exact ⟨_, _, rfl, rfl, rfl, hpz, fun _ => rfl, (show ¬ (Int8.ofInt 28).toInt32 = 0 by decide), (show ¬ ((Int8.ofInt 28).toInt32 = 22 ∨ (Int8.ofInt 28).toInt32 = 23 ∨ (Int8.ofInt 28).toInt32 = 24 ∨ (Int8.ofInt 28).toInt32 = 25) by decide)⟩
    by_cases c3 : (decide (z = 5) && wt_rd t p [117, 110, 116, 105, 108]) = true
    · have g1 : (if (decide (z = 6) && wt_rd t p [97, 108, 119, 97, 121, 115]) = true then (Int8.ofInt 26).toInt32 else if (decide (z = 5) && wt_rd t p [110, 101, 118, 101, 114]) = true then (Int8.ofInt 27).toInt32 else if (decide (z = 4) && wt_rd t p [110, 101, 120, 116]) = true then (Int8.ofInt 28).toInt32 else if (decide (z = 5) && wt_rd t p [117, 110, 116, 105, 108]) = true then (Int8.ofInt 29).toInt32 else if (decide (z = 6) && wt_rd t p [98, 101, 102, 111, 114, 101]) = true then (Int8.ofInt 30).toInt32 else if (decide (z = 3) && wt_rd t p [97, 110, 100]) = true then (Int8.ofInt 31).toInt32 else Int32.ofInt 1) = (Int8.ofInt 29).toInt32 := by rw [if_neg c0, if_neg c1, if_neg c2, if_pos c3]
      have g2 : (if (decide (z = 6) && wt_rd t p [97, 108, 119, 97, 121, 115]) = true then (Int8.ofInt 10).toInt32 else if (decide (z = 6) && wt_rd t p [98, 101, 102, 111, 114, 101]) = true then (Int8.ofInt 14).toInt32 else if (decide (z = 5) && wt_rd t p [110, 101, 118, 101, 114]) = true then (Int8.ofInt 11).toInt32 else if (decide (z = 5) && wt_rd t p [117, 110, 116, 105, 108]) = true then (Int8.ofInt 13).toInt32 else if (decide (z = 4) && wt_rd t p [110, 101, 120, 116]) = true then (Int8.ofInt 12).toInt32 else if (decide (z = 3) && wt_rd t p [97, 110, 100]) = true then (Int8.ofInt 15).toInt32 else (Int8.ofInt 51).toInt32) = (Int8.ofInt 13).toInt32 := by rw [if_neg c0, if_neg (show ¬ (decide (z = 6) && wt_rd t p [98, 101, 102, 111, 114, 101]) = true from fun e => by have e1 := of_decide_eq_true (Bool.and_eq_true_iff.mp e).1; have e2 := of_decide_eq_true (Bool.and_eq_true_iff.mp c3).1; omega), if_neg c1, if_pos c3]
      rw [g1, g2, if_neg (show ¬ (Int8.ofInt 29).toInt32 = Int32.ofInt 1 by decide)]
      exact ⟨_, _, rfl, rfl, rfl, hpz, fun _ => rfl, (show ¬ (Int8.ofInt 29).toInt32 = 0 by decide), (show ¬ ((Int8.ofInt 29).toInt32 = 22 ∨ (Int8.ofInt 29).toInt32 = 23 ∨ (Int8.ofInt 29).toInt32 = 24 ∨ (Int8.ofInt 29).toInt32 = 25) by decide)⟩
    by_cases c4 : (decide (z = 6) && wt_rd t p [98, 101, 102, 111, 114, 101]) = true
    · have g1 : (if (decide (z = 6) && wt_rd t p [97, 108, 119, 97, 121, 115]) = true then (Int8.ofInt 26).toInt32 else if (decide (z = 5) && wt_rd t p [110, 101, 118, 101, 114]) = true then (Int8.ofInt 27).toInt32 else if (decide (z = 4) && wt_rd t p [110, 101, 120, 116]) = true then (Int8.ofInt 28).toInt32 else if (decide (z = 5) && wt_rd t p [117, 110, 116, 105, 108]) = true then (Int8.ofInt 29).toInt32 else if (decide (z = 6) && wt_rd t p [98, 101, 102, 111, 114, 101]) = true then (Int8.ofInt 30).toInt32 else if (decide (z = 3) && wt_rd t p [97, 110, 100]) = true then (Int8.ofInt 31).toInt32 else Int32.ofInt 1) = (Int8.ofInt 30).toInt32 := by rw [if_neg c0, if_neg c1, if_neg c2, if_neg c3, if_pos c4]
      have g2 : (if (decide (z = 6) && wt_rd t p [97, 108, 119, 97, 121, 115]) = true then (Int8.ofInt 10).toInt32 else if (decide (z = 6) && wt_rd t p [98, 101, 102, 111, 114, 101]) = true then (Int8.ofInt 14).toInt32 else if (decide (z = 5) && wt_rd t p [110, 101, 118, 101, 114]) = true then (Int8.ofInt 11).toInt32 else if (decide (z = 5) && wt_rd t p [117, 110, 116, 105, 108]) = true then (Int8.ofInt 13).toInt32 else if (decide (z = 4) && wt_rd t p [110, 101, 120, 116]) = true then (Int8.ofInt 12).toInt32 else if (decide (z = 3) && wt_rd t p [97, 110, 100]) = true then (Int8.ofInt 15).toInt32 else (Int8.ofInt 51).toInt32) = (Int8.ofInt 14).toInt32 := by rw [if_neg c0, if_pos c4]
      rw [g1, g2, if_neg (show ¬ (Int8.ofInt 30).toInt32 = Int32.ofInt 1 by decide)]
      exact ⟨_, _, rfl, rfl, rfl, hpz, fun _ => rfl, (show ¬ (Int8.ofInt 30).toInt32 = 0 by decide), (show ¬ ((Int8.ofInt 30).toInt32 = 22 ∨ (Int8.ofInt 30).toInt32 = 23 ∨ (Int8.ofInt 30).toInt32 = 24 ∨ (Int8.ofInt 30).toInt32 = 25) by decide)⟩
    by_cases c5 : (decide (z = 3) && wt_rd t p [97, 110, 100]) = true
    · have g1 : (if (decide (z = 6) && wt_rd t p [97, 108, 119, 97, 121, 115]) = true then (Int8.ofInt 26).toInt32 else if (decide (z = 5) && wt_rd t p [110, 101, 118, 101, 114]) = true then (Int8.ofInt 27).toInt32 else if (decide (z = 4) && wt_rd t p [110, 101, 120, 116]) = true then (Int8.ofInt 28).toInt32 else if (decide (z = 5) && wt_rd t p [117, 110, 116, 105, 108]) = true then (Int8.ofInt 29).toInt32 else if (decide (z = 6) && wt_rd t p [98, 101, 102, 111, 114, 101]) = true then (Int8.ofInt 30).toInt32 else if (decide (z = 3) && wt_rd t p [97, 110, 100]) = true then (Int8.ofInt 31).toInt32 else Int32.ofInt 1) = (Int8.ofInt 31).toInt32 := by rw [if_neg c0, if_neg c1, if_neg c2, if_neg c3, if_neg c4, if_pos c5]
      have g2 : (if (decide (z = 6) && wt_rd t p [97, 108, 119, 97, 121, 115]) = true then (Int8.ofInt 10).toInt32 else if (decide (z = 6) && wt_rd t p [98, 101, 102, 111, 114, 101]) = true then (Int8.ofInt 14).toInt32 else if (decide (z = 5) && wt_rd t p [110, 101, 118, 101, 114]) = true then (Int8.ofInt 11).toInt32 else if (decide (z = 5) && wt_rd t p [117, 110, 116, 105, 108]) = true then (Int8.ofInt 13).toInt32 else if (decide (z = 4) && wt_rd t p [110, 101, 120, 116]) = true then (Int8.ofInt 12).toInt32 else if (decide (z = 3) && wt_rd t p [97, 110, 100]) = true then (Int8.ofInt 15).toInt32 else (Int8.ofInt 51).toInt32) = (Int8.ofInt 15).toInt32 := by rw [if_neg c0, if_neg c4, if_neg c1, if_neg c3, if_neg c2, if_pos c5]
      rw [g1, g2, if_neg (show ¬ (Int8.ofInt 31).toInt32 = Int32.ofInt 1 by decide)]
      exact ⟨_, _, rfl, rfl, rfl, hpz, fun _ => rfl, (show ¬ (Int8.ofInt 31).toInt32 = 0 by decide), (show ¬ ((Int8.ofInt 31).toInt32 = 22 ∨ (Int8.ofInt 31).toInt32 = 23 ∨ (Int8.ofInt 31).toInt32 = 24 ∨ (Int8.ofInt 31).toInt32 = 25) by decide)⟩
    have g1 : (if (decide (z = 6) && wt_rd t p [97, 108, 119, 97, 121, 115]) = true then (Int8.ofInt 26).toInt32 else if (decide (z = 5) && wt_rd t p [110, 101, 118, 101, 114]) = true then (Int8.ofInt 27).toInt32 else if (decide (z = 4) && wt_rd t p [110, 101, 120, 116]) = true then (Int8.ofInt 28).toInt32 else if (decide (z = 5) && wt_rd t p [117, 110, 116, 105, 108]) = true then (Int8.ofInt 29).toInt32 else if (decide (z = 6) && wt_rd t p [98, 101, 102, 111, 114, 101]) = true then (Int8.ofInt 30).toInt32 else if (decide (z = 3) && wt_rd t p [97, 110, 100]) = true then (Int8.ofInt 31).toInt32 else Int32.ofInt 1) = Int32.ofInt 1 := by rw [if_neg c0, if_neg c1, if_neg c2, if_neg c3, if_neg c4, if_neg c5]
    have g2 : (if (decide (z = 6) && wt_rd t p [97, 108, 119, 97, 121, 115]) = true then (Int8.ofInt 10).toInt32 else if (decide (z = 6) && wt_rd t p [98, 101, 102, 111, 114, 101]) = true then (Int8.ofInt 14).toInt32 else if (decide (z = 5) && wt_rd t p [110, 101, 118, 101, 114]) = true then (Int8.ofInt 11).toInt32 else if (decide (z = 5) && wt_rd t p [117, 110, 116, 105, 108]) = true then (Int8.ofInt 13).toInt32 else if (decide (z = 4) && wt_rd t p [110, 101, 120, 116]) = true then (Int8.ofInt 12).toInt32 else if (decide (z = 3) && wt_rd t p [97, 110, 100]) = true then (Int8.ofInt 15).toInt32 else (Int8.ofInt 51).toInt32) = (Int8.ofInt 51).toInt32 := by rw [if_neg c0, if_neg c4, if_neg c1, if_neg c3, if_neg c2, if_neg c5]
    rw [g1, g2, if_pos rfl]
    exact ⟨_, _, rfl, rfl, rfl, hpz, fun w => (w rfl).elim, (show ¬ Int32.ofInt 1 = 0 by decide), (show ¬ (Int32.ofInt 1 = 22 ∨ Int32.ofInt 1 = 23 ∨ Int32.ofInt 1 = 24 ∨ Int32.ofInt 1 = 25) by decide)⟩
theorem dig_no {t : Nat → Int32} {i : Nat} {c : Int32} (h : t i = c) (hc : ¬ (48 ≤ c.toInt ∧ c.toInt ≤ 57)) : wt_dig t i = false := by
  unfold wt_dig
  rw [h]
  exact decide_eq_false hc
theorem cnt_no {t : Nat → Int32} {n p a : Nat} {k : Int32} (h : ¬ (wt_dig t (p + a) = true ∧ t (p + a + 1) = (Int8.ofInt 93).toInt32)) : pr_cnt t n k p a = pr_b n p := if_neg h
theorem cnt_ye {t : Nat → Int32} {n p a : Nat} {k : Int32} (h : wt_dig t (p + a) = true ∧ t (p + a + 1) = (Int8.ofInt 93).toInt32) : pr_cnt t n k p a = (some (k, p, t (p + a) - (Int8.ofInt 48).toInt32, t (p + a) - (Int8.ofInt 48).toInt32, 0), p + (a + 2)) := if_pos h
/-- a bracket that is one digit behind its head -/
theorem br_cnt {t : Nat → Int32} {n p a i i2 : Nat} {k k2 kc lo hi : Int32} {d ok : Bool} (hi1 : i = p + a) (hk40 : ¬ k = (Int8.ofInt 40).toInt32) (hk41 : ¬ k = (Int8.ofInt 41).toInt32) (hd : d = br_d t i k) (hC : br_C t i k d = (i2, k2, lo, hi)) (hok : ok = br_ok t i2 k2 d) : (ok = true → k2 = k ∧ pr_cnt t n kc p a = (some (kc, p, lo, hi, 0), i2 + 1)) ∧ (ok = false → pr_cnt t n kc p a = pr_b n p) := by
  subst hi1
  have hd2 : d = wt_dig t (p + a) := by
    rw [hd]
    unfold br_d
    rw [decide_eq_true hk41, Bool.true_and]
  unfold br_C at hC
  by_cases e : d = true
  · rw [if_pos e, if_neg hk40] at hC
    cases hC
    refine ⟨fun o => ?_, fun o => ?_⟩
    · rw [hok] at o
      have o := of_decide_eq_true o
      refine ⟨rfl, ?_⟩
      rw [cnt_ye ⟨by rw [← hd2]; exact e, o.1⟩]
      rfl
    · rw [hok] at o
      have o := of_decide_eq_false o
      exact cnt_no (fun z => o ⟨z.2, Or.inl e⟩)
  · rw [if_neg e] at hC
    cases hC
    refine ⟨fun o => ?_, fun o => ?_⟩
    · rw [hok] at o
      have o := of_decide_eq_true o
      exact (o.2.elim e (fun z => z.elim hk40 hk41)).elim
    · exact cnt_no (fun z => e (by rw [hd2]; exact z.1))
/-- a bracket, as both read it -/
theorem br_brk {t : Nat → Int32} {n p i i2 : Nat} {k k2 lo hi : Int32} {d ok : Bool} (h91 : t p = Int32.ofNat 91) (hA : br_A t p = (i, k)) (hd : d = br_d t i k) (hC : br_C t i k d = (i2, k2, lo, hi)) (hok : ok = br_ok t i2 k2 d) : (ok = true → ∃ kc, pr_brk t n p = (some (kc, p, lo, hi, 0), i2 + 1) ∧ pr_mc (kc, p, lo, hi, 0) = k2 ∧ ¬ kc = 0 ∧ ¬ kc = 1) ∧ (ok = false → pr_brk t n p = pr_b n p) := by
  have r3 : ∀ b c, wt_rd t p [91, b, c] = true ↔ t (p + 1) = Int32.ofNat b ∧ t (p + 2) = Int32.ofNat c := fun b c => by rw [rd3]; exact ⟨fun z => z.2, fun z => ⟨h91, z⟩⟩
  have r2 : ∀ b, wt_rd t p [91, b] = true ↔ t (p + 1) = Int32.ofNat b := fun b => by rw [rd2]; exact ⟨fun z => z.2, fun z => ⟨h91, z⟩⟩
  have ne : ∀ {x y : Int32}, ¬ x = y → t (p + 1) = x → ¬ t (p + 1) = y := fun h1 h2 h3 => h1 (by rw [← h2, h3])
  unfold br_A at hA
  unfold pr_brk
  by_cases x1 : t (p + 1) = (Int8.ofInt 42).toInt32
  · rw [if_pos x1] at hA
    cases hA
    rw [if_neg (show ¬ wt_rd t p [91, 43, 93] = true from fun z => ne (by decide) x1 ((r3 43 93).mp z).1), if_pos ((r2 42).mpr x1)]
    have hd2 : d = wt_dig t (p + 2) := by rw [hd]; unfold br_d; rw [decide_eq_true (show ¬ (Int8.ofInt 40).toInt32 = (Int8.ofInt 41).toInt32 by decide), Bool.true_and]
    by_cases x2 : t (p + 2) = Int32.ofNat 93
    · rw [if_pos ((r3 42 93).mpr ⟨x1, x2⟩)]
      have ed : d = false := by rw [hd2]; exact dig_no x2 (by decide)
      unfold br_C at hC
      rw [if_neg (by rw [ed]; decide)] at hC
      cases hC
      refine ⟨fun _ => ⟨(Int8.ofInt 20).toInt32, rfl, rfl, by decide, by decide⟩, fun o => ?_⟩
      rw [hok] at o
      exact (of_decide_eq_false o ⟨x2, Or.inr (Or.inl rfl)⟩).elim
    · rw [if_neg (show ¬ wt_rd t p [91, 42, 93] = true from fun z => x2 ((r3 42 93).mp z).2)]
      unfold br_C at hC
      by_cases e : d = true
      · have e2 : wt_dig t (p + 2) = true := by rw [← hd2]; exact e
        rw [if_pos e, if_pos rfl] at hC
        by_cases x3 : t (p + 2 + 1) = (Int8.ofInt 46).toInt32 ∧ t (p + 2 + 2) = (Int8.ofInt 46).toInt32
        · rw [if_pos (rd2.mpr (show t (p + 3) = Int32.ofNat 46 ∧ t (p + 3 + 1) = Int32.ofNat 46 from x3))]
          unfold pr_rng
          by_cases x4 : wt_dig t (p + 2 + 3) = true
          · rw [if_pos ⟨x3.1, x3.2, x4⟩] at hC
            cases hC
            refine ⟨fun o => ?_, fun o => ?_⟩
            · rw [hok] at o
              have o := of_decide_eq_true o
              rw [if_pos ⟨e2, x4, o.1⟩]
              exact ⟨_, rfl, rfl, by decide, by decide⟩
            · rw [hok] at o
              have o := of_decide_eq_false o
              rw [if_neg (fun z => o ⟨z.2.2, Or.inl e⟩)]
          · rw [if_neg (fun z => x4 z.2.2)] at hC
            cases hC
            refine ⟨fun o => ?_, fun o => ?_⟩
            · rw [hok] at o
              have o := of_decide_eq_true o
              rw [x3.1] at o
              exact absurd o.1 (by decide)
            · rw [if_neg (fun z => x4 z.2.1)]
        · rw [if_neg (fun z => x3 (show t (p + 3) = Int32.ofNat 46 ∧ t (p + 3 + 1) = Int32.ofNat 46 from rd2.mp z))]
          rw [if_neg (fun z => x3 ⟨z.1, z.2.1⟩)] at hC
          cases hC
          refine ⟨fun o => ?_, fun o => ?_⟩
          · rw [hok] at o
            have o := of_decide_eq_true o
            rw [cnt_ye ⟨e2, o.1⟩]
            exact ⟨_, rfl, rfl, by decide, by decide⟩
          · rw [hok] at o
            have o := of_decide_eq_false o
            exact cnt_no (fun z => o ⟨z.2, Or.inl e⟩)
      · rw [if_neg e] at hC
        have e2 : ¬ wt_dig t (p + 2) = true := by rw [← hd2]; exact e
        cases hC
        refine ⟨fun o => ?_, fun o => ?_⟩
        · rw [hok] at o
          have o := of_decide_eq_true o
          exact (x2 o.1).elim
        · split
          · unfold pr_rng
            rw [if_neg (fun z => e2 z.1)]
          · exact cnt_no (fun z => e2 z.1)
  rw [if_neg x1] at hA
  have n42 : ∀ c, ¬ wt_rd t p [91, 42, c] = true := fun c z => x1 ((r3 42 c).mp z).1
  rw [if_neg (n42 93), if_neg (show ¬ wt_rd t p [91, 42] = true from fun z => x1 ((r2 42).mp z))]
  by_cases x2 : t (p + 1) = (Int8.ofInt 43).toInt32
  · rw [if_pos x2] at hA
    cases hA
    have ed : d = false := by rw [hd]; unfold br_d; rw [decide_eq_false (fun z => z rfl), Bool.false_and]
    unfold br_C at hC
    rw [if_neg (by rw [ed]; decide)] at hC
    cases hC
    rw [if_neg (show ¬ wt_rd t p [91, 45, 62] = true from fun z => ne (by decide) x2 ((r3 45 62).mp z).1), if_neg (show ¬ wt_rd t p [91, 61] = true from fun z => ne (by decide) x2 ((r2 61).mp z))]
    by_cases x3 : t (p + 2) = Int32.ofNat 93
    · rw [if_pos ((r3 43 93).mpr ⟨x2, x3⟩)]
      refine ⟨fun _ => ⟨(Int8.ofInt 21).toInt32, rfl, rfl, by decide, by decide⟩, fun o => ?_⟩
      rw [hok] at o
      exact (of_decide_eq_false o ⟨x3, Or.inr (Or.inr rfl)⟩).elim
    · rw [if_neg (show ¬ wt_rd t p [91, 43, 93] = true from fun z => x3 ((r3 43 93).mp z).2)]
      refine ⟨fun o => ?_, fun o => ?_⟩
      · rw [hok] at o
        exact (x3 (of_decide_eq_true o).1).elim
      · exact cnt_no (fun z => by rw [dig_no x2 (by decide)] at z; cases z.1)
  rw [if_neg x2] at hA
  rw [if_neg (show ¬ wt_rd t p [91, 43, 93] = true from fun z => x2 ((r3 43 93).mp z).1)]
  have key : ∀ (a : Nat) (kc : Int32), i = p + a → ¬ k = (Int8.ofInt 40).toInt32 → ¬ k = (Int8.ofInt 41).toInt32 → pr_mc (kc, p, lo, hi, 0) = k → ¬ kc = 0 → ¬ kc = 1 → (ok = true → ∃ kc2, pr_cnt t n kc p a = (some (kc2, p, lo, hi, 0), i2 + 1) ∧ pr_mc (kc2, p, lo, hi, 0) = k2 ∧ ¬ kc2 = 0 ∧ ¬ kc2 = 1) ∧ (ok = false → pr_cnt t n kc p a = pr_b n p) := by
    intro a kc h1 h2 h3 h4 h5 h6
    obtain ⟨g1, g2⟩ := br_cnt (n := n) (kc := kc) h1 h2 h3 hd hC hok
    refine ⟨fun o => ?_, g2⟩
    obtain ⟨g3, g4⟩ := g1 o
    exact ⟨kc, g4, by rw [g3]; exact h4, h5, h6⟩
  by_cases x3 : t (p + 1) = (Int8.ofInt 61).toInt32
  · rw [if_pos x3] at hA
    rw [if_neg (show ¬ wt_rd t p [91, 45, 62] = true from fun z => ne (by decide) x3 ((r3 45 62).mp z).1), if_pos ((r2 61).mpr x3)]
    have ea : i = p + 2 := (congrArg Prod.fst hA).symm
    have ek : k = (Int8.ofInt 44).toInt32 := (congrArg Prod.snd hA).symm
    exact key 2 _ ea (by rw [ek]; decide) (by rw [ek]; decide) (by rw [ek]; rfl) (by decide) (by decide)
  rw [if_neg x3] at hA
  rw [if_neg (show ¬ wt_rd t p [91, 61] = true from fun z => x3 ((r2 61).mp z))]
  by_cases x4 : t (p + 1) = (Int8.ofInt 45).toInt32 ∧ t (p + 2) = (Int8.ofInt 62).toInt32
  · rw [if_pos x4] at hA
    rw [if_pos ((r3 45 62).mpr x4)]
    have ea : i = p + 3 := (congrArg Prod.fst hA).symm
    have ek : k = (Int8.ofInt 43).toInt32 := (congrArg Prod.snd hA).symm
    exact key 3 _ ea (by rw [ek]; decide) (by rw [ek]; decide) (by rw [ek]; rfl) (by decide) (by decide)
  · rw [if_neg x4] at hA
    rw [if_neg (show ¬ wt_rd t p [91, 45, 62] = true from fun z => x4 ((r3 45 62).mp z))]
    have ea : i = p + 1 := (congrArg Prod.fst hA).symm
    have ek : k = (Int8.ofInt 45).toInt32 := (congrArg Prod.snd hA).symm
    exact key 1 _ ea (by rw [ek]; decide) (by rw [ek]; decide) (by rw [ek]; rfl) (by decide) (by decide)
