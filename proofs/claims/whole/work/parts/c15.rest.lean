/-! ===== an expression, step by step ===== -/
section RSS
variable {ts : List wt_t} {n : Nat} {nm : ds_n} {A B : Nat}
theorem ds_rm_n {k pl : Nat} {x : ds_q} (hn : x.1.2 = none) : ds_rm k pl x = if 60 < x.2.length + k then (false, ((x.1.1, some pl), x.2)) else (true, x) := by
  unfold ds_rm
  rw [hn]
theorem ds_and_room {w : Nat} {u v : Int32} {x : ds_q} (hn : x.1.2 = none) (hl : x.2.length < 60) : ds_and A B w u v x = (Int32.ofNat (ds_lt A B x.2.length), (x.1, x.2 ++ [(u, v)])) := by
  have e : ds_rm 1 w x = (true, x) := by rw [ds_rm_n hn, if_neg (by omega)]
  unfold ds_and
  rw [e]
  rfl
theorem ds_and_full {w : Nat} {u v : Int32} {x : ds_q} (hn : x.1.2 = none) (hl : 60 ≤ x.2.length) : ds_and A B w u v x = (Int32.ofInt 0, ((x.1.1, some w), x.2)) := by
  have e : ds_rm 1 w x = (false, ((x.1.1, some w), x.2)) := by rw [ds_rm_n hn, if_pos (by omega)]
  unfold ds_and
  rw [e]
  rfl
theorem dm_gt_and {w : Nat} {u v : Int32} {x : ds_q} (hn : x.1.2 = none) (hl : x.2.length ≤ 60) : dm_gt A B w u v x = ds_and A B w u v x := by
  by_cases hc : x.2.length = 60
  · rw [ds_and_full hn (by omega)]
    unfold dm_gt
    rw [if_pos hc]
    unfold tk_refAt
    rw [hn]
  · rw [ds_and_room hn (by omega)]
    unfold dm_gt
    rw [if_neg hc]
theorem x_0 (v : Int32) : v ^^^ Int32.ofInt 0 = v := by
  apply Int32.toBitVec_inj.mp
  rw [Int32.toBitVec_xor]
  have : (Int32.ofInt 0).toBitVec = 0#32 := rfl
  rw [this]
  simp
theorem dm_lv_x {r : dm_r} {v : Int32} (ht : dm_tn r) (hv : ds_ln v) : dm_lv r.2.2.2.2.2 v = v ^^^ r.2.2.2.2.2 := by
  unfold dm_lv
  rcases ht with h | h
  · rw [if_pos (by rw [h]; rfl), h, x_0]
  · rw [if_neg (by rw [h]; decide), h, ds_op_x hv]
theorem ds_ln_op {v : Int32} (hv : ds_ln v) (hb : v.toInt < 999999) : ds_ln (v ^^^ Int32.ofInt 1) := by
  obtain ⟨h1, h2⟩ := ds_ln_of hv
  obtain ⟨a1, a2⟩ := ds_op_nat v.toNatClampNeg (by omega)
  rw [← h1] at a2
  rw [a2]
  have h3 : v.toNatClampNeg < 999999 := by rw [wi_nat]; unfold ds_ln at hv; omega
  unfold ds_ln
  split
  · rw [wi_on (by omega)]; omega
  · rw [wi_on (by omega)]; omega
/-- a small literal -/
def ds_lm (x : Int32) : Prop := 0 ≤ x.toInt ∧ x.toInt < 500
theorem ds_lm_n {x : Int32} (h : ds_lm x) : ds_ln x := ⟨h.1, by have := h.2; omega⟩
theorem ds_lm_x {x : Int32} (h : ds_lm x) (he : x.toInt < 498) : ds_lm (x ^^^ Int32.ofInt 1) := by
  obtain ⟨h1, h2⟩ := ds_ln_of (ds_lm_n h)
  obtain ⟨a1, a2⟩ := ds_op_nat x.toNatClampNeg (by omega)
  rw [← h1] at a2
  rw [a2]
  have h3 : x.toNatClampNeg < 498 := by rw [wi_nat]; omega
  unfold ds_lm
  split
  · rw [wi_on (by omega)]; omega
  · rw [wi_on (by omega)]; omega
/-- literals of a design: below 2 * 80 -/
def ds_lp (x : Int32) : Prop := 0 ≤ x.toInt ∧ x.toInt < 160
theorem ds_lp_n {x : Int32} (h : ds_lp x) : ds_ln x := ⟨h.1, by have := h.2; omega⟩
theorem ds_lp_x {x : Int32} (h : ds_lp x) : ds_lp (x ^^^ Int32.ofInt 1) := by
  obtain ⟨h1, h2⟩ := ds_ln_of (ds_lp_n h)
  obtain ⟨a1, a2⟩ := ds_op_nat x.toNatClampNeg (by omega)
  rw [← h1] at a2
  rw [a2]
  have h3 : x.toNatClampNeg < 160 := by have := h.2; have := h.1; rw [wi_nat]; omega
  unfold ds_lp
  split
  · rename_i he
    rw [wi_on (by omega)]
    omega
  · rw [wi_on (by omega)]
    omega
theorem ds_lp_t {x : Int32} {r : dm_r} (ht : dm_tn r) (h : ds_lp x) : ds_lp (x ^^^ r.2.2.2.2.2) := by
  rcases ht with e | e
  · rw [e, x_0]; exact h
  · rw [e]; exact ds_lp_x h
theorem ds_lp_lt {j : Nat} (hA : A ≤ 3) (hB : B ≤ 5) (hj : j ≤ 62) : ds_lp (Int32.ofNat (ds_lt A B j)) := by
  unfold ds_lp ds_lt
  rw [wi_on (by omega)]
  omega
theorem ds_op_lt {j : Nat} (hA : A ≤ 3) (hB : B ≤ 5) (hj : j ≤ 62) : ds_op (Int32.ofNat (ds_lt A B j)) = Int32.ofNat (ds_lt A B j) + Int32.ofInt 1 := by
  obtain ⟨a1, _⟩ := ds_op_nat (ds_lt A B j) (by unfold ds_lt; omega)
  rw [a1, if_pos (by unfold ds_lt; omega)]
  exact (wi_ona _ 1).symm
/-- registers that are sound where an operand is due -/
def dm_vr (r : dm_r) : Prop := dm_tn r ∧ (r.2.2.2.1 = Int32.ofInt (-1) ∨ (ds_lp r.2.2.2.1 ∧ dm_ok r.2.2.2.2.1)) ∧ (r.1 = Int32.ofInt (-1) ∨ (ds_lp r.1 ∧ dm_ok r.2.2.1 ∧ (r.2.1 = (Int8.ofInt 22).toInt32 ∨ r.2.1 = (Int8.ofInt 76).toInt32)))
/-- where a sign is due -/
def dm_vs (r : dm_r) : Prop := r.2.2.2.2.2 = Int32.ofInt 0 ∧ ds_lp r.2.2.2.1 ∧ (r.1 = Int32.ofInt (-1) ∨ (ds_lp r.1 ∧ dm_ok r.2.2.1 ∧ (r.2.1 = (Int8.ofInt 22).toInt32 ∨ r.2.1 = (Int8.ofInt 76).toInt32)))
theorem lp_nn {x : Int32} (h : ds_lp x) : ¬ x < 0 := by
  rw [wi_lt, wi_0]
  have := h.1
  omega
/-- a factor in the class and in the reference -/
theorem dm_fac_rel {v : Int32} {x : ds_q} {r : dm_r} (hA : A ≤ 3) (hB : B ≤ 5) (hn : x.1.2 = none) (hl : x.2.length ≤ 60) (hr : dm_vr r) (hv : ds_lp v) : (∃ g u, dm_fac A B v x r = ((x.1, g), (r.1, r.2.1, r.2.2.1, u, r.2.2.2.2.1, Int32.ofInt 0)) ∧ ds_lp u ∧ ∀ s : wt_q, s.2 = none → dm_pp A B r (v ^^^ r.2.2.2.2.2, (s, x.2)) = (u, (s, g))) ∨ (∃ z, (dm_fac A B v x r).1.1 = (x.1.1, some z) ∧ ∀ s : wt_q, s.2 = none → (dm_pp A B r (v ^^^ r.2.2.2.2.2, (s, x.2))).2.1.2 = some z) := by
  obtain ⟨ht, hp, hs⟩ := hr
  have hlv := dm_lv_x ht (ds_lp_n hv)
  unfold dm_fac
  rw [hlv]
  rcases hp with hp | ⟨hp, ho⟩
  · have hneg : r.2.2.2.1 < 0 := by rw [hp]; decide
    rw [if_pos hneg]
    refine Or.inl ⟨x.2, v ^^^ r.2.2.2.2.2, rfl, ds_lp_t ht hv, fun s hs => ?_⟩
    unfold dm_pp
    rw [if_pos hneg]
  · have hnn := lp_nn hp
    rw [if_neg hnn]
    rw [dm_gt_and hn hl]
    by_cases hc : x.2.length < 60
    · rw [ds_and_room hn hc]
      refine Or.inl ⟨_, _, rfl, ds_lp_lt hA hB (by omega), fun s hs => ?_⟩
      unfold dm_pp
      rw [if_neg hnn]
      exact ds_and_room (x := (s, x.2)) hs hc
    · rw [ds_and_full hn (by omega)]
      refine Or.inr ⟨_, rfl, fun s hs => ?_⟩
      unfold dm_pp
      rw [if_neg hnn]
      show (ds_and A B _ _ (v ^^^ r.2.2.2.2.2) (s, x.2)).2.1.2 = _
      rw [ds_and_full (x := (s, x.2)) hs (by show 60 ≤ x.2.length; omega)]
theorem dm_gt_some {w z : Nat} {u v : Int32} {x : ds_q} (h : x.1.2 = some z) : (dm_gt A B w u v x).2.1.2 = some z := by
  unfold dm_gt
  split
  · show (tk_refAt w x.1).2 = some z
    unfold tk_refAt
    rw [h]
    exact h
  · exact h
/-- a part's end in the class and in the reference -/
theorem dm_end_rel {x : ds_q} {r : dm_r} (hA : A ≤ 3) (hB : B ≤ 5) (hn : x.1.2 = none) (hl : x.2.length ≤ 60) (hr : dm_vs r) : (∃ g u, dm_end A B x r = ((x.1, g), (u, r.2.1, r.2.2.1, Int32.ofInt (-1), r.2.2.2.2.1, Int32.ofInt 0)) ∧ ds_lp u ∧ g.length ≤ 60 ∧ dm_ss A B r (r.2.2.2.1, x) = (u, (x.1, g))) ∨ (∃ z, (dm_end A B x r).1.1.2 = some z ∧ (dm_ss A B r (r.2.2.2.1, x)).2.1.2 = some z) := by
  obtain ⟨ht, hp, hs⟩ := hr
  unfold dm_end dm_ss
  rcases hs with hs | ⟨hs, ho, hsg⟩
  · have hneg : r.1 < 0 := by rw [hs]; decide
    rw [if_pos hneg, if_pos hneg]
    refine Or.inl ⟨x.2, r.2.2.2.1, ?_, hp, hl, rfl⟩
    unfold dm_sum
    rw [ht]
  · have hnn := lp_nn hs
    rw [if_neg hnn, if_neg hnn]
    have o1 := ds_op_x (ds_lp_n hs)
    have o2 := ds_op_x (ds_lp_n hp)
    have hc60 : ∀ k, ds_rm k r.2.2.1.toNatClampNeg x = if 60 < x.2.length + k then (false, ((x.1.1, some r.2.2.1.toNatClampNeg), x.2)) else (true, x) := fun k => by
      unfold ds_rm
      rw [hn]
    by_cases hk : r.2.1 = (Int8.ofInt 22).toInt32
    · rw [if_pos hk]
      have ek : dm_sk r.2.1 = (Int8.ofInt 8).toInt32 := by unfold dm_sk; rw [if_pos hk]
      have exo : ds_XO A B (dm_sk r.2.1) r.2.2.1.toNatClampNeg r.1 r.2.2.2.1 x = ds_or A B r.2.2.1.toNatClampNeg r.1 r.2.2.2.1 x := by
        unfold ds_XO
        rw [ek, if_pos rfl]
      have exo : ds_XO A B (dm_sk r.2.1) r.2.2.1.toNatClampNeg r.1 (r.2.2.2.1, x).1 (r.2.2.2.1, x).2 = ds_or A B r.2.2.1.toNatClampNeg r.1 r.2.2.2.1 x := exo
      rw [exo]
      unfold dm_o1 ds_or
      rw [dm_gt_and hn hl, hc60]
      by_cases hc : x.2.length < 60
      · rw [ds_and_room hn hc, if_neg (show ¬ 60 < x.2.length + 1 by omega)]
        refine Or.inl ⟨x.2 ++ [(ds_op r.1, ds_op r.2.2.2.1)], ds_op (Int32.ofNat (ds_lt A B x.2.length)), ?_, ?_, ?_, ?_⟩
        · unfold dm_sum
          rw [ht]
        · rw [ds_op_x (ds_lp_n (ds_lp_lt hA hB (by omega)))]
          exact ds_lp_x (ds_lp_lt hA hB (by omega))
        · rw [List.length_append]; simp only [List.length_singleton]; omega
        · show (if true = true then _ else _) = _
          rw [if_pos rfl, ds_op_lt hA hB (by omega), o1, o2]
      · rw [ds_and_full hn (by omega), if_pos (show 60 < x.2.length + 1 by omega)]
        exact Or.inr ⟨_, rfl, rfl⟩
    · rw [if_neg hk]
      have ek : dm_sk r.2.1 = (Int8.ofInt 38).toInt32 := by unfold dm_sk; rw [if_neg hk]
      have exo : ds_XO A B (dm_sk r.2.1) r.2.2.1.toNatClampNeg r.1 (r.2.2.2.1, x).1 (r.2.2.2.1, x).2 = ds_xor A B r.2.2.1.toNatClampNeg r.1 r.2.2.2.1 x := by
        unfold ds_XO
        rw [ek, if_neg (by decide)]
      rw [exo]
      unfold ds_xor
      rw [hc60]
      by_cases hc : 57 < x.2.length
      · rw [if_pos (show 60 < x.2.length + 3 by omega)]
        refine Or.inr ⟨r.2.2.1.toNatClampNeg, ?_, rfl⟩
        have e0 : (dm_x0 r.2.2.1.toNatClampNeg x).1.2 = some r.2.2.1.toNatClampNeg := by
          unfold dm_x0
          rw [if_pos hc]
          show (tk_refAt _ x.1).2 = _
          unfold tk_refAt
          rw [hn]
        show (dm_x3 A B r.2.2.1.toNatClampNeg x r).2.1.2 = _
        unfold dm_x3
        apply dm_gt_some
        unfold dm_x2
        apply dm_gt_some
        unfold dm_x1
        apply dm_gt_some
        exact e0
      · rw [if_neg (show ¬ 60 < x.2.length + 3 by omega)]
        have e0 : dm_x0 r.2.2.1.toNatClampNeg x = x := by unfold dm_x0; rw [if_neg hc]
        have e1 : dm_x1 A B r.2.2.1.toNatClampNeg x r = (Int32.ofNat (ds_lt A B x.2.length), (x.1, x.2 ++ [(r.1, ds_op r.2.2.2.1)])) := by
          unfold dm_x1
          rw [e0, dm_gt_and hn hl, ds_and_room hn (by omega)]
        have l1 : (x.2 ++ [(r.1, ds_op r.2.2.2.1)]).length = x.2.length + 1 := by rw [List.length_append]; rfl
        have e2 : dm_x2 A B r.2.2.1.toNatClampNeg x r = (Int32.ofNat (ds_lt A B (x.2.length + 1)), (x.1, x.2 ++ [(r.1, ds_op r.2.2.2.1)] ++ [(ds_op r.1, r.2.2.2.1)])) := by
          unfold dm_x2
          rw [e1, dm_gt_and (x := (x.1, x.2 ++ [(r.1, ds_op r.2.2.2.1)])) hn (by rw [l1]; omega), ds_and_room (x := (x.1, x.2 ++ [(r.1, ds_op r.2.2.2.1)])) hn (by rw [l1]; omega)]
          show (Int32.ofNat (ds_lt A B (x.2 ++ [(r.1, ds_op r.2.2.2.1)]).length), _) = _
          rw [l1]
        have l2 : (x.2 ++ [(r.1, ds_op r.2.2.2.1)] ++ [(ds_op r.1, r.2.2.2.1)]).length = x.2.length + 2 := by rw [List.length_append, l1]; rfl
        have e3 : dm_x3 A B r.2.2.1.toNatClampNeg x r = (Int32.ofNat (ds_lt A B (x.2.length + 2)), (x.1, x.2 ++ [(r.1, ds_op r.2.2.2.1)] ++ [(ds_op r.1, r.2.2.2.1)] ++ [(ds_op (Int32.ofNat (ds_lt A B x.2.length)), ds_op (Int32.ofNat (ds_lt A B (x.2.length + 1))))])) := by
          unfold dm_x3
          rw [e1, e2, dm_gt_and (x := (x.1, x.2 ++ [(r.1, ds_op r.2.2.2.1)] ++ [(ds_op r.1, r.2.2.2.1)])) hn (by rw [l2]; omega), ds_and_room (x := (x.1, x.2 ++ [(r.1, ds_op r.2.2.2.1)] ++ [(ds_op r.1, r.2.2.2.1)])) hn (by rw [l2]; omega)]
          show (Int32.ofNat (ds_lt A B (x.2 ++ [(r.1, ds_op r.2.2.2.1)] ++ [(ds_op r.1, r.2.2.2.1)]).length), _) = _
          rw [l2]
        rw [e3]
        refine Or.inl ⟨x.2 ++ [(r.1, ds_op r.2.2.2.1)] ++ [(ds_op r.1, r.2.2.2.1)] ++ [(ds_op (Int32.ofNat (ds_lt A B x.2.length)), ds_op (Int32.ofNat (ds_lt A B (x.2.length + 1))))], ds_op (Int32.ofNat (ds_lt A B (x.2.length + 2))), ?_, ?_, ?_, ?_⟩
        · unfold dm_sum
          rw [ht]
        · rw [ds_op_x (ds_lp_n (ds_lp_lt hA hB (by omega)))]
          exact ds_lp_x (ds_lp_lt hA hB (by omega))
        · rw [List.length_append, l2]; simp only [List.length_singleton]; omega
        · show (if true = true then _ else _) = _
          rw [if_pos rfl, ds_op_lt hA hB (by omega), o1, o2, ds_op_x (ds_lp_n (ds_lp_lt hA hB (show x.2.length ≤ 62 by omega))), ds_op_x (ds_lp_n (ds_lp_lt hA hB (show x.2.length + 1 ≤ 62 by omega)))]
end RSS
