/-! ===== how far the tokens of a design text lie apart ===== -/
/-- how many signs a token takes at least -/
def ds_w (k : Int32) : Nat := if k = (Int8.ofInt 33).toInt32 ∨ k = (Int8.ofInt 34).toInt32 then 5 else if k = (Int8.ofInt 35).toInt32 then 4 else 1
def ds_tokf (p p2 : Nat) (x : wt_t) : Prop := x.2.1 = p ∧ ¬ x.1 = 0 ∧ ds_vk x.1 ∧ p + ds_w x.1 ≤ p2
theorem ds_k_f {x : Int} {k : Int32} (h : ds_k x = some k) : ¬ k = 0 ∧ ds_vk k ∧ ds_w k = 1 := by
  unfold ds_k at h
  repeat' split at h
  all_goals first
    | (cases h; refine ⟨by decide, ?_, by decide⟩; unfold ds_vk; decide)
    | cases h
