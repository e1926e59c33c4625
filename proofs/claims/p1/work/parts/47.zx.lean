/-! ===== closed runs ===== -/
def zk_OT (i : Nat) : Option pz_C := if i = 0 then none else pt_look pt_OTL i
def zk_ST (o i : Nat) : Option Value := match pt_two pt_STL o i with
  | some v => if v = .ref 1099511627783 then none else some v
  | none => none
theorem zk_OT_ok (sc : pt_Sc) : ∀ i c, zk_OT i = some c → pt_OT sc i = some c := by
  intro i c h
  unfold zk_OT at h
  unfold pt_OT
  split at h
  · cases h
  · rename_i hi
    rw [if_neg hi]
    exact h
theorem zk_ST_ok (fv : Value) : ∀ o i v, zk_ST o i = some v → pt_STf fv o i = some v := by
  intro o i v h
  unfold zk_ST at h
  unfold pt_STf
  split at h
  · rename_i v0 hv
    split at h
    · cases h
    · rename_i hne
      cases h
      rw [hv]
      show some (pt_fv fv v) = some v
      unfold pt_fv
      rw [if_neg hne]
  · cases h
