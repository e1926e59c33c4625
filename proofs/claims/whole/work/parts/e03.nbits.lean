/-! ===== bits of long numbers ===== -/
def nb (x : Int64) (k : Nat) : Bool := x.toBitVec.getLsbD k
theorem nb_and (x y : Int64) (k : Nat) : nb (x &&& y) k = (nb x k && nb y k) := by
  unfold nb
  rw [Int64.toBitVec_and, BitVec.getLsbD_and]
theorem nb_or (x y : Int64) (k : Nat) : nb (x ||| y) k = (nb x k || nb y k) := by
  unfold nb
  rw [Int64.toBitVec_or, BitVec.getLsbD_or]
theorem nb_xor (x y : Int64) (k : Nat) : nb (x ^^^ y) k = (nb x k ^^ nb y k) := by
  unfold nb
  rw [Int64.toBitVec_xor, BitVec.getLsbD_xor]
theorem nb_hi {x : Int64} {k : Nat} (h : 64 ≤ k) : nb x k = false := BitVec.getLsbD_of_ge _ _ h
theorem nb_0 (k : Nat) : nb 0 k = false := by
  unfold nb
  exact BitVec.getLsbD_zero
theorem nb_ext {x y : Int64} (h : ∀ k, k < 64 → nb x k = nb y k) : x = y := Int64.toBitVec_inj.mp (BitVec.eq_of_getLsbD_eq h)
theorem nb_z {x : Int64} : x = 0 ↔ ∀ k, k < 64 → nb x k = false := by
  constructor
  · intro h k _
    rw [h, nb_0]
  · intro h
    exact nb_ext (fun k hk => by rw [h k hk, nb_0])
theorem nb_nz {x : Int64} : ¬ x = 0 ↔ ∃ k, k < 64 ∧ nb x k = true := by
  constructor
  · intro h
    apply Classical.byContradiction
    intro g
    refine h (nb_z.mpr (fun k hk => ?_))
    cases hb : nb x k
    · rfl
    · exact (g ⟨k, hk, hb⟩).elim
  · rintro ⟨k, hk, hb⟩ h
    rw [h, nb_0] at hb
    cases hb
set_option maxRecDepth 10000 in
theorem nb_k64 : ∀ k : Fin 64, ((Int32.ofNat k.1).toInt64 &&& 63).toBitVec.smod 64 = BitVec.ofNat 64 k.1 := by decide +kernel
set_option maxRecDepth 10000 in
theorem nb_u64 : ∀ k : Fin 64, ((Int32.ofNat k.1).toInt64.toUInt64 &&& Int64.toUInt64 63).toBitVec % 64 = BitVec.ofNat 64 k.1 := by decide +kernel
theorem nb_shl {x : Int64} {k : Nat} (hk : k < 64) (j : Nat) : nb (x <<< ((Int32.ofNat k).toInt64 &&& 63)) j = (decide (j < 64) && decide (k ≤ j) && nb x (j - k)) := by
  unfold nb
  rw [Int64.toBitVec_shiftLeft, nb_k64 ⟨k, hk⟩, BitVec.shiftLeft_eq', BitVec.getLsbD_shiftLeft, BitVec.toNat_ofNat, Nat.mod_eq_of_lt (by omega)]
  by_cases h : j < k
  · rw [show decide (j < k) = true from decide_eq_true h, show decide (k ≤ j) = false from decide_eq_false (by omega)]
    simp
  · rw [show decide (j < k) = false from decide_eq_false h, show decide (k ≤ j) = true from decide_eq_true (by omega)]
    simp
theorem nb_ushr {x : Int64} {k : Nat} (hk : k < 64) (j : Nat) : nb ((x.toUInt64 >>> ((Int32.ofNat k).toInt64.toUInt64 &&& Int64.toUInt64 63)).toInt64) j = nb x (k + j) := by
  unfold nb
  show (x.toUInt64 >>> ((Int32.ofNat k).toInt64.toUInt64 &&& Int64.toUInt64 63)).toBitVec.getLsbD j = _
  rw [UInt64.toBitVec_shiftRight, nb_u64 ⟨k, hk⟩, BitVec.ushiftRight_eq', BitVec.getLsbD_ushiftRight, BitVec.toNat_ofNat, Nat.mod_eq_of_lt (by omega)]
  rfl
theorem nb_sshr {x : Int64} {k : Nat} (hk : k < 64) (j : Nat) : nb (x >>> ((Int32.ofNat k).toInt64 &&& 63)) j = (decide (j < 64) && (if k + j < 64 then nb x (k + j) else nb x 63)) := by
  unfold nb
  rw [Int64.toBitVec_shiftRight, nb_k64 ⟨k, hk⟩, BitVec.sshiftRight_eq', BitVec.getLsbD_sshiftRight, BitVec.toNat_ofNat, Nat.mod_eq_of_lt (by omega), BitVec.msb_eq_getLsbD_last]
  by_cases h : 64 ≤ j
  · rw [show decide (64 ≤ j) = true from decide_eq_true h, show decide (j < 64) = false from decide_eq_false (by omega)]
    simp
  · rw [show decide (64 ≤ j) = false from decide_eq_false h, show decide (j < 64) = true from decide_eq_true (by omega)]
    simp
theorem nb_1 (j : Nat) : nb (Int64.ofNat 1) j = decide (j = 0) := by
  by_cases h : j < 64
  · have : ∀ k : Fin 64, nb (Int64.ofNat 1) k.1 = decide (k.1 = 0) := by decide +kernel
    exact this ⟨j, h⟩
  · rw [nb_hi (by omega), decide_eq_false (by omega)]
theorem nb_one {k : Nat} (hk : k < 64) (j : Nat) : nb (Int64.ofNat 1 <<< ((Int32.ofNat k).toInt64 &&& 63)) j = decide (j = k) := by
  rw [nb_shl hk, nb_1]
  by_cases h : j = k
  · subst h
    rw [decide_eq_true hk, decide_eq_true (Nat.le_refl j), Nat.sub_self, decide_eq_true (rfl : j = j)]
    rfl
  · rw [decide_eq_false (p := j = k) h]
    by_cases h2 : k ≤ j
    · rw [decide_eq_false (p := j - k = 0) (by omega)]
      simp
    · rw [decide_eq_false (p := k ≤ j) h2]
      simp
theorem nb_m1 {k : Nat} (hk : k < 64) : nb (-1) k = true := by
  have : ∀ k : Fin 64, nb (-1) k.1 = true := by decide +kernel
  exact this ⟨k, hk⟩
/-- is this bit there -/
theorem nb_test {x : Int64} {k : Nat} (hk : k < 64) : ((x.toUInt64 >>> ((Int32.ofNat k).toInt64.toUInt64 &&& Int64.toUInt64 63)).toInt64 &&& Int64.ofNat 1) = if nb x k = true then Int64.ofNat 1 else 0 := by
  refine nb_ext (fun j hj => ?_)
  rw [nb_and, nb_ushr hk, nb_1]
  by_cases h : j = 0
  · subst h
    rw [Nat.add_zero]
    cases hb : nb x k
    · rw [if_neg (by decide), nb_0]
      rfl
    · rw [if_pos rfl, nb_1]
      rfl
  · rw [decide_eq_false h, Bool.and_false]
    split
    · rw [nb_1, decide_eq_false h]
    · rw [nb_0]
theorem nb_stest {x : Int64} {k : Nat} (hk : k < 64) : ((x >>> ((Int32.ofNat k).toInt64 &&& 63)) &&& Int64.ofNat 1) = if nb x k = true then Int64.ofNat 1 else 0 := by
  refine nb_ext (fun j hj => ?_)
  rw [nb_and, nb_sshr hk, nb_1]
  by_cases h : j = 0
  · subst h
    rw [Nat.add_zero, if_pos hk]
    cases hb : nb x k
    · rw [if_neg (by decide), nb_0]
      rfl
    · rw [if_pos rfl, nb_1]
      rfl
  · rw [decide_eq_false h, Bool.and_false]
    split
    · rw [nb_1, decide_eq_false h]
    · rw [nb_0]
theorem nb_10 : ¬ (Int64.ofNat 1 = 0) := by decide
theorem nb_if {b : Bool} : (if b = true then Int64.ofNat 1 else (0 : Int64)) = 0 ↔ b = false := by
  cases b
  · exact ⟨fun _ => rfl, fun _ => rfl⟩
  · exact ⟨fun h => (nb_10 h).elim, fun h => by cases h⟩
