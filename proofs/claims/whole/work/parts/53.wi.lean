/-! ===== numbers: what the machine reckons, as whole numbers ===== -/
def wr (x : Int) : Int := (x + 2147483648) % 4294967296 - 2147483648
theorem wr_id {x : Int} (h1 : -2147483648 ≤ x) (h2 : x < 2147483648) : wr x = x := by unfold wr; omega
theorem wr_bmod (x : Int) : x.bmod 4294967296 = wr x := by
  unfold wr
  rw [Int.bmod_def]
  split <;> omega
theorem wi_add (a b : Int32) : (a + b).toInt = wr (a.toInt + b.toInt) := by rw [Int32.toInt_add, ← wr_bmod]
theorem wi_sub (a b : Int32) : (a - b).toInt = wr (a.toInt - b.toInt) := by rw [Int32.toInt_sub, ← wr_bmod]
theorem wi_mul (a b : Int32) : (a * b).toInt = wr (a.toInt * b.toInt) := by rw [Int32.toInt_mul, ← wr_bmod]
theorem wi_of (n : Int) : (Int32.ofInt n).toInt = wr n := by rw [Int32.toInt_ofInt, ← wr_bmod]
theorem wi_lt {a b : Int32} : a < b ↔ a.toInt < b.toInt := Int32.lt_iff_toInt_lt
theorem wi_le {a b : Int32} : a ≤ b ↔ a.toInt ≤ b.toInt := Int32.le_iff_toInt_le
theorem wi_eq {a b : Int32} : a = b ↔ a.toInt = b.toInt := ⟨fun h => by rw [h], fun h => Int32.toInt_inj.mp h⟩
theorem wi_nat (a : Int32) : a.toNatClampNeg = a.toInt.toNat := rfl
theorem wi_0 : (0 : Int32).toInt = 0 := rfl
theorem wi_1 : (1 : Int32).toInt = 1 := rfl
theorem wi_b (a : Int32) : -2147483648 ≤ a.toInt ∧ a.toInt < 2147483648 := ⟨Int32.le_toInt a, Int32.toInt_lt a⟩
theorem wi_8 (n : Int) : (Int8.ofInt n).toInt32.toInt = (n + 128) % 256 - 128 := by
  rw [Int8.toInt_toInt32, Int8.toInt_ofInt, Int.bmod_def, show Int8.size = 256 from rfl]
  split <;> omega
theorem wi_16 (n : Int) : (Int16.ofInt n).toInt32.toInt = (n + 32768) % 65536 - 32768 := by
  rw [Int16.toInt_toInt32, Int16.toInt_ofInt, Int.bmod_def, show Int16.size = 65536 from rfl]
  split <;> omega
