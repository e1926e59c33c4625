/-! ===== names as numbers ===== -/
theorem dn_sh (a b : Nat) (ha : a < 2 ^ 40) (hb : b < 32) : ((Int64.ofNat a <<< ((Int32.ofInt 5).toInt64 &&& 63)) ||| Int64.ofNat b) = Int64.ofNat (32 * a + b) := by
  have e5 : ((Int32.ofInt 5).toInt64 &&& 63) = 5 := rfl
  rw [e5]
  apply Int64.toBitVec_inj.mp
  apply BitVec.eq_of_toNat_eq
  rw [Int64.toBitVec_or, Int64.toBitVec_shiftLeft]
  have e : ((5 : Int64).toBitVec.smod 64).toNat = 5 := by decide
  have e0 : ∀ k, k < 2 ^ 63 → (Int64.ofNat k).toBitVec.toNat = k := fun k hk => by
    rw [Int64.toBitVec_ofNat', BitVec.toNat_ofNat]
    exact Nat.mod_eq_of_lt (by omega)
  rw [BitVec.toNat_or, BitVec.shiftLeft_eq', BitVec.toNat_shiftLeft, e0 a (by omega), e0 b (by omega), e0 (32 * a + b) (by omega), e]
  rw [Nat.shiftLeft_eq]
  have h2 : a * 2 ^ 5 % 2 ^ 64 = a <<< 5 := by
    rw [Nat.shiftLeft_eq]
    exact Nat.mod_eq_of_lt (by omega)
  rw [h2, ← Nat.shiftLeft_add_eq_or_of_lt (by omega : b < 2 ^ 5), Nat.shiftLeft_eq]
  omega
/-- a sign's number, from 1 on -/
def dn_d (t : Nat → Int32) (k : Nat) : Nat := ((t k).toInt - 96).toNat
def dn (t : Nat → Int32) (p : Nat) : Nat → Nat
  | 0 => 0
  | k + 1 => 32 * dn t p k + dn_d t (p + k)
theorem dn_lt {t : Nat → Int32} {p : Nat} : ∀ k, (∀ j, j < k → wt_sml t (p + j) = true) → dn t p k < 32 ^ k
  | 0, _ => by show 0 < 1; omega
  | k + 1, h => by
    have h1 := dn_lt k (fun j hj => h j (by omega))
    have h2 := of_decide_eq_true (h k (by omega))
    have h3 : dn_d t (p + k) < 32 := by unfold dn_d; omega
    show 32 * dn t p k + dn_d t (p + k) < 32 ^ (k + 1)
    rw [Nat.pow_succ]
    omega
theorem dn_ok {t : Nat → Int32} {p : Nat} : ∀ k, k ≤ 8 → (∀ j, j < k → wt_sml t (p + j) = true) → ds_nm t p k = Int64.ofNat (dn t p k)
  | 0, _, _ => rfl
  | k + 1, hk, h => by
    have h1 := dn_ok k (by omega) (fun j hj => h j (by omega))
    have h2 := of_decide_eq_true (h k (by omega))
    have hl := dn_lt k (fun j hj => h j (by omega))
    have h40 : dn t p k < 2 ^ 40 := by
      have : 32 ^ k ≤ 32 ^ 8 := Nat.pow_le_pow_right (by omega) (by omega)
      have e : (32 : Nat) ^ 8 = 2 ^ 40 := by decide
      omega
    show (ds_nm t p k <<< ((Int32.ofInt 5).toInt64 &&& 63)) ||| (t (p + k) - (Int8.ofInt 97).toInt32 + Int32.ofInt 1).toInt64 = _
    have e97 : ((Int8.ofInt 97).toInt32).toInt = 97 := rfl
    have e1 : (Int32.ofInt 1).toInt = 1 := rfl
    have s1 : (t (p + k) - (Int8.ofInt 97).toInt32).toInt = (t (p + k)).toInt - 97 := by rw [wi_sub, e97, wr_id (by omega) (by omega)]
    have s2 : (t (p + k) - (Int8.ofInt 97).toInt32 + Int32.ofInt 1).toInt = (t (p + k)).toInt - 96 := by
      rw [wi_add, s1, e1, wr_id (by omega) (by omega)]
      omega
    have s3 : (t (p + k) - (Int8.ofInt 97).toInt32 + Int32.ofInt 1).toInt64 = Int64.ofNat (dn_d t (p + k)) := by
      apply Int64.toInt_inj.mp
      rw [Int32.toInt_toInt64, s2, Int64.toInt_ofNat_of_lt (by unfold dn_d; omega)]
      unfold dn_d
      omega
    rw [h1, s3, dn_sh _ _ h40 (by unfold dn_d; omega)]
    rfl
theorem dn_inj {t : Nat → Int32} {p r : Nat} : ∀ k m, (∀ j, j < k → wt_sml t (p + j) = true) → (∀ j, j < m → wt_sml t (r + j) = true) → dn t p k = dn t r m → k = m ∧ ∀ j, j < k → t (p + j) = t (r + j)
  | 0, 0, _, _, _ => ⟨rfl, fun j hj => by omega⟩
  | 0, m + 1, _, h2, h => by
    have h3 := of_decide_eq_true (h2 m (by omega))
    have h : 0 = 32 * dn t r m + dn_d t (r + m) := h
    unfold dn_d at h
    omega
  | k + 1, 0, h1, _, h => by
    have h3 := of_decide_eq_true (h1 k (by omega))
    have h : 32 * dn t p k + dn_d t (p + k) = 0 := h
    unfold dn_d at h
    omega
  | k + 1, m + 1, h1, h2, h => by
    have h3 := of_decide_eq_true (h1 k (by omega))
    have h4 := of_decide_eq_true (h2 m (by omega))
    have h : 32 * dn t p k + dn_d t (p + k) = 32 * dn t r m + dn_d t (r + m) := h
    have hd : dn_d t (p + k) = dn_d t (r + m) := by unfold dn_d at h ⊢; omega
    have hn : dn t p k = dn t r m := by omega
    obtain ⟨i1, i2⟩ := dn_inj k m (fun j hj => h1 j (by omega)) (fun j hj => h2 j (by omega)) hn
    subst i1
    refine ⟨rfl, fun j hj => ?_⟩
    by_cases e : j = k
    · subst e
      unfold dn_d at hd
      exact wi_eq.mpr (by omega)
    · exact i2 j (by omega)
/-- equal numbers: equal names -/
theorem ds_nm_eq {t : Nat → Int32} {p r k m : Nat} (hk : k ≤ 8) (hm : m ≤ 8) (h1 : ∀ j, j < k → wt_sml t (p + j) = true) (h2 : ∀ j, j < m → wt_sml t (r + j) = true) : ds_nm t p k = ds_nm t r m ↔ (k = m ∧ ∀ j, j < k → t (p + j) = t (r + j)) := by
  constructor
  · intro h
    rw [dn_ok k hk h1, dn_ok m hm h2] at h
    have a1 := dn_lt k h1
    have a2 := dn_lt m h2
    have p1 : 32 ^ k ≤ 32 ^ 8 := Nat.pow_le_pow_right (by omega) (by omega)
    have p2 : 32 ^ m ≤ 32 ^ 8 := Nat.pow_le_pow_right (by omega) (by omega)
    have e : (32 : Nat) ^ 8 = 2 ^ 40 := by decide
    have h3 : (dn t p k : Int) = dn t r m := by
      have := congrArg Int64.toInt h
      rw [Int64.toInt_ofNat_of_lt (by omega), Int64.toInt_ofNat_of_lt (by omega)] at this
      exact this
    exact dn_inj k m h1 h2 (by omega)
  · rintro ⟨rfl, h⟩
    have : ∀ j, j ≤ k → ds_nm t p j = ds_nm t r j := by
      intro j
      induction j with
      | zero => intro _; rfl
      | succ j ih =>
        intro hj
        show (ds_nm t p j <<< _) ||| (t (p + j) - _ + _).toInt64 = (ds_nm t r j <<< _) ||| (t (r + j) - _ + _).toInt64
        rw [ih (by omega), h j (by omega)]
    exact this k (Nat.le_refl _)
