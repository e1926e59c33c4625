/-! ===== what is known of a script's names is so ===== -/
section ZPA
variable {xs : Nat → Int32} {fv : Value}
theorem zs_byte (x : BitVec 32) (s : Nat) (hs : s ≤ 24) : (x.sshiftRight s) &&& 255#32 = (x >>> s) &&& 255#32 := by
  apply BitVec.eq_of_getLsbD_eq
  intro i hi
  rw [BitVec.getLsbD_and, BitVec.getLsbD_and]
  by_cases h8 : i < 8
  · rw [BitVec.getLsbD_sshiftRight, BitVec.getLsbD_ushiftRight]
    have h1 : ¬ 32 ≤ i := by omega
    have h2 : s + i < 32 := by omega
    simp [h1, h2]
  · have : (255#32).getLsbD i = false := by
      have h255 : (255#32).getLsbD i = Nat.testBit 255 i := by
        rw [BitVec.getLsbD, BitVec.toNat_ofNat]
      rw [h255]
      apply Nat.testBit_lt_two_pow
      have : 2 ^ 8 ≤ 2 ^ i := Nat.pow_le_pow_right (by decide) (by omega)
      omega
    rw [this, Bool.and_false, Bool.and_false]
theorem zs_one (k : Nat) (hk : k < 64) : ((BitVec.allOnes 64) >>> k) &&& 1#64 = 1#64 := by
  apply BitVec.eq_of_getLsbD_eq
  intro i hi
  rw [BitVec.getLsbD_and, BitVec.getLsbD_ushiftRight, BitVec.getLsbD_allOnes]
  by_cases h0 : i = 0
  · subst h0
    simp [hk]
  · have : (1#64).getLsbD i = false := by
      rw [BitVec.getLsbD, BitVec.toNat_ofNat]
      show Nat.testBit 1 i = false
      apply Nat.testBit_lt_two_pow
      have : 2 ^ 1 ≤ 2 ^ i := Nat.pow_le_pow_right (by decide) (by omega)
      omega
    rw [this, Bool.and_false]
theorem zb_u_ok {ins : Instr} {x v : Value} (h : zb_u ins x = some v) : zk_g ins = 1 ∧ ∀ r, pz_B ins (zy_v (zg xs fv) x :: r) = some (zy_v (zg xs fv) v :: r) := by
  unfold zb_u at h
  split at h
  · rename_i i
    split at h
    · rename_i hi
      cases h
      refine ⟨rfl, fun r => ?_⟩
      have e1 : zy_v (zg xs fv) (.retAddr i) = .int (xs i) := by
        show Value.int (zg_i xs i) = _
        unfold zg_i
        rw [if_pos hi]
      have e2 : zy_v (zg xs fv) (.double (UInt64.ofNat (64 + i))) = .long (xs i).toInt64 := by
        show Value.long (zg_l xs (UInt64.ofNat (64 + i)).toNat) = _
        have h3 : (UInt64.ofNat (64 + i)).toNat = 64 + i := by
          rw [UInt64.toNat_ofNat']
          apply Nat.mod_eq_of_lt
          omega
        rw [h3]
        unfold zg_l
        rw [if_neg (by omega)]
        have h4 : (64 + i) / 64 = 1 := by omega
        have h5 : (64 + i) % 64 = i := by omega
        rw [h4, h5]
        show Value.long (1 * (xs i).toInt64) = _
        rw [Int64.one_mul]
      rw [e1, e2]
      rfl
    · cases h
  · cases h
theorem zb_n_ok {b : zb_B} {r : Nat} {g : zy_G} (hb : zb_in g b r) {k : Nat} {v : Value} (h : zb_n b k v = true) : ∃ x, zy_v g v = .int x ∧ (k = 2 → vp_nar .boolean x = x) ∧ (k = 3 → vp_nar .byte x = x) := by
  unfold zb_n at h
  split at h
  · rename_i i
    refine ⟨g.1 i, rfl, ?_, ?_⟩
    · rintro rfl
      have h2 : (decide (2147483648 ≤ (zb_l b i).1) && decide ((zb_l b i).2 ≤ 2147483649)) = true := h
      rw [Bool.and_eq_true, decide_eq_true_eq, decide_eq_true_eq] at h2
      have h3 := hb.1 i
      have h4 : zb_o (g.1 i) = zb_o 0 ∨ zb_o (g.1 i) = zb_o 1 := by
        have e0 : zb_o 0 = 2147483648 := by decide
        have e1 : zb_o 1 = 2147483649 := by decide
        omega
      rcases h4 with h4 | h4
      · rw [zb_eq.mpr h4]; decide
      · rw [zb_eq.mpr h4]; decide
    · rintro rfl
      have h2 : (decide (2147483520 ≤ (zb_l b i).1) && decide ((zb_l b i).2 ≤ 2147483775)) = true := h
      rw [Bool.and_eq_true, decide_eq_true_eq, decide_eq_true_eq] at h2
      have h3 := hb.1 i
      have h5 : -128 ≤ (g.1 i).toInt ∧ (g.1 i).toInt ≤ 127 := by
        have := zb_o_int (g.1 i)
        omega
      show (g.1 i).toInt8.toInt32 = g.1 i
      apply Int32.toInt_inj.mp
      rw [Int8.toInt_toInt32, Int32.toInt_toInt8]
      rw [Int.bmod_eq_of_le (by omega) (by omega)]
  · cases h
theorem zg_i0 {i : Nat} (hi : i < 4) : zg_i xs i = xs i := if_pos hi
theorem zs_b4 (x : Int32) : ((x >>> ((0 : Int32) &&& 31)) &&& 255 = (x.toUInt32 >>> ((0 : Int32).toUInt32 &&& Int32.toUInt32 31)).toInt32 &&& 255) ∧ ((x >>> ((8 : Int32) &&& 31)) &&& 255 = (x.toUInt32 >>> ((8 : Int32).toUInt32 &&& Int32.toUInt32 31)).toInt32 &&& 255) ∧ ((x >>> ((16 : Int32) &&& 31)) &&& 255 = (x.toUInt32 >>> ((16 : Int32).toUInt32 &&& Int32.toUInt32 31)).toInt32 &&& 255) ∧ ((x >>> ((24 : Int32) &&& 31)) &&& 255 = (x.toUInt32 >>> ((24 : Int32).toUInt32 &&& Int32.toUInt32 31)).toInt32 &&& 255) := by
  refine ⟨?_, ?_, ?_, ?_⟩
  · apply Int32.toBitVec_inj.mp
    exact zs_byte x.toBitVec 0 (by decide)
  · apply Int32.toBitVec_inj.mp
    exact zs_byte x.toBitVec 8 (by decide)
  · apply Int32.toBitVec_inj.mp
    exact zs_byte x.toBitVec 16 (by decide)
  · apply Int32.toBitVec_inj.mp
    exact zs_byte x.toBitVec 24 (by decide)
theorem zs_l1 (y : Int64) : ((((-1 : Int64).toUInt64 >>> (y.toUInt64 &&& Int64.toUInt64 63)).toInt64) &&& 1) = 1 := by
  apply Int64.toBitVec_inj.mp
  have h := zs_one ((y.toUInt64 &&& Int64.toUInt64 63).toNat % 64) (Nat.mod_lt _ (by decide))
  exact h
theorem zs_gt {x : Int32} {n : Nat} {z : Int64} (hn : 1 ≤ n ∧ n ≤ 3) (hx : 12 < x.toInt) (hz : z = 12 ∨ z = 9) : lg_cmp (Int64.ofNat n * x.toInt64) z = 1 := by
  have hx2 : x.toInt < 2147483648 := Int32.toInt_lt x
  have e1 : (Int64.ofNat n * x.toInt64).toInt = n * x.toInt := by
    rw [Int64.toInt_mul, Int32.toInt_toInt64]
    have e2 : (Int64.ofNat n).toInt = n := by
      have : n = 1 ∨ n = 2 ∨ n = 3 := by omega
      rcases this with rfl | rfl | rfl <;> rfl
    rw [e2]
    have : n = 1 ∨ n = 2 ∨ n = 3 := by omega
    apply Int.bmod_eq_of_le
    · rcases this with rfl | rfl | rfl <;> omega
    · rcases this with rfl | rfl | rfl <;> omega
  have hz2 : z.toInt ≤ 12 := by rcases hz with rfl | rfl <;> decide
  have hlt : z < Int64.ofNat n * x.toInt64 := by
    rw [Int64.lt_iff_toInt_lt, e1]
    have : n = 1 ∨ n = 2 ∨ n = 3 := by omega
    rcases this with rfl | rfl | rfl <;> omega
  unfold lg_cmp
  exact if_pos hlt
theorem zb_b_ok {op : Int32} {b : zb_B} {rr : Nat} (hop : xs 0 &&& 31 = op) (hb : zb_in (zg xs fv) b rr) {ins : Instr} {x y v : Value} (h : zb_b op b ins x y = some v) : zk_g ins = 1 ∧ ∀ r, pz_B ins (zy_v (zg xs fv) y :: zy_v (zg xs fv) x :: r) = some (zy_v (zg xs fv) v :: r) := by
  unfold zb_b at h
  split at h
  · split at h
    · rename_i hz
      subst hz
      cases h
      refine ⟨rfl, fun r => ?_⟩
      show some (Value.int (zg_i xs 0 &&& 31) :: r) = some (.int op :: r)
      rw [zg_i0 (by decide), hop]
    · cases h
  · rename_i i
    split at h
    · rename_i hz
      subst hz
      cases h
      refine ⟨rfl, fun r => ?_⟩
      show some (Value.int (0 &&& zg_i xs i) :: r) = some (.int 0 :: r)
      rw [Int32.zero_and]
    · cases h
  · rename_i i z _
    split at h
    · rename_i hz
      subst hz
      split at h
      · rename_i hi
        cases h
        refine ⟨rfl, fun r => ?_⟩
        show some (Value.int (zg_i xs i &&& 255) :: r) = some (.int (zg_i xs (i + 20)) :: r)
        have : i = 10 ∨ i = 11 ∨ i = 12 ∨ i = 13 := by omega
        rcases this with rfl | rfl | rfl | rfl <;> rfl
      · split at h
        · rename_i hi
          cases h
          refine ⟨rfl, fun r => ?_⟩
          show some (Value.int (zg_i xs i &&& 255) :: r) = some (.int (zg_i xs (i + 10)) :: r)
          obtain ⟨b0, b1, b2, b3⟩ := zs_b4 (xs 1)
          have : i = 20 ∨ i = 21 ∨ i = 22 ∨ i = 23 := by omega
          rcases this with rfl | rfl | rfl | rfl
          · exact congrArg (fun q => some (Value.int q :: r)) b0
          · exact congrArg (fun q => some (Value.int q :: r)) b1
          · exact congrArg (fun q => some (Value.int q :: r)) b2
          · exact congrArg (fun q => some (Value.int q :: r)) b3
        · cases h
    · cases h
  · rename_i i z
    split at h
    · rename_i hz
      obtain ⟨hz, hi⟩ := hz
      subst hz
      cases h
      refine ⟨rfl, fun r => ?_⟩
      show some (Value.int (zg_i xs i ^^^ -1) :: r) = some (.int (zg_i xs (i + 40)) :: r)
      have e : zg_i xs (i + 40) = xs i ^^^ -1 := by
        unfold zg_i
        rw [if_neg (by omega), if_neg (by omega), if_neg (by omega), if_neg (by omega), Nat.add_sub_cancel]
      rw [e, zg_i0 hi]
    · cases h
  · split at h
    · rename_i hz
      subst hz
      cases h
      exact ⟨rfl, fun r => rfl⟩
    · split at h
      · rename_i hz
        subst hz
        cases h
        exact ⟨rfl, fun r => rfl⟩
      · split at h
        · rename_i hz
          subst hz
          cases h
          exact ⟨rfl, fun r => rfl⟩
        · split at h
          · rename_i hz
            subst hz
            cases h
            exact ⟨rfl, fun r => rfl⟩
          · cases h
  · split at h
    · rename_i hz
      subst hz
      cases h
      exact ⟨rfl, fun r => rfl⟩
    · split at h
      · rename_i hz
        subst hz
        cases h
        exact ⟨rfl, fun r => rfl⟩
      · split at h
        · rename_i hz
          subst hz
          cases h
          exact ⟨rfl, fun r => rfl⟩
        · split at h
          · rename_i hz
            subst hz
            cases h
            exact ⟨rfl, fun r => rfl⟩
          · cases h
  · split at h
    · rename_i hz
      subst hz
      cases h
      exact ⟨rfl, fun r => rfl⟩
    · cases h
  · split at h
    · rename_i hz
      obtain ⟨he, hz⟩ := hz
      subst he
      subst hz
      cases h
      refine ⟨rfl, fun r => ?_⟩
      exact congrArg (fun q => some (Value.long q :: r)) (zs_l1 (xs 1).toInt64)
    · cases h
  · split at h
    · rename_i he
      subst he
      split at h
      · rename_i hz
        subst hz
        cases h
        refine ⟨rfl, fun r => ?_⟩
        show some (Value.long (1 * (1 * (xs 2).toInt64)) :: r) = some (.long (1 * (xs 2).toInt64) :: r)
        rw [Int64.one_mul]
      · split at h
        · rename_i hz
          subst hz
          cases h
          refine ⟨rfl, fun r => ?_⟩
          show some (Value.long (2 * (1 * (xs 2).toInt64)) :: r) = some (.long (2 * (xs 2).toInt64) :: r)
          rw [Int64.one_mul]
        · split at h
          · rename_i hz
            subst hz
            cases h
            refine ⟨rfl, fun r => ?_⟩
            show some (Value.long (3 * (1 * (xs 2).toInt64)) :: r) = some (.long (3 * (xs 2).toInt64) :: r)
            rw [Int64.one_mul]
          · cases h
    · cases h
  · rename_i e z
    split at h
    · rename_i hz
      obtain ⟨hz, hlo, he⟩ := hz
      cases h
      have h2 := (hb.1 2).1
      have h3 := zb_o_int (xs 2)
      have h4 : zb_o ((zg xs fv).1 2) = zb_o (xs 2) := rfl
      have hx : 12 < (xs 2).toInt := by omega
      refine ⟨rfl, fun r => ?_⟩
      rcases he with rfl | rfl | rfl
      · exact congrArg (fun q => some (Value.int q :: r)) (zs_gt (n := 1) (by decide) hx hz)
      · exact congrArg (fun q => some (Value.int q :: r)) (zs_gt (n := 2) (by decide) hx hz)
      · exact congrArg (fun q => some (Value.int q :: r)) (zs_gt (n := 3) (by decide) hx hz)
    · cases h
  · cases h
end ZPA
