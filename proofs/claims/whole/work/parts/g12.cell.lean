/-! ===== a product in a cell of the reference ===== -/
/-- the bit that a literal sets in a cell -/
def lt_bit (o : lt_o) : Option Nat := if o.2 < 6 then some (o.2 + (if o.1 = true then 6 else 0)) else if decide (o.2 = 7) = o.1 then some 12 else none
def cn_1 (a : Nat) (o : lt_o) : Nat := match lt_bit o with
  | some k => a ||| 2 ^ k
  | none => a
def cn (c : cd_P) : Nat := c.foldl cn_1 0
theorem ce_sh : ∀ (v : Fin 6) (b : Bool), (Int32.ofInt 1 <<< ((Int32.ofNat v.1 + (if b = true then (Int8.ofInt 6).toInt32 else Int32.ofInt 0)) &&& 31)) = Int32.ofNat (2 ^ (v.1 + (if b = true then 6 else 0))) := by decide
theorem ce_or (a b : Nat) : Int32.ofNat a ||| Int32.ofNat b = Int32.ofNat (a ||| b) := by
  apply Int32.toBitVec_inj.mp
  show BitVec.ofNat 32 a ||| BitVec.ofNat 32 b = BitVec.ofNat 32 (a ||| b)
  rw [BitVec.ofNat_or]
theorem lt_bit_lt {o : lt_o} {k : Nat} (h : lt_bit o = some k) : k < 13 := by
  unfold lt_bit at h
  split at h
  · cases h
    split <;> omega
  split at h
  · cases h
    decide
  · cases h
theorem cn_1_lt {a : Nat} (ha : a < 8192) (o : lt_o) : cn_1 a o < 8192 := by
  unfold cn_1
  split
  · rename_i k hk
    have := lt_bit_lt hk
    exact Nat.or_lt_two_pow (n := 13) ha (Nat.pow_lt_pow_right (by decide) this)
  · exact ha
theorem lt_c_n (a : Nat) (o : lt_o) : lt_c (Int32.ofNat a) o = Int32.ofNat (cn_1 a o) := by
  unfold lt_c cn_1 lt_bit
  by_cases h : o.2 < 6
  · rw [if_pos h, if_pos h]
    have := ce_sh ⟨o.2, h⟩ o.1
    dsimp only at this
    rw [this, ce_or]
  · rw [if_neg h, if_neg h]
    by_cases h2 : decide (o.2 = 7) = o.1
    · rw [if_pos h2, if_pos h2]
      show _ = Int32.ofNat (a ||| 2 ^ 12)
      rw [← ce_or]
      rfl
    · rw [if_neg h2, if_neg h2]
theorem cd_c_n : ∀ (c : cd_P) (a : Nat), a < 8192 → c.foldl lt_c (Int32.ofNat a) = Int32.ofNat (c.foldl cn_1 a) ∧ c.foldl cn_1 a < 8192
  | [], a, h => ⟨rfl, h⟩
  | o :: c, a, h => by
    have := cd_c_n c (cn_1 a o) (cn_1_lt h o)
    rw [List.foldl_cons, List.foldl_cons, lt_c_n]
    exact this
theorem cn_bit : ∀ (c : cd_P) (a k : Nat), (c.foldl cn_1 a).testBit k = true ↔ a.testBit k = true ∨ ∃ o, o ∈ c ∧ lt_bit o = some k
  | [], a, k => ⟨Or.inl, fun h => h.elim id (fun ⟨o, ho, _⟩ => by cases ho)⟩
  | o :: c, a, k => by
    rw [List.foldl_cons, cn_bit c (cn_1 a o) k]
    have e : (cn_1 a o).testBit k = true ↔ a.testBit k = true ∨ lt_bit o = some k := by
      unfold cn_1
      cases hb : lt_bit o with
      | none => exact ⟨Or.inl, fun h => h.elim id (fun h => by cases h)⟩
      | some j =>
        show (a ||| 2 ^ j).testBit k = true ↔ _
        rw [Nat.testBit_or, Bool.or_eq_true, Nat.testBit_two_pow, decide_eq_true_eq]
        exact ⟨fun h => h.elim Or.inl (fun h => Or.inr (by rw [h])), fun h => h.elim Or.inl (fun h => Or.inr (by cases h; rfl))⟩
    rw [e]
    constructor
    · rintro ((h | h) | ⟨o2, h1, h2⟩)
      · exact Or.inl h
      · exact Or.inr ⟨o, List.mem_cons_self, h⟩
      · exact Or.inr ⟨o2, List.mem_cons_of_mem _ h1, h2⟩
    · rintro (h | ⟨o2, h1, h2⟩)
      · exact Or.inl (Or.inl h)
      · rcases List.mem_cons.mp h1 with h3 | h3
        · rw [h3] at h2
          exact Or.inl (Or.inr h2)
        · exact Or.inr ⟨o2, h3, h2⟩
/-- a cell holds of a letter, as the reference asks it -/
def ce_h (c u : Int32) : Prop := c < (Int16.ofInt 4096).toInt32 ∧ ((c &&& (Int8.ofInt 63).toInt32) &&& (u ^^^ Int32.ofInt (-1))) = 0 ∧ ((c >>> ((Int8.ofInt 6).toInt32 &&& 31)) &&& u) = 0
theorem ce_A0 : ∀ (h : Fin 128) (l : Fin 64), (Int32.ofNat (64 * h.1 + l.1) &&& (Int8.ofInt 63).toInt32) = Int32.ofNat l.1 ∧ (Int32.ofNat (64 * h.1 + l.1) >>> ((Int8.ofInt 6).toInt32 &&& 31)) = Int32.ofNat h.1 ∧ (Int32.ofNat (64 * h.1 + l.1) < (Int16.ofInt 4096).toInt32 ↔ (64 * h.1 + l.1).testBit 12 = false) ∧ ((64 * h.1 + l.1).testBit 12 = false → h.1 < 64) := by decide +kernel
theorem ce_A {C : Nat} (hC : C < 8192) : (Int32.ofNat C &&& (Int8.ofInt 63).toInt32) = Int32.ofNat (C % 64) ∧ (Int32.ofNat C >>> ((Int8.ofInt 6).toInt32 &&& 31)) = Int32.ofNat (C / 64) ∧ (Int32.ofNat C < (Int16.ofInt 4096).toInt32 ↔ C.testBit 12 = false) ∧ (C.testBit 12 = false → C / 64 < 64) := by
  have := ce_A0 ⟨C / 64, by omega⟩ ⟨C % 64, by omega⟩
  dsimp only at this
  rw [show 64 * (C / 64) + C % 64 = C by omega] at this
  exact this
theorem ce_B : ∀ P u : Fin 64, (Int32.ofNat P.1 &&& (Int32.ofNat u.1 ^^^ Int32.ofInt (-1))) = 0 ↔ ∀ b : Fin 6, P.1.testBit b.1 = true → u.1.testBit b.1 = true := by decide +kernel
theorem ce_C : ∀ P u : Fin 64, (Int32.ofNat P.1 &&& Int32.ofNat u.1) = 0 ↔ ∀ b : Fin 6, P.1.testBit b.1 = true → u.1.testBit b.1 = false := by decide +kernel
theorem ce_ok {C u : Nat} (hC : C < 8192) (hu : u < 64) : ce_h (Int32.ofNat C) (Int32.ofNat u) ↔ C.testBit 12 = false ∧ (∀ b, b < 6 → C.testBit b = true → u.testBit b = true) ∧ ∀ b, b < 6 → C.testBit (6 + b) = true → u.testBit b = false := by
  obtain ⟨a1, a2, a3, a4⟩ := ce_A hC
  unfold ce_h
  rw [a1, a2, a3]
  have b1 := ce_B ⟨C % 64, Nat.mod_lt _ (by decide)⟩ ⟨u, hu⟩
  dsimp only at b1
  have m1 : ∀ b, b < 6 → (C % 64).testBit b = C.testBit b := fun b hb => by
    have := Nat.testBit_mod_two_pow C 6 b
    rw [show (2 : Nat) ^ 6 = 64 from rfl] at this
    rw [this, decide_eq_true hb, Bool.true_and]
  have m2 : ∀ b, (C / 64).testBit b = C.testBit (6 + b) := fun b => by
    have := Nat.testBit_div_two_pow (i := b) (n := 6) C
    rw [show (2 : Nat) ^ 6 = 64 from rfl] at this
    rw [this, Nat.add_comm]
  constructor
  · rintro ⟨h1, h2, h3⟩
    have c1 := ce_C ⟨C / 64, a4 h1⟩ ⟨u, hu⟩
    dsimp only at c1
    refine ⟨h1, fun b hb h => b1.mp h2 ⟨b, hb⟩ (by rw [m1 b hb]; exact h), fun b hb h => c1.mp h3 ⟨b, hb⟩ (by rw [m2]; exact h)⟩
  · rintro ⟨h1, h2, h3⟩
    have c1 := ce_C ⟨C / 64, a4 h1⟩ ⟨u, hu⟩
    dsimp only at c1
    refine ⟨h1, b1.mpr (fun b h => h2 b.1 b.2 (by rw [← m1 b.1 b.2]; exact h)), c1.mpr (fun b h => h3 b.1 b.2 (by rw [← m2]; exact h))⟩
/-- a product holds as its cell does -/
theorem cd_p_ok {c : cd_P} {u : Nat} (hu : u < 64) : cd_p c u = true ↔ ce_h (cd_c c) (Int32.ofNat u) := by
  obtain ⟨e, hlt⟩ := cd_c_n c 0 (by decide)
  rw [show cd_c c = Int32.ofNat (c.foldl cn_1 0) from e, ce_ok hlt hu]
  have hb : ∀ k, (c.foldl cn_1 0).testBit k = true ↔ ∃ o, o ∈ c ∧ lt_bit o = some k := fun k => by
    rw [cn_bit c 0 k, Nat.zero_testBit]
    exact ⟨fun h => h.elim (fun h => by cases h) id, Or.inr⟩
  unfold cd_p
  rw [List.all_eq_true]
  constructor
  · intro h
    refine ⟨?_, ?_, ?_⟩
    · cases hx : (c.foldl cn_1 0).testBit 12 with
      | false => rfl
      | true =>
        obtain ⟨o, h1, h2⟩ := (hb 12).mp hx
        have h3 := h o h1
        unfold lt_bit at h2
        by_cases c6 : o.2 < 6
        · rw [if_pos c6] at h2
          have := Option.some.inj h2
          split at this <;> omega
        · rw [if_neg c6] at h2
          by_cases c7 : decide (o.2 = 7) = o.1
          · unfold lt_h lt_p at h3
            rw [if_neg c6, ← c7] at h3
            cases hd : decide (o.2 = 7) <;> rw [hd] at h3 <;> cases h3
          · rw [if_neg c7] at h2
            cases h2
    · intro b hb6 hx
      obtain ⟨o, h1, h2⟩ := (hb b).mp hx
      have h3 := h o h1
      unfold lt_bit at h2
      by_cases c6 : o.2 < 6
      · rw [if_pos c6] at h2
        have e2 := Option.some.inj h2
        unfold lt_h lt_p at h3
        rw [if_pos c6] at h3
        cases ho : o.1 with
        | true =>
          rw [ho, if_pos rfl] at e2
          omega
        | false =>
          rw [ho, if_neg (by decide)] at e2
          rw [ho, show o.2 = b by omega] at h3
          rw [Bool.false_xor] at h3
          exact h3
      · rw [if_neg c6] at h2
        split at h2
        · have := Option.some.inj h2
          omega
        · cases h2
    · intro b hb6 hx
      obtain ⟨o, h1, h2⟩ := (hb (6 + b)).mp hx
      have h3 := h o h1
      unfold lt_bit at h2
      by_cases c6 : o.2 < 6
      · rw [if_pos c6] at h2
        have e2 := Option.some.inj h2
        unfold lt_h lt_p at h3
        rw [if_pos c6] at h3
        cases ho : o.1 with
        | true =>
          rw [ho, if_pos rfl] at e2
          rw [ho, show o.2 = b by omega, Bool.true_xor] at h3
          cases hx2 : u.testBit b with
          | false => rfl
          | true =>
            rw [hx2] at h3
            cases h3
        | false =>
          rw [ho, if_neg (by decide)] at e2
          omega
      · rw [if_neg c6] at h2
        split at h2
        · have := Option.some.inj h2
          omega
        · cases h2
  · rintro ⟨h1, h2, h3⟩ o ho
    unfold lt_h lt_p
    by_cases c6 : o.2 < 6
    · rw [if_pos c6]
      cases hn : o.1 with
      | false =>
        have hk : lt_bit o = some o.2 := by
          unfold lt_bit
          rw [if_pos c6, hn, if_neg (by decide), Nat.add_zero]
        rw [Bool.false_xor]
        exact h2 o.2 c6 ((hb o.2).mpr ⟨o, ho, hk⟩)
      | true =>
        have hk : lt_bit o = some (6 + o.2) := by
          unfold lt_bit
          rw [if_pos c6, hn, if_pos rfl, Nat.add_comm]
        rw [Bool.true_xor, h3 o.2 c6 ((hb (6 + o.2)).mpr ⟨o, ho, hk⟩)]
        rfl
    · rw [if_neg c6]
      have hk : ¬ decide (o.2 = 7) = o.1 := fun z => by
        have hk : lt_bit o = some 12 := by
          unfold lt_bit
          rw [if_neg c6, if_pos z]
        rw [(hb 12).mpr ⟨o, ho, hk⟩] at h1
        cases h1
      cases hn : o.1 <;> cases hd : decide (o.2 = 7) <;> rw [hn, hd] at hk
      · exact (hk rfl).elim
      · rfl
      · rfl
      · exact (hk rfl).elim
