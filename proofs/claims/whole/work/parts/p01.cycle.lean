/-! ===== a design's cycle ===== -/
/-- numbers of bits -/
def dz_B (f : Nat → Bool) : Nat → Nat
  | 0 => 0
  | n + 1 => dz_B f n + (if f n = true then 2 ^ n else 0)
theorem dz_B_lt (f : Nat → Bool) : ∀ n, dz_B f n < 2 ^ n
  | 0 => Nat.one_pos
  | n + 1 => by
    have h := dz_B_lt f n
    show dz_B f n + (if f n = true then 2 ^ n else 0) < 2 ^ (n + 1)
    rw [Nat.pow_succ]
    split <;> omega
theorem dz_B_c {f g : Nat → Bool} : ∀ n, (∀ k, k < n → f k = g k) → dz_B f n = dz_B g n
  | 0, _ => rfl
  | n + 1, h => by
    show dz_B f n + (if f n = true then 2 ^ n else 0) = dz_B g n + (if g n = true then 2 ^ n else 0)
    rw [dz_B_c n (fun k hk => h k (by omega)), h n (by omega)]
theorem dz_B_a {f : Nat → Bool} {m : Nat} : ∀ n, dz_B f (m + n) = dz_B f m + 2 ^ m * dz_B (fun k => f (m + k)) n
  | 0 => by
    show dz_B f m = dz_B f m + 2 ^ m * 0
    omega
  | n + 1 => by
    show dz_B f (m + n) + (if f (m + n) = true then 2 ^ (m + n) else 0) = dz_B f m + 2 ^ m * (dz_B (fun k => f (m + k)) n + (if f (m + n) = true then 2 ^ n else 0))
    rw [dz_B_a n, Nat.mul_add, Nat.pow_add]
    split <;> omega
theorem dz_sh1 : ∀ k, k < 12 → Int32.ofInt 1 <<< (Int32.ofNat k &&& 31) = Int32.ofNat (2 ^ k) := by decide +kernel
theorem dz_shb : ∀ (b : Bool) (k : Fin 12), wb_i b <<< (Int32.ofNat k.1 &&& 31) = Int32.ofNat (if b = true then 2 ^ k.1 else 0) := by decide +kernel
theorem dz_or {f : Nat → Bool} {n : Nat} : Int32.ofNat (dz_B f n) ||| Int32.ofNat (if f n = true then 2 ^ n else 0) = Int32.ofNat (dz_B f (n + 1)) := by
  rw [ce_or]
  congr 1
  show _ = dz_B f n + (if f n = true then 2 ^ n else 0)
  split
  · have h := Nat.two_pow_add_eq_or_of_lt (dz_B_lt f n) 1
    rw [Nat.mul_one] at h
    rw [Nat.or_comm, ← h, Nat.add_comm]
  · rw [Nat.or_zero, Nat.add_zero]
theorem dz_bit : ∀ (x : Fin 32) (i : Fin 6), (Int32.ofNat x.1 >>> (Int32.ofNat i.1 &&& 31)) &&& Int32.ofInt 1 = wb_i (x.1.testBit i.1) := by decide +kernel
theorem dz_half : ∀ l, l < 140 → Int32.ofNat l >>> (Int32.ofInt 1 &&& 31) = Int32.ofNat (l / 2) := by decide +kernel
theorem dz_odd : ∀ l, l < 140 → Int32.ofNat l &&& Int32.ofInt 1 = wb_i (decide (l % 2 = 1)) := by decide +kernel
theorem dz_xor : ∀ a b : Bool, wb_i a ^^^ wb_i b = wb_i (a ^^ b) := by decide
theorem dz_and : ∀ a b : Bool, wb_i a &&& wb_i b = wb_i (a && b) := by decide
/-- a literal's value -/
def dz_l (V : Nat → Bool) (l : Nat) : Bool := V (l / 2) ^^ decide (l % 2 = 1)
def dz_0 (a b s x v : Nat) : Bool := if v = 0 then false else if v ≤ a then x.testBit (v - 1) else if v ≤ a + b then s.testBit (v - 1 - a) else false
/-- the values when n gates are reckoned -/
def dz_n (a b : Nat) (on tw : Nat → Nat) (s x : Nat) : Nat → Nat → Bool
  | 0 => dz_0 a b s x
  | j + 1 => fun v => if v = 1 + a + b + j then dz_l (dz_n a b on tw s x j) (on j) && dz_l (dz_n a b on tw s x j) (tw j) else dz_n a b on tw s x j v
/-- a design whose gates look back -/
def dz_V (a b g : Nat) (nx : Nat → Nat) (fi : Nat → Bool) (sg on tw : Nat → Nat) : Prop := 1 ≤ a ∧ a ≤ 3 ∧ b ≤ 5 ∧ g ≤ 60 ∧ (∀ i, i < b → nx i < 2 * (1 + a + b + g)) ∧ (∀ i, i < 6 → sg i < 2 * (1 + a + b + g)) ∧ ∀ i, i < g → on i < 2 * (1 + a + b + i) ∧ tw i < 2 * (1 + a + b + i)
def dz_let (a b g : Nat) (nx : Nat → Nat) (fi : Nat → Bool) (sg on tw : Nat → Nat) (s x : Nat) : Nat := dz_B (fun k => dz_l (dz_n a b on tw s x g) (sg k)) 6
def dz_nx (a b g : Nat) (nx : Nat → Nat) (fi : Nat → Bool) (sg on tw : Nat → Nat) (s x : Nat) : Nat := dz_B (fun k => dz_l (dz_n a b on tw s x g) (nx k)) b
theorem dz_n_st {a b : Nat} {on tw : Nat → Nat} {s x j v : Nat} (h : v < 1 + a + b + j) : ∀ d, dz_n a b on tw s x (j + d) v = dz_n a b on tw s x j v
  | 0 => rfl
  | d + 1 => by
    show (if v = 1 + a + b + (j + d) then _ else dz_n a b on tw s x (j + d) v) = _
    rw [if_neg (by omega)]
    exact dz_n_st h d
def dz_c329 : wv_c1 := fun as T N I L R q => ∃ (C l n : Nat) (V : Nat → Bool), as = [.ref C, .int (Int32.ofNat l)] ∧ wd_D T R C ∧ n ≤ 69 ∧ l < 2 * n ∧ (∀ v, v < n → I (C + 6) v = wb_i (V v)) ∧ q (.inl (some (.int (wb_i (dz_l V l))))) T N I L R 0 0
set_option maxRecDepth 100000 in
theorem wM_329 : ∃ cb ci np, pt_mt 329 = some (11, cb, 2, false, some .int, ci, np) := ⟨_, _, _, rfl⟩
set_option maxRecDepth 100000 in
set_option maxHeartbeats 4000000 in
theorem dz_valueOf {sc : pt_Sc} {d : Nat} : wv_C wm_fx sc (d + 1) 329 dz_c329 := by
  rintro as T N I L R q ⟨C, l, n, V, rfl, hD, hn, hl, hV, h⟩ w0 HR
  obtain ⟨cb, ci, np, hm⟩ := wM_329
  refine wv_meth (hh := none) rfl (sp := fun _ _ _ _ _ _ _ _ => False) (hd := fun _ => none) (n := 0) (n1 := 300) hm zc_329 rfl (fun k as T N I L R q h => by cases h) ?_ (fun pc P h => by cases h) HR
  refine ⟨hD.1, C + 6, hD.2.1 5 (by omega), _, hD.2.2.2.2.2.2.2, ?_, ?_⟩
  · rw [dz_half l (by omega)]
    exact pp_b (c := 69) (by omega) (by omega)
  rw [dz_half l (by omega), wi_onn (by omega), hV (l / 2) (by omega)]
  have e : wb_i (V (l / 2)) ^^^ (Int32.ofNat l &&& Int32.ofInt 1) = wb_i (dz_l V l) := by
    rw [dz_odd l (by omega), dz_xor]
    rfl
  rw [← e] at h
  exact h
def dz_c460 : wv_c1 := fun as T N I L R q => ∃ (l n : Nat) (V : Nat → Bool), as = [.ref 460, .int (Int32.ofNat l)] ∧ wm_T T ∧ n ≤ 69 ∧ l < 2 * n ∧ (∀ v, v < n → I 501 v = wb_i (V v)) ∧ q (.inl (some (.int (wb_i (dz_l V l))))) T N I L R 0 0
set_option maxRecDepth 100000 in
theorem wM_460 : ∃ cb ci np, pt_mt 460 = some (32, cb, 2, false, some .boolean, ci, np) := ⟨_, _, _, rfl⟩
set_option maxRecDepth 100000 in
set_option maxHeartbeats 4000000 in
theorem dz_value {sc : pt_Sc} {d : Nat} : wv_C wm_fx sc (d + 1) 460 dz_c460 := by
  rintro as T N I L R q ⟨l, n, V, rfl, hT, hn, hl, hV, h⟩ w0 HR
  obtain ⟨cb, ci, np, hm⟩ := wM_460
  refine wv_meth (hh := none) rfl (sp := fun _ _ _ _ _ _ _ _ => False) (hd := fun _ => none) (n := 0) (n1 := 300) hm zc_460 rfl (fun k as T N I L R q h => by cases h) ?_ (fun pc P h => by cases h) HR
  have e2 : Int32.ofNat l / Int32.ofInt 2 = Int32.ofNat (l / 2) := wi_dn (b := 2) (by omega) (by omega)
  have e3 : Int32.ofNat l - Int32.ofNat l / Int32.ofInt 2 * Int32.ofInt 2 = Int32.ofNat (l % 2) := wi_rn (b := 2) (by omega) (by omega)
  refine ⟨by decide, 2, _, Or.inl rfl, wm_t hT rfl, ?_, ?_⟩
  · rw [e2]
    exact pp_b (c := 70) (by omega) (by omega)
  rw [e2, wi_onn (by omega), hV (l / 2) (by omega)]
  refine ⟨by decide, ?_⟩
  rw [e3]
  have m1 := wi_on (n := l % 2) (by omega)
  unfold dz_l at h
  refine ⟨fun w1 => ?_, fun w1 => ?_⟩
  · have w1 : ¬ Int32.ofNat (l % 2) = Int32.ofNat 1 := w1
    rw [wi_eq, m1, wi_on (by omega)] at w1
    rw [decide_eq_false (by omega), Bool.xor_false] at h
    refine ⟨fun w2 => ?_, fun w2 => ?_⟩
    · rw [wb_i_0.mp w2] at h
      exact ⟨⟨rfl, rfl⟩, h⟩
    · rw [wb_i_1.mp w2] at h
      exact ⟨⟨rfl, rfl⟩, h⟩
  · have w1 : ¬ ¬ Int32.ofNat (l % 2) = Int32.ofNat 1 := w1
    rw [wi_eq, m1, wi_on (by omega)] at w1
    rw [decide_eq_true (by omega), Bool.xor_true] at h
    refine ⟨fun w2 => ?_, fun w2 => ?_⟩
    · have e4 : V (l / 2) = true := by
        cases hb : V (l / 2) with
        | true => rfl
        | false =>
          rw [hb] at w2
          exact absurd w2 (by decide)
      rw [e4] at h
      exact ⟨⟨rfl, rfl⟩, h⟩
    · have e4 : V (l / 2) = false := by
        cases hb : V (l / 2) with
        | false => rfl
        | true =>
          rw [hb] at w2
          exact absurd rfl w2
      rw [e4] at h
      exact ⟨⟨rfl, rfl⟩, h⟩
