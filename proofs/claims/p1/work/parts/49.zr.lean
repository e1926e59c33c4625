/-! ===== what the evaluator's codes, rows and trees stand for ===== -/
/-- what the names stand for: ints, longs, the unknown static -/
abbrev zy_G : Type := (Nat → Int32) × (Nat → Int64) × Value
def zy_v (g : zy_G) : Value → Value
  | .retAddr i => .int (g.1 i)
  | .double b => .long (g.2.1 b.toNat)
  | .float _ => g.2.2
  | v => v
def zy_n : Value → Bool
  | .retAddr _ => true
  | .double _ => true
  | .float _ => true
  | _ => false
def zv (g : zy_G) (c : Nat) : Value := zy_v g (zc_d c)
section ZRA
variable {g : zy_G}
theorem zy_v_id {v : Value} (h : zy_n v = false) : zy_v g v = v := by cases v <;> first | rfl | cases h
theorem zy_cat (hc : g.2.2.category = 1) (v : Value) : (zy_v g v).category = v.category := by cases v <;> first | rfl | exact hc
theorem zc_d0 {c : Nat} (h : Nat.mod c 4 = 0) : zc_d c = .int (zk_i (c / 4)) := by
  unfold zc_d
  rw [h]
  rfl
theorem zc_d1 {c : Nat} (h : Nat.mod c 4 = 1) : zc_d c = .long (zk_l (c / 4)) := by
  unfold zc_d
  rw [h]
  rfl
theorem zc_d2 {c a : Nat} (h : Nat.mod c 4 = 2) (h2 : Nat.div c 4 = a + 1) : zc_d c = .ref a := by
  unfold zc_d
  rw [h]
  show (match Nat.div c 4 with | 0 => Value.null | a + 1 => .ref a) = _
  rw [h2]
theorem zc_d2n {c : Nat} (h : Nat.mod c 4 = 2) (h2 : Nat.div c 4 = 0) : zc_d c = .null := by
  unfold zc_d
  rw [h]
  show (match Nat.div c 4 with | 0 => Value.null | a + 1 => .ref a) = _
  rw [h2]
theorem zc_d3 {c : Nat} (h : Nat.mod c 4 = 3) : zc_d c = zc_nm (Nat.div c 4) := by
  unfold zc_d
  rw [h]
  rfl
theorem zc_d30 {c : Nat} (h : Nat.mod c 4 = 3) (h2 : Nat.mod (Nat.div c 4) 4 = 0) : zc_d c = .retAddr (Nat.div (Nat.div c 4) 4) := by
  rw [zc_d3 h]
  unfold zc_nm
  rw [h2]
  rfl
theorem zc_d31 {c : Nat} (h : Nat.mod c 4 = 3) (h2 : Nat.mod (Nat.div c 4) 4 = 1) : zc_d c = .double (UInt64.ofNat (Nat.div (Nat.div c 4) 4)) := by
  rw [zc_d3 h]
  unfold zc_nm
  rw [h2]
  rfl
theorem zc_m4 (c : Nat) : Nat.mod c 4 = 0 ∨ Nat.mod c 4 = 1 ∨ Nat.mod c 4 = 2 ∨ Nat.mod c 4 = 3 := by
  have : Nat.mod c 4 < 4 := Nat.mod_lt _ (by decide)
  omega
theorem zc_ct_d (c : Nat) : zc_ct c = (zc_d c).category := by
  unfold zc_ct
  rcases zc_m4 c with h | h | h | h
  · rw [zc_d0 h, h]; rfl
  · rw [zc_d1 h, h]; rfl
  · rw [h]
    cases h2 : Nat.div c 4 with
    | zero => rw [zc_d2n h h2]; rfl
    | succ a => rw [zc_d2 h h2]; rfl
  · rw [h]
    show (match Nat.mod (Nat.div c 4) 4 with | 1 => 2 | _ => 1) = _
    rcases zc_m4 (Nat.div c 4) with h2 | h2 | h2 | h2
    · rw [zc_d30 h h2, h2]; rfl
    · rw [zc_d31 h h2, h2]; rfl
    · rw [zc_d3 h]; unfold zc_nm; rw [h2]; rfl
    · rw [zc_d3 h]; unfold zc_nm; rw [h2]; rfl
theorem zc_ct_v (hc : g.2.2.category = 1) (c : Nat) : (zv g c).category = zc_ct c := by
  unfold zv
  rw [zy_cat hc, zc_ct_d]
theorem zc_d_ref (a : Nat) : zc_d (zc_en (.ref a)) = .ref a := by
  have h0 : Nat.mod (zc_en (.ref a)) 4 = 2 := by show (4 * a + 6) % 4 = 2; omega
  have h1 : Nat.div (zc_en (.ref a)) 4 = a + 1 := by show (4 * a + 6) / 4 = _; omega
  exact zc_d2 h0 h1
theorem zc_d_en (v : Value) (h : ∀ b, v ≠ .float b) : zc_d (zc_en v) = v := by
  cases v with
  | int x =>
    have h0 : Nat.mod (zc_en (.int x)) 4 = 0 := by show (4 * x.toUInt32.toNat) % 4 = 0; omega
    rw [zc_d0 h0]
    have : zc_en (.int x) / 4 = x.toUInt32.toNat := by show (4 * x.toUInt32.toNat) / 4 = _; omega
    rw [this, zk_i_eq]
  | long x =>
    have h0 : Nat.mod (zc_en (.long x)) 4 = 1 := by show (4 * x.toUInt64.toNat + 1) % 4 = 1; omega
    rw [zc_d1 h0]
    have : zc_en (.long x) / 4 = x.toUInt64.toNat := by show (4 * x.toUInt64.toNat + 1) / 4 = _; omega
    rw [this, zk_l_eq]
  | float b => exact absurd rfl (h b)
  | double b =>
    have h0 : Nat.mod (zc_en (.double b)) 4 = 3 := by show (16 * b.toNat + 7) % 4 = 3; omega
    have h1 : Nat.div (zc_en (.double b)) 4 = 4 * b.toNat + 1 := by show (16 * b.toNat + 7) / 4 = _; omega
    have h2 : Nat.mod (Nat.div (zc_en (.double b)) 4) 4 = 1 := by rw [h1]; show (4 * b.toNat + 1) % 4 = 1; omega
    rw [zc_d31 h0 h2, h1]
    have : Nat.div (4 * b.toNat + 1) 4 = b.toNat := by show (4 * b.toNat + 1) / 4 = _; omega
    rw [this, UInt64.ofNat_toNat]
  | null => rfl
  | ref a => exact zc_d_ref a
  | retAddr i =>
    have h0 : Nat.mod (zc_en (.retAddr i)) 4 = 3 := by show (16 * i + 3) % 4 = 3; omega
    have h1 : Nat.div (zc_en (.retAddr i)) 4 = 4 * i := by show (16 * i + 3) / 4 = _; omega
    have h2 : Nat.mod (Nat.div (zc_en (.retAddr i)) 4) 4 = 0 := by rw [h1]; show (4 * i) % 4 = 0; omega
    rw [zc_d30 h0 h2, h1]
    have : Nat.div (4 * i) 4 = i := by show (4 * i) / 4 = _; omega
    rw [this]
theorem zv_en (v : Value) : zv g (zc_en v) = zy_v g v := by
  unfold zv
  cases v with
  | float b =>
    have e : zc_d 11 = .float 0 := by decide
    show zy_v g (zc_d 11) = _
    rw [e]
    rfl
  | _ => rw [zc_d_en _ (fun b => by simp)]
theorem zv_int (x : Int32) : zv g (zc_en (.int x)) = .int x := zv_en _
/-- numbers that are not negative -/
theorem zi_nn {u : Nat} (h : u < 2147483648) : ¬ zk_i u < 0 ∧ (zk_i u).toNatClampNeg = u := by
  have e : (zk_i u).toInt = u := by
    unfold zk_i
    show (BitVec.ofNat 32 u).toInt = u
    rw [BitVec.toInt_eq_toNat_cond, BitVec.toNat_ofNat]
    have : u % 2 ^ 32 = u := Nat.mod_eq_of_lt (by omega)
    rw [this, if_pos (by omega)]
  constructor
  · intro hlt
    have := Int32.lt_iff_toInt_lt.mp hlt
    rw [e] at this
    have e0 : (0 : Int32).toInt = 0 := rfl
    rw [e0] at this
    omega
  · show (zk_i u).toInt.toNat = u
    rw [e]
    rfl
end ZRA
/-! rows -/
theorem zp_Dp (i : Nat) : 0 < zp_D i := Nat.pow_pos (by decide)
theorem zp_Da (i j : Nat) : zp_D (i + j) = zp_D i * zp_D j := by
  show 2 ^ (72 * (i + j)) = 2 ^ (72 * i) * 2 ^ (72 * j)
  rw [Nat.mul_add, Nat.pow_add]
theorem zp_D1 : zp_D 1 = 4722366482869645213696 := by decide
theorem zp_Ds (i : Nat) : Nat.mul (zp_D i) 4722366482869645213696 = zp_D (i + 1) := by
  rw [zp_Da, zp_D1]
  rfl
/-- a block of n in a row -/
theorem zp_blk {P Q i n j : Nat} (hQ : Q < zp_D n) : zp_g (P % zp_D i + zp_D i * (Q + zp_D n * (P / zp_D (i + n)))) (zp_D j) = if i ≤ j ∧ j < i + n then zp_g Q (zp_D (j - i)) else zp_g P (zp_D j) := by
  show (P % zp_D i + zp_D i * (Q + zp_D n * (P / zp_D (i + n)))) / zp_D j % 4722366482869645213696 = if i ≤ j ∧ j < i + n then Q / zp_D (j - i) % 4722366482869645213696 else P / zp_D j % 4722366482869645213696
  rw [← zp_D1]
  by_cases h1 : i ≤ j
  · obtain ⟨e, rfl⟩ : ∃ e, j = i + e := ⟨j - i, by omega⟩
    have hX : (P % zp_D i + zp_D i * (Q + zp_D n * (P / zp_D (i + n)))) / zp_D (i + e) = (Q + zp_D n * (P / zp_D (i + n))) / zp_D e := by
      rw [zp_Da i e, ← Nat.div_div_eq_div_mul _ (zp_D i) (zp_D e), Nat.add_mul_div_left _ _ (zp_Dp i), Nat.div_eq_of_lt (Nat.mod_lt _ (zp_Dp i)), Nat.zero_add]
    rw [hX]
    by_cases h2 : e < n
    · rw [if_pos ⟨h1, by omega⟩, Nat.add_sub_cancel_left]
      obtain ⟨f, rfl⟩ : ∃ f, n = e + (1 + f) := ⟨n - e - 1, by omega⟩
      have e1 : Q + zp_D (e + (1 + f)) * (P / zp_D (i + (e + (1 + f)))) = Q + zp_D e * (zp_D 1 * (zp_D f * (P / zp_D (i + (e + (1 + f)))))) := by
        rw [zp_Da e, zp_Da 1 f, Nat.mul_assoc, Nat.mul_assoc]
      rw [e1, Nat.add_mul_div_left _ _ (zp_Dp e), Nat.add_mul_mod_self_left]
    · rw [if_neg (by omega)]
      obtain ⟨f, rfl⟩ : ∃ f, e = n + f := ⟨e - n, by omega⟩
      rw [zp_Da n f, ← Nat.div_div_eq_div_mul _ (zp_D n) (zp_D f), Nat.add_mul_div_left _ _ (zp_Dp n), Nat.div_eq_of_lt hQ, Nat.zero_add, Nat.div_div_eq_div_mul, ← zp_Da, Nat.add_assoc]
  · rw [if_neg (by omega)]
    obtain ⟨f, rfl⟩ : ∃ f, i = j + (1 + f) := ⟨i - j - 1, by omega⟩
    have e1 : ∀ Y, P % zp_D (j + (1 + f)) + zp_D (j + (1 + f)) * Y = P % (zp_D j * (zp_D 1 * zp_D f)) + zp_D j * (zp_D 1 * (zp_D f * Y)) := by
      intro Y
      rw [zp_Da j, zp_Da 1 f, Nat.mul_assoc, Nat.mul_assoc]
    rw [e1, Nat.add_mul_div_left _ _ (zp_Dp j), Nat.add_mul_mod_self_left, Nat.mod_mul_right_div_self, Nat.mod_mul_right_mod]
theorem zp_gs {P i j v : Nat} (hv : v < 4722366482869645213696) : zp_g (zp_s P (zp_D i) v) (zp_D j) = if i = j then v else zp_g P (zp_D j) := by
  have e : zp_s P (zp_D i) v = P % zp_D i + zp_D i * (v + zp_D 1 * (P / zp_D (i + 1))) := by
    rw [zp_Da i 1, zp_D1]
    rfl
  rw [e, zp_blk (by rw [zp_D1]; exact hv)]
  by_cases h : i = j
  · subst h
    rw [if_pos ⟨Nat.le_refl _, by omega⟩, if_pos rfl, Nat.sub_self]
    show v / 1 % _ = v
    rw [Nat.div_one, Nat.mod_eq_of_lt hv]
  · rw [if_neg (by omega), if_neg h]
theorem zp_g0 (D : Nat) : zp_g 0 D = 0 := by
  show 0 / D % _ = 0
  rw [Nat.zero_div]
theorem zs_p_ok {P D v : Nat} {k : Nat → ze_R} {out : ze_O} (h : zs_p P D v k = some out) : v < 4722366482869645213696 ∧ k (zp_s P D v) = some out := by
  unfold zs_p at h
  cases hb : Nat.blt v 4722366482869645213696 with
  | false => rw [hb] at h; cases h
  | true =>
    rw [hb] at h
    have h2 : zs_f (zp_s P D v) k = some out := h
    rw [zs_f_eq] at h2
    exact ⟨Nat.blt_eq.mp hb, h2⟩
theorem ze_b_t {α : Type} {b : Bool} {x y : α} (h : b = true) : ze_b b x y = x := by subst h; rfl
theorem ze_b_f {α : Type} {b : Bool} {x y : α} (h : b = false) : ze_b b x y = y := by subst h; rfl
theorem ze_b_some {b : Bool} {x : ze_R} {out : ze_O} (h : ze_b b x none = some out) : b = true ∧ x = some out := by
  cases b with
  | false => cases h
  | true => exact ⟨rfl, h⟩
/-! the tree -/
def zt_L {α : Type} (n : Nat) (gd : α → Nat → ze_C) (sd : α → Nat → ze_C → α) : Prop := ∀ t a b c, gd (sd t a c) b = if (∀ i, i < n → a.testBit i = b.testBit i) then c else gd t b
section ZRT
variable {α : Type}
def zt_gd (b : Nat) (g : α → Nat → ze_C) (t : α × α) (a : Nat) : ze_C := if Nat.land a b = 0 then g t.1 a else g t.2 a
def zt_sd (b : Nat) (s : α → Nat → ze_C → α) (t : α × α) (a : Nat) (c : ze_C) : α × α := if Nat.land a b = 0 then (s t.1 a c, t.2) else (t.1, s t.2 a c)
theorem zt_bit (a n : Nat) : Nat.land a (2 ^ n) = 0 ↔ a.testBit n = false := by
  show (a &&& 2 ^ n) = 0 ↔ _
  constructor
  · intro h
    have h2 : (a &&& 2 ^ n).testBit n = Nat.testBit 0 n := by rw [h]
    rw [Nat.testBit_and, Nat.testBit_two_pow_self, Nat.zero_testBit, Bool.and_true] at h2
    exact h2
  · intro h
    apply Nat.eq_of_testBit_eq
    intro i
    rw [Nat.testBit_and, Nat.zero_testBit]
    by_cases hi : n = i
    · subst hi
      rw [h, Bool.false_and]
    · rw [Nat.testBit_two_pow_of_ne hi, Bool.and_false]
theorem zt_step {n : Nat} {gd : α → Nat → ze_C} {sd : α → Nat → ze_C → α} (h : zt_L n gd sd) : zt_L (n + 1) (zt_gd (2 ^ n) gd) (zt_sd (2 ^ n) sd) := by
  intro t a b c
  have hall : (∀ i, i < n + 1 → a.testBit i = b.testBit i) ↔ (a.testBit n = b.testBit n ∧ ∀ i, i < n → a.testBit i = b.testBit i) := by
    constructor
    · intro z
      exact ⟨z n (by omega), fun i hi => z i (by omega)⟩
    · intro z i hi
      rcases Nat.lt_succ_iff_lt_or_eq.mp hi with hi | rfl
      · exact z.2 i hi
      · exact z.1
  simp only [zt_gd, zt_sd, zt_bit]
  cases ha : a.testBit n <;> cases hb : b.testBit n <;> simp only [ha, hb, hall, if_true, if_false, true_and, false_and, reduceCtorEq, Bool.false_eq_true, Bool.true_eq_false]
  · exact h t.1 a b c
  · exact h t.2 a b c
theorem zt_gs_eq {b : Nat} {g : α → Nat → (ze_C → ze_R) → ze_R} {gd : α → Nat → ze_C} (h : ∀ t a k, g t a k = k (gd t a)) : ∀ t a k, ze_gs b g t a k = k (zt_gd b gd t a) := by
  intro t a k
  obtain ⟨l, r⟩ := t
  show Nat.rec (motive := fun _ => ze_R) (g l a k) (fun _ _ => g r a k) (Nat.land a b) = _
  unfold zt_gd
  cases Nat.land a b with
  | zero => exact h l a k
  | succ x => exact h r a k
theorem zt_ss_eq {b : Nat} {s : α → Nat → ze_C → (α → ze_R) → ze_R} {sd : α → Nat → ze_C → α} (h : ∀ t a c k, s t a c k = k (sd t a c)) : ∀ t a c k, ze_ss b s t a c k = k (zt_sd b sd t a c) := by
  intro t a c k
  obtain ⟨l, r⟩ := t
  show Nat.rec (motive := fun _ => ze_R) (s l a c fun l => k (l, r)) (fun _ _ => s r a c fun r => k (l, r)) (Nat.land a b) = _
  unfold zt_sd
  cases Nat.land a b with
  | zero => exact h l a c _
  | succ x => exact h r a c _
end ZRT
def zt_g : ze_T → Nat → ze_C := zt_gd 512 (zt_gd 256 (zt_gd 128 (zt_gd 64 (zt_gd 32 (zt_gd 16 (zt_gd 8 (zt_gd 4 (zt_gd 2 (zt_gd 1 (fun c _ => c))))))))))
def zt_s : ze_T → Nat → ze_C → ze_T := zt_sd 512 (zt_sd 256 (zt_sd 128 (zt_sd 64 (zt_sd 32 (zt_sd 16 (zt_sd 8 (zt_sd 4 (zt_sd 2 (zt_sd 1 (fun _ _ c => c))))))))))
theorem ze_g_eq : ∀ (t : ze_T) (a : Nat) (k : ze_C → ze_R), ze_g t a k = k (zt_g t a) :=
  zt_gs_eq (zt_gs_eq (zt_gs_eq (zt_gs_eq (zt_gs_eq (zt_gs_eq (zt_gs_eq (zt_gs_eq (zt_gs_eq (zt_gs_eq (g := fun c _ k => k c) (gd := fun c _ => c) (fun _ _ _ => rfl))))))))))
theorem ze_s_eq : ∀ (t : ze_T) (a : Nat) (c : ze_C) (k : ze_T → ze_R), ze_s t a c k = k (zt_s t a c) :=
  zt_ss_eq (zt_ss_eq (zt_ss_eq (zt_ss_eq (zt_ss_eq (zt_ss_eq (zt_ss_eq (zt_ss_eq (zt_ss_eq (zt_ss_eq (s := fun _ _ c k => k c) (sd := fun _ _ c => c) (fun _ _ _ _ => rfl))))))))))
theorem zt_gs (t : ze_T) (a b : Nat) (c : ze_C) (ha : a < 1024) (hb : b < 1024) : zt_g (zt_s t a c) b = if a = b then c else zt_g t b := by
  have h0 : zt_L 0 (fun (c : ze_C) (_ : Nat) => c) (fun _ _ c => c) := by
    intro t a b c
    rw [if_pos (fun i hi => absurd hi (Nat.not_lt_zero i))]
  have h := zt_step (zt_step (zt_step (zt_step (zt_step (zt_step (zt_step (zt_step (zt_step (zt_step h0)))))))))
  have h1 := h t a b c
  have h2 : (∀ i, i < 10 → a.testBit i = b.testBit i) ↔ a = b := by
    constructor
    · intro z
      apply Nat.eq_of_testBit_eq
      intro i
      by_cases hi : i < 10
      · exact z i hi
      · have hp : 1024 ≤ 2 ^ i := by
          have : 2 ^ 10 ≤ 2 ^ i := Nat.pow_le_pow_right (by decide) (by omega)
          exact this
        rw [Nat.testBit_lt_two_pow (by omega), Nat.testBit_lt_two_pow (by omega)]
    · rintro rfl i _
      rfl
  simp only [h2] at h1
  exact h1
/-! what cells stand for -/
/-- what a load from an array of this kind pushes -/
def zn (k : Nat) (v : Value) : Value := if k = 1 then .long (pz_L v) else (if 4 ≤ k then va_rf (pz_R v) else .int (pz_I v))
def zl_e (k e : Nat) : Nat := if e = 0 then (if k = 1 then 1 else (if 4 ≤ k then 2 else 0)) else e
def zR_d (g : zy_G) (c : ze_C) : pz_C → Prop
  | .inr (ci, fs) => c.1 = 2 * ci ∧ c.2.1 = fs.length ∧ ∀ k, k < fs.length → fs[k]? = some (zv g (zp_g c.2.2 (zp_D k)))
  | .inl (k, n, z) => c.1 = 2 * k + 1 ∧ c.2.1 = n ∧ ∀ i, zn k (pz_g z i) = zv g (zl_e k (zp_g c.2.2 (zp_D i)))
/-- the head 10000: a cell of which nothing is known, and which no one may look at -/
def zR_c (g : zy_G) (c : ze_C) (c' : pz_C) : Prop := c.1 = 10000 ∨ zR_d g c c'
def zR_w (g : zy_G) (t : ze_T) (n : Nat) (w : List pz_C) : Prop := w.length = n ∧ n ≤ 1024 ∧ ∀ a c, w[a]? = some c → zR_c g (zt_g t a) c
def zR_l (g : zy_G) (lv : Nat) (lv' : List (Nat × Value)) : Prop := ∀ i c, zp_g lv (zp_D i) = c + 1 → (zc_ct c = 1 → c ≠ 15 → pz_ld lv' i = some (zv g c)) ∧ (zc_ct c = 2 → zp_g lv (zp_D (i + 1)) = 16 → pz_ld lv' i = some (zv g c))
/-- the evaluator's place stands for the pure machine's -/
def zZ (sc : pt_Sc) (g : zy_G) (d j pc lv : Nat) (st : List Nat) (t : ze_T) (m : ze_M) (Q : pz_O → Prop) : Prop := ∀ lv' w', zR_l g lv lv' → zR_w g t m.1 w' → zW sc d j pc lv' (st.map (zv g)) w' m.2.1 m.2.2 Q
def zO (sc : pt_Sc) (g : zy_G) (d j : Nat) (Q : pz_O → Prop) : ze_O → Prop
  | .inl (.inl v, t, m) => ∀ w', zR_w g t m.1 w' → Q (.inl (v.map (zv g)), w', m.2.1, m.2.2)
  | .inl (.inr y, t, m) => ∀ w', zR_w g t m.1 w' → Q (.inr y, w', m.2.1, m.2.2)
  | .inr (pc, lv, st, t, m) => zZ sc g d j pc lv st t m Q
def zKs (sc : pt_Sc) (g : zy_G) (d j pc : Nat) (K : ze_K) : Prop := ∀ lv st t m out Q, K lv st t m = some out → zO sc g d j Q out → zZ sc g d j pc lv st t m Q
def zCs (sc : pt_Sc) (g : zy_G) (d : Nat) (call : Nat → Nat → ze_T → ze_M → ze_R) : Prop := ∀ k lv t m x, call k lv t m = some (.inl x) → ∃ d1, d = d1 + 1 ∧ ∀ Q, zO sc g d1 k Q (.inl x) → zZ sc g d1 k 0 lv [] t m Q
def zy_rel : Instr → Int32 → Int32 → Option Bool
  | .ifCond .eq _, x, y => some (decide (x = y))
  | .ifCond .ne _, x, y => some (!(decide (x = y)))
  | .ifCond .lt _, x, y => some (decide (x < y))
  | .ifCond .ge _, x, y => some (decide (y ≤ x))
  | .ifCond .gt _, x, y => some (decide (y < x))
  | .ifCond .le _, x, y => some (decide (x ≤ y))
  | .if_icmp .eq _, x, y => some (decide (x = y))
  | .if_icmp .ne _, x, y => some (!(decide (x = y)))
  | .if_icmp .lt _, x, y => some (decide (x < y))
  | .if_icmp .ge _, x, y => some (decide (y ≤ x))
  | .if_icmp .gt _, x, y => some (decide (y < x))
  | .if_icmp .le _, x, y => some (decide (x ≤ y))
  | _, _, _ => none
/-- what is said of names is so -/
def zE_ok (sc : pt_Sc) (g : zy_G) (E : ze_E) : Prop :=
  (∀ ins x v, E.1 ins x = some v → zk_g ins = 1 ∧ ∀ r, pz_B ins (zy_v g x :: r) = some (zy_v g v :: r)) ∧
  (∀ ins x y v, E.2.1 ins x y = some v → zk_g ins = 1 ∧ ∀ r, pz_B ins (zy_v g y :: zy_v g x :: r) = some (zy_v g v :: r)) ∧
  (∀ ins x y b, E.2.2.1 ins x y = some b → ∃ a c, zy_v g x = .int a ∧ zy_v g y = .int c ∧ zy_rel ins a c = some b) ∧
  (∀ k v, E.2.2.2.1 k v = true → ∃ x, zy_v g v = .int x ∧ (k = 2 → vp_nar .boolean x = x) ∧ (k = 3 → vp_nar .byte x = x)) ∧
  (∀ i c, E.2.2.2.2 i = some c → ∃ c', pt_OT sc i = some c' ∧ zR_c g c c')
/-- an instruction's work is the pure machine's -/
def zI (sc : pt_Sc) (g : zy_G) (j pc len : Nat) (f : ze_I) : Prop := ∀ d E next jmp call, zE_ok sc g E → zKs sc g d j (pc + len) next → (∀ tg, zKs sc g d j tg (jmp tg)) → zCs sc g d call → zKs sc g d j pc (f E next jmp call)
