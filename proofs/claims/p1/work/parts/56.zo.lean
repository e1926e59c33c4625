/-! ===== names of a script's numbers: boxes, and what is known in them ===== -/
/-- a number's place in the row of all ints -/
def zb_o (x : Int32) : Nat := Nat.mod (Nat.add x.toUInt32.toNat 2147483648) 4294967296
theorem zb_o_int (x : Int32) : (zb_o x : Int) = x.toInt + 2147483648 := by
  have h1 : x.toInt = if 2 * x.toUInt32.toNat < 4294967296 then (x.toUInt32.toNat : Int) else (x.toUInt32.toNat : Int) - 4294967296 := by
    show x.toBitVec.toInt = _
    rw [BitVec.toInt_eq_toNat_cond]
    rfl
  have h2 : x.toUInt32.toNat < 4294967296 := x.toUInt32.toNat_lt
  show (((x.toUInt32.toNat + 2147483648) % 4294967296 : Nat) : Int) = _
  rw [h1]
  split <;> omega
theorem zb_o_lt (x : Int32) : zb_o x < 4294967296 := Nat.mod_lt _ (by decide)
theorem zb_lt {x y : Int32} : x < y ↔ zb_o x < zb_o y := by
  rw [Int32.lt_iff_toInt_lt]
  have h1 := zb_o_int x
  have h2 := zb_o_int y
  omega
theorem zb_le {x y : Int32} : x ≤ y ↔ zb_o x ≤ zb_o y := by
  rw [Int32.le_iff_toInt_le]
  have h1 := zb_o_int x
  have h2 := zb_o_int y
  omega
theorem zb_eq {x y : Int32} : x = y ↔ zb_o x = zb_o y := by
  constructor
  · rintro rfl
    rfl
  · intro h
    apply Int32.toInt_inj.mp
    have h1 := zb_o_int x
    have h2 := zb_o_int y
    omega
/-- a box: bounds of names by number -/
abbrev zb_B : Type := List (Nat × Nat × Nat)
def zb_l : zb_B → Nat → Nat × Nat
  | [], _ => (0, 4294967295)
  | q :: t, i => if q.1 = i then q.2 else zb_l t i
def zb_iv (b : zb_B) : Value → Option (Nat × Nat)
  | .int x => some (zb_o x, zb_o x)
  | .retAddr i => some (zb_l b i)
  | _ => none
def zb_teq (p q : Nat × Nat) : Option Bool := if p.2 < q.1 ∨ q.2 < p.1 then some false else (if p.1 = p.2 ∧ q.1 = q.2 ∧ p.1 = q.1 then some true else none)
def zb_tlt (p q : Nat × Nat) : Option Bool := if p.2 < q.1 then some true else (if q.2 ≤ p.1 then some false else none)
def zb_c (c : Jvm.ClassFile.Cond) (p q : Nat × Nat) : Option Bool := match c with
  | .eq => zb_teq p q
  | .ne => (zb_teq p q).map (fun b => !b)
  | .lt => zb_tlt p q
  | .ge => (zb_tlt p q).map (fun b => !b)
  | .gt => zb_tlt q p
  | .le => (zb_tlt q p).map (fun b => !b)
/-- the second and the third number against one another: 1 less, 2 the same, 3 greater -/
def zb_r (c : Jvm.ClassFile.Cond) (r : Nat) : Option Bool := if r = 0 then none else (match c with
  | .eq => some (decide (r = 2))
  | .ne => some (decide (r ≠ 2))
  | .lt => some (decide (r = 1))
  | .ge => some (decide (r ≠ 1))
  | .gt => some (decide (2 < r))
  | .le => some (decide (r ≤ 2)))
def zb_j (b : zb_B) (r : Nat) (ins : Instr) (x y : Value) : Option Bool := match ins with
  | .ifCond c _ => (match zb_iv b x, zb_iv b y with | some p, some q => zb_c c p q | _, _ => none)
  | .if_icmp c _ => (match (if x = .retAddr 2 ∧ y = .retAddr 3 then zb_r c r else none) with
    | some z => some z
    | none => (match zb_iv b x, zb_iv b y with | some p, some q => zb_c c p q | _, _ => none))
  | _ => none
def zb_u (ins : Instr) (x : Value) : Option Value := match ins, x with
  | .i2l, .retAddr i => if i < 4 then some (.double (UInt64.ofNat (64 + i))) else none
  | _, _ => none
def zb_b (op : Int32) (b : zb_B) (ins : Instr) (x y : Value) : Option Value := match ins, x, y with
  | .iand, .retAddr 0, .int z => if z = 31 then some (.int op) else none
  | .iand, .int z, .retAddr _ => if z = 0 then some (.int 0) else none
  | .iand, .retAddr i, .int z => if z = 255 then (if 10 ≤ i ∧ i < 14 then some (.retAddr (i + 20)) else (if 20 ≤ i ∧ i < 24 then some (.retAddr (i + 10)) else none)) else none
  | .ixor, .retAddr i, .int z => if z = -1 ∧ i < 4 then some (.retAddr (i + 40)) else none
  | .iushr, .retAddr 1, .int z => if z = 0 then some (.retAddr 10) else (if z = 8 then some (.retAddr 11) else (if z = 16 then some (.retAddr 12) else (if z = 24 then some (.retAddr 13) else none)))
  | .ishr, .retAddr 1, .int z => if z = 0 then some (.retAddr 20) else (if z = 8 then some (.retAddr 21) else (if z = 16 then some (.retAddr 22) else (if z = 24 then some (.retAddr 23) else none)))
  | .lushr, .long z, .retAddr 1 => if z = -1 then some (.double 5000) else none
  | .land, .double e, .long z => if e = 5000 ∧ z = 1 then some (.long 1) else none
  | .lmul, .long z, .double e => if e = 66 then (if z = 1 then some (.double 66) else (if z = 2 then some (.double 130) else (if z = 3 then some (.double 194) else none))) else none
  | .lcmp, .double e, .long z => if (z = 12 ∨ z = 9) ∧ 2147483648 + 12 < (zb_l b 2).1 ∧ (e = 66 ∨ e = 130 ∨ e = 194) then some (.int 1) else none
  | _, _, _ => none
def zb_n (b : zb_B) (k : Nat) (v : Value) : Bool := match v with
  | .retAddr i => (match k with
    | 2 => decide (2147483648 ≤ (zb_l b i).1) && decide ((zb_l b i).2 ≤ 2147483649)
    | 3 => decide (2147483520 ≤ (zb_l b i).1) && decide ((zb_l b i).2 ≤ 2147483775)
    | _ => false)
  | _ => false
/-- the cells outside, packed; the script's holds four names -/
def zb_ot (L P : Nat) (i : Nat) : Option ze_C := if i = 0 then some (1, L, P) else (pt_look pt_OTL i).map ze_pkc
def zb_P4 : Nat := 3 + 4722366482869645213696 * (19 + 4722366482869645213696 * (35 + 4722366482869645213696 * 51))
/-- the code of the script's i-th number: itself where the box says it, else its name -/
def zb_cd (b : zb_B) (i : Nat) : Nat := if (zb_l b i).1 = (zb_l b i).2 then Nat.mul 4 (Nat.mod (Nat.add (zb_l b i).1 2147483648) 4294967296) else Nat.add (Nat.mul 16 i) 3
def zb_P (b : zb_B) : Nat := Nat.add (zb_cd b 0) (Nat.mul 4722366482869645213696 (Nat.add (zb_cd b 1) (Nat.mul 4722366482869645213696 (Nat.add (zb_cd b 2) (Nat.mul 4722366482869645213696 (zb_cd b 3))))))
def zb_E (op : Int32) (b : zb_B) (r : Nat) : ze_E := (zb_u, zb_b op b, zb_j b r, zb_n b, zb_ot 4 (zb_P b))
/-- nothing known, a script of L numbers that no one looks at -/
def zb_E0 (L P : Nat) : ze_E := (fun _ _ => none, fun _ _ _ => none, fun _ _ _ => none, fun _ _ => false, zb_ot L P)
def zg_i (xs : Nat → Int32) (i : Nat) : Int32 :=
  if i < 4 then xs i else if i < 14 then ((xs 1).toUInt32 >>> (Int32.toUInt32 (Int32.ofNat (8 * (i - 10))) &&& Int32.toUInt32 31)).toInt32 else if i < 24 then xs 1 >>> (Int32.ofNat (8 * (i - 20)) &&& 31) else if i < 34 then (((xs 1).toUInt32 >>> (Int32.toUInt32 (Int32.ofNat (8 * (i - 30))) &&& Int32.toUInt32 31)).toInt32) &&& 255 else xs (i - 40) ^^^ -1
def zg_l (xs : Nat → Int32) (e : Nat) : Int64 := if e = 5000 then (((-1 : Int64).toUInt64 >>> ((xs 1).toInt64.toUInt64 &&& Int64.toUInt64 63)).toInt64) else Int64.ofNat (e / 64) * (xs (e % 64)).toInt64
def zg (xs : Nat → Int32) (fv : Value) : zy_G := (zg_i xs, zg_l xs, fv)
/-- the numbers lie in the box -/
def zb_in (g : zy_G) (b : zb_B) (r : Nat) : Prop := (∀ i, (zb_l b i).1 ≤ zb_o (g.1 i) ∧ zb_o (g.1 i) ≤ (zb_l b i).2) ∧ (r = 1 → g.1 2 < g.1 3) ∧ (r = 2 → g.1 2 = g.1 3) ∧ (r = 3 → g.1 3 < g.1 2) ∧ r ≤ 3
section ZOA
variable {g : zy_G}
theorem zb_iv_ok {b : zb_B} {r : Nat} (hb : zb_in g b r) {v : Value} {p : Nat × Nat} (h : zb_iv b v = some p) : ∃ x, zy_v g v = .int x ∧ p.1 ≤ zb_o x ∧ zb_o x ≤ p.2 := by
  cases v with
  | int x =>
    have e : (zb_o x, zb_o x) = p := Option.some.inj h
    subst e
    refine ⟨x, rfl, ?_, ?_⟩
    · dsimp only
      generalize zb_o x = n
      omega
    · dsimp only
      generalize zb_o x = n
      omega
  | retAddr i =>
    have e : zb_l b i = p := Option.some.inj h
    subst e
    exact ⟨g.1 i, rfl, (hb.1 i).1, (hb.1 i).2⟩
  | _ => cases h
theorem zb_teq_ok {p q : Nat × Nat} {x y : Int32} {z : Bool} (h : zb_teq p q = some z) (hx : p.1 ≤ zb_o x ∧ zb_o x ≤ p.2) (hy : q.1 ≤ zb_o y ∧ zb_o y ≤ q.2) : z = decide (x = y) := by
  unfold zb_teq at h
  split at h
  · cases h
    symm
    rw [decide_eq_false_iff_not, zb_eq]
    omega
  · split at h
    · cases h
      symm
      rw [decide_eq_true_eq, zb_eq]
      omega
    · cases h
theorem zb_tlt_ok {p q : Nat × Nat} {x y : Int32} {z : Bool} (h : zb_tlt p q = some z) (hx : p.1 ≤ zb_o x ∧ zb_o x ≤ p.2) (hy : q.1 ≤ zb_o y ∧ zb_o y ≤ q.2) : z = decide (x < y) := by
  unfold zb_tlt at h
  split at h
  · cases h
    symm
    rw [decide_eq_true_eq, zb_lt]
    omega
  · split at h
    · cases h
      symm
      rw [decide_eq_false_iff_not, zb_lt]
      omega
    · cases h
theorem zb_nlt {x y : Int32} : (!(decide (x < y))) = decide (y ≤ x) := by
  rw [Bool.eq_iff_iff]
  simp only [Bool.not_eq_true', decide_eq_false_iff_not, decide_eq_true_eq]
  rw [zb_lt, zb_le]
  omega
theorem zb_c_ok {c : Jvm.ClassFile.Cond} {off : Int} {p q : Nat × Nat} {x y : Int32} {z : Bool} (h : zb_c c p q = some z) (hx : p.1 ≤ zb_o x ∧ zb_o x ≤ p.2) (hy : q.1 ≤ zb_o y ∧ zb_o y ≤ q.2) : zy_rel (.ifCond c off) x y = some z ∧ zy_rel (.if_icmp c off) x y = some z := by
  have hm : ∀ {o : Option Bool} {z : Bool}, o.map (fun b => !b) = some z → o = some (!z) := by
    intro o z h
    cases o with
    | none => cases h
    | some b => cases h; simp
  cases c with
  | eq =>
    rw [zb_teq_ok h hx hy]
    exact ⟨rfl, rfl⟩
  | ne =>
    have := zb_teq_ok (hm h) hx hy
    have e : z = !(decide (x = y)) := by rw [← this]; simp
    rw [e]
    exact ⟨rfl, rfl⟩
  | lt =>
    rw [zb_tlt_ok h hx hy]
    exact ⟨rfl, rfl⟩
  | ge =>
    have := zb_tlt_ok (hm h) hx hy
    have e : z = decide (y ≤ x) := by rw [← zb_nlt, ← this]; simp
    rw [e]
    exact ⟨rfl, rfl⟩
  | gt =>
    rw [zb_tlt_ok h hy hx]
    exact ⟨rfl, rfl⟩
  | le =>
    have := zb_tlt_ok (hm h) hy hx
    have e : z = decide (x ≤ y) := by rw [← zb_nlt, ← this]; simp
    rw [e]
    exact ⟨rfl, rfl⟩
theorem zb_r_ok {c : Jvm.ClassFile.Cond} {off : Int} {b : zb_B} {r : Nat} {z : Bool} (hb : zb_in g b r) (h : zb_r c r = some z) : zy_rel (.if_icmp c off) (g.1 2) (g.1 3) = some z := by
  obtain ⟨-, h1, h2, h3, h4⟩ := hb
  unfold zb_r at h
  split at h
  · cases h
  · rename_i h0
    have hr : r = 1 ∨ r = 2 ∨ r = 3 := by omega
    have hq : decide (g.1 2 = g.1 3) = decide (r = 2) ∧ decide (g.1 2 < g.1 3) = decide (r = 1) ∧ decide (g.1 3 ≤ g.1 2) = decide (r ≠ 1) ∧ decide (g.1 3 < g.1 2) = decide (2 < r) ∧ decide (g.1 2 ≤ g.1 3) = decide (r ≤ 2) := by
      have e1 := fun z => zb_lt.mp (h1 z)
      have e2 := fun z => zb_eq.mp (h2 z)
      have e3 := fun z => zb_lt.mp (h3 z)
      refine ⟨?_, ?_, ?_, ?_, ?_⟩
      · rw [decide_eq_decide, zb_eq]
        rcases hr with z | z | z
        · have := e1 z; omega
        · have := e2 z; omega
        · have := e3 z; omega
      · rw [decide_eq_decide, zb_lt]
        rcases hr with z | z | z
        · have := e1 z; omega
        · have := e2 z; omega
        · have := e3 z; omega
      · rw [decide_eq_decide, zb_le]
        rcases hr with z | z | z
        · have := e1 z; omega
        · have := e2 z; omega
        · have := e3 z; omega
      · rw [decide_eq_decide, zb_lt]
        rcases hr with z | z | z
        · have := e1 z; omega
        · have := e2 z; omega
        · have := e3 z; omega
      · rw [decide_eq_decide, zb_le]
        rcases hr with z | z | z
        · have := e1 z; omega
        · have := e2 z; omega
        · have := e3 z; omega
    obtain ⟨q1, q2, q3, q4, q5⟩ := hq
    cases c with
    | eq => rw [← h, ← q1]; rfl
    | ne =>
      have e : decide (r ≠ 2) = !(decide (g.1 2 = g.1 3)) := by rw [q1]; simp
      rw [← h]
      show some (!(decide (g.1 2 = g.1 3))) = some (decide (r ≠ 2))
      rw [e]
    | lt => rw [← h, ← q2]; rfl
    | ge => rw [← h, ← q3]; rfl
    | gt => rw [← h, ← q4]; rfl
    | le => rw [← h, ← q5]; rfl
theorem zb_j_ok {b : zb_B} {r : Nat} (hb : zb_in g b r) {ins : Instr} {x y : Value} {z : Bool} (h : zb_j b r ins x y = some z) : ∃ a c, zy_v g x = .int a ∧ zy_v g y = .int c ∧ zy_rel ins a c = some z := by
  unfold zb_j at h
  split at h
  · split at h
    · rename_i p q hp hq
      obtain ⟨a, ha, ha2⟩ := zb_iv_ok hb hp
      obtain ⟨c, hc, hc2⟩ := zb_iv_ok hb hq
      exact ⟨a, c, ha, hc, (zb_c_ok h ha2 hc2).1⟩
    · cases h
  · split at h
    · rename_i w hw
      cases h
      split at hw
      · rename_i hxy
        obtain ⟨rfl, rfl⟩ := hxy
        exact ⟨_, _, rfl, rfl, zb_r_ok hb hw⟩
      · cases hw
    · split at h
      · rename_i p q hp hq
        obtain ⟨a, ha, ha2⟩ := zb_iv_ok hb hp
        obtain ⟨c, hc, hc2⟩ := zb_iv_ok hb hq
        exact ⟨a, c, ha, hc, (zb_c_ok h ha2 hc2).2⟩
      · cases h
  · cases h
end ZOA
