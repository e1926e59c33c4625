/-! ===== what is still to be read of an expression ===== -/
section RST
variable (ts : List wt_t) (n : Nat) (nm : ds_n) (A B : Nat)
def ds_inn : Nat → Option (ds_q → Int32 × ds_q)
  | 0 => none
  | r + 1 => some (ds_E ts n nm A B r)
def ds_fc (v : Nat) : ds_q → Int32 × ds_q := ds_Fc ts n nm (ds_inn ts n nm A B v)
def ds_pt (v : Nat) : ds_q → Int32 × ds_q := ds_Pt ts n A B (ds_fc ts n nm A B v)
theorem ds_E_eq (v : Nat) : ds_E ts n nm A B v = ds_Ex ts n A B (ds_pt ts n nm A B v) := by
  cases v <;> rfl
/-- the class's kind of a sum's sign -/
def dm_sk (g : Int32) : Int32 := if g = (Int8.ofInt 22).toInt32 then (Int8.ofInt 8).toInt32 else (Int8.ofInt 38).toInt32
/-- the sum with this part -/
def dm_ss (r : dm_r) (l : Int32 × ds_q) : Int32 × ds_q := if r.1 < 0 then l else ds_XO A B (dm_sk r.2.1) r.2.2.1.toNatClampNeg r.1 l.1 l.2
/-- an expression's value, of a part's beginning -/
def dm_us (v : Nat) (r : dm_r) (p : Int32 × ds_q) : Int32 × ds_q := ds_XL ts n A B (ds_pt ts n nm A B v) 400 (dm_ss A B r (ds_PL ts n A B (ds_fc ts n nm A B v) 400 p.1 p.2)).1 (dm_ss A B r (ds_PL ts n A B (ds_fc ts n nm A B v) 400 p.1 p.2)).2
def dm_pp (r : dm_r) (y : Int32 × ds_q) : Int32 × ds_q := if r.2.2.2.1 < 0 then y else ds_and A B r.2.2.2.2.1.toNatClampNeg r.2.2.2.1 y.1 y.2
/-- of a factor's value -/
def dm_up (v : Nat) (r : dm_r) (y : Int32 × ds_q) : Int32 × ds_q := dm_us ts n nm A B v r (dm_pp A B r y)
/-- what the whole statement's expression is, once this one's value is known -/
def dm_KE : List dm_r → Int32 × ds_q → Int32 × ds_q
  | [], e => (e.1, (tk_take ts n (Int8.ofInt 9).toInt32 e.2.1, e.2.2))
  | f :: fr, e => dm_KE fr (dm_up ts n nm A B (20 - fr.length) f (e.1 ^^^ f.2.2.2.2.2, (tk_take ts n (Int8.ofInt 16).toInt32 e.2.1, e.2.2)))
/-- an operand is due -/
def dm_rn (x : ds_q) (r : dm_r) (fr : List dm_r) : Int32 × ds_q := dm_KE ts n nm A B fr (dm_up ts n nm A B (20 - fr.length) r (ds_Fb ts n nm (ds_inn ts n nm A B (20 - fr.length)) (ds_not ts 400 (r.2.2.2.2.2, x.1)) x.2))
/-- a sign is due -/
def dm_rs (x : ds_q) (r : dm_r) (fr : List dm_r) : Int32 × ds_q := dm_KE ts n nm A B fr (dm_us ts n nm A B (20 - fr.length) r (r.2.2.2.1, x))
end RST
section RSF
variable {ts : List wt_t} {n : Nat} {nm : ds_n} {A B : Nat}
-- a fault stays
theorem dm_ss_some {r : dm_r} {l : Int32 × ds_q} {z : Nat} (h : l.2.1.2 = some z) : (dm_ss A B r l).2.1.2 = some z := by
  unfold dm_ss
  split
  · exact h
  · unfold ds_XO
    split
    · exact (ds_gate_some h).2.1
    · exact (ds_gate_some h).2.2
theorem dm_us_some {v : Nat} {r : dm_r} {p : Int32 × ds_q} {z : Nat} (h : p.2.1.2 = some z) : (dm_us ts n nm A B v r p).2.1.2 = some z := by
  unfold dm_us
  exact ds_XL_some (dm_ss_some (ds_PL_some h))
theorem dm_up_some {v : Nat} {r : dm_r} {y : Int32 × ds_q} {z : Nat} (h : y.2.1.2 = some z) : (dm_up ts n nm A B v r y).2.1.2 = some z := by
  unfold dm_up
  apply dm_us_some
  unfold dm_pp
  split
  · exact h
  · exact (ds_gate_some h).1
theorem dm_KE_some {z : Nat} : ∀ (fr : List dm_r) (e : Int32 × ds_q), e.2.1.2 = some z → (dm_KE ts n nm A B fr e).2.1.2 = some z
  | [], e, h => by
    show (tk_take ts n (Int8.ofInt 9).toInt32 e.2.1).2 = some z
    rw [tk_take_some h (by decide)]
    exact h
  | f :: fr, e, h => by
    show (dm_KE ts n nm A B fr (dm_up ts n nm A B (20 - fr.length) f (e.1 ^^^ f.2.2.2.2.2, (tk_take ts n (Int8.ofInt 16).toInt32 e.2.1, e.2.2)))).2.1.2 = some z
    apply dm_KE_some
    apply dm_up_some
    show (tk_take ts n (Int8.ofInt 16).toInt32 e.2.1).2 = some z
    rw [tk_take_some h (by decide)]
    exact h
-- places never go back
theorem tk_adv_le {s : wt_q} : s.1 ≤ (tk_adv ts s).1 := by
  unfold tk_adv
  split
  · show s.1 ≤ s.1 + 1
    omega
  · exact Nat.le_refl _
theorem tk_take_le {s : wt_q} {k : Int32} : s.1 ≤ (tk_take ts n k s).1 := by
  unfold tk_take
  split
  · exact tk_adv_le
  · rw [tk_ref_1]
    exact Nat.le_refl _
theorem ds_not_le : ∀ f (o : Int32 × wt_q), o.2.1 ≤ (ds_not ts f o).2.1
  | 0, o => Nat.le_refl _
  | f + 1, o => by
    unfold ds_not
    split
    · exact Nat.le_trans tk_adv_le (ds_not_le f (o.1 ^^^ Int32.ofInt 1, tk_adv ts o.2))
    · exact Nat.le_refl _
theorem ds_rm_1 {k pl : Nat} {x : ds_q} : (ds_rm k pl x).2.1.1 = x.1.1 := by
  unfold ds_rm
  split
  · rfl
  · split <;> rfl
theorem ds_gate_1 {pl : Nat} {u v : Int32} {x : ds_q} : (ds_and A B pl u v x).2.1.1 = x.1.1 ∧ (ds_or A B pl u v x).2.1.1 = x.1.1 ∧ (ds_xor A B pl u v x).2.1.1 = x.1.1 := by
  refine ⟨?_, ?_, ?_⟩
  · unfold ds_and
    split
    · rfl
    · exact ds_rm_1
  · unfold ds_or
    split
    · rfl
    · exact ds_rm_1
  · unfold ds_xor
    split
    · rfl
    · exact ds_rm_1
def ds_mo (f : ds_q → Int32 × ds_q) : Prop := ∀ x, x.1.1 ≤ (f x).2.1.1
theorem ds_PL_mo {fac : ds_q → Int32 × ds_q} (h : ds_mo fac) : ∀ f l x, x.1.1 ≤ (ds_PL ts n A B fac f l x).2.1.1
  | 0, l, x => Nat.le_refl _
  | f + 1, l, x => by
    unfold ds_PL
    split
    · refine Nat.le_trans ?_ (ds_PL_mo h f _ _)
      rw [ds_gate_1.1]
      exact Nat.le_trans tk_adv_le (h (tk_adv ts x.1, x.2))
    · exact Nat.le_refl _
theorem ds_XL_mo {prt : ds_q → Int32 × ds_q} (h : ds_mo prt) : ∀ f l x, x.1.1 ≤ (ds_XL ts n A B prt f l x).2.1.1
  | 0, l, x => Nat.le_refl _
  | f + 1, l, x => by
    unfold ds_XL
    split
    · refine Nat.le_trans ?_ (ds_XL_mo h f _ _)
      refine Nat.le_trans (Nat.le_trans tk_adv_le (h (tk_adv ts x.1, x.2))) ?_
      unfold ds_XO
      split
      · rw [ds_gate_1.2.1]
        exact Nat.le_refl _
      · rw [ds_gate_1.2.2]
        exact Nat.le_refl _
    · exact Nat.le_refl _
theorem ds_Fb_mo {inner : Option (ds_q → Int32 × ds_q)} (h : ∀ f, inner = some f → ds_mo f) (o : Int32 × wt_q) (gs : ds_g) : o.2.1 ≤ (ds_Fb ts n nm inner o gs).2.1.1 := by
  unfold ds_Fb
  split
  · rename_i f hf
    have hi : inner = some f := by
      split at hf
      · exact hf
      · cases hf
    exact Nat.le_trans (Nat.le_trans tk_adv_le (h f hi (tk_adv ts o.2, gs))) tk_take_le
  · split
    · exact tk_adv_le
    · split
      · exact tk_adv_le
      · exact tk_take_le
theorem ds_Fc_mo {inner : Option (ds_q → Int32 × ds_q)} (h : ∀ f, inner = some f → ds_mo f) : ds_mo (ds_Fc ts n nm inner) := fun x => Nat.le_trans (ds_not_le 400 (Int32.ofInt 0, x.1)) (ds_Fb_mo h _ _)
theorem ds_E_mo : ∀ v, ds_mo (ds_E ts n nm A B v)
  | 0 => fun x => Nat.le_trans (Nat.le_trans (ds_Fc_mo (inner := none) (fun f hf => by cases hf) x) (ds_PL_mo (ds_Fc_mo (inner := none) (fun f hf => by cases hf)) 400 _ _)) (ds_XL_mo (fun x => Nat.le_trans (ds_Fc_mo (inner := none) (fun f hf => by cases hf) x) (ds_PL_mo (ds_Fc_mo (inner := none) (fun f hf => by cases hf)) 400 _ _)) 400 _ _)
  | v + 1 => fun x => by
    have hi : ∀ f, (some (ds_E ts n nm A B v)) = some f → ds_mo f := fun f hf => by cases hf; exact ds_E_mo v
    exact Nat.le_trans (Nat.le_trans (ds_Fc_mo hi x) (ds_PL_mo (ds_Fc_mo hi) 400 _ _)) (ds_XL_mo (fun x => Nat.le_trans (ds_Fc_mo hi x) (ds_PL_mo (ds_Fc_mo hi) 400 _ _)) 400 _ _)
theorem ds_fc_mo (v : Nat) : ds_mo (ds_fc ts n nm A B v) := by
  unfold ds_fc
  apply ds_Fc_mo
  intro f hf
  cases v with
  | zero => cases hf
  | succ v => cases hf; exact ds_E_mo v
theorem ds_pt_mo (v : Nat) : ds_mo (ds_pt ts n nm A B v) := fun x => Nat.le_trans (ds_fc_mo v x) (ds_PL_mo (ds_fc_mo v) 400 _ _)
-- enough turns are enough
theorem tk_now_no {s : wt_q} (h : ts.length ≤ s.1) : tk_now ts s = Int32.ofInt 2 := by
  unfold tk_now
  rw [List.getElem?_eq_none h]
  split
  · rename_i h1 h2
    cases h2
  · rfl
theorem tk_now_adv {s : wt_q} (h : ¬ tk_now ts s = Int32.ofInt 2) : s.2 = none ∧ s.1 < ts.length ∧ tk_adv ts s = (s.1 + 1, none) := by
  have hl : s.1 < ts.length := by
    by_cases hl : s.1 < ts.length
    · exact hl
    · exact (h (tk_now_no (by omega))).elim
  have hs : s.2 = none := by
    cases hs : s.2 with
    | none => rfl
    | some z =>
      exfalso
      apply h
      unfold tk_now
      rw [hs]
  exact ⟨hs, hl, tk_adv_at hs (List.getElem?_eq_getElem hl)⟩
theorem ds_not_f : ∀ f g (o : Int32 × wt_q), ts.length ≤ o.2.1 + f → ts.length ≤ o.2.1 + g → ds_not ts f o = ds_not ts g o
  | 0, g, o, hf, hg => by
    cases g with
    | zero => rfl
    | succ g =>
      unfold ds_not
      rw [if_neg (by rw [tk_now_no (by omega)]; decide)]
  | f + 1, g, o, hf, hg => by
    by_cases hk : tk_now ts o.2 = (Int8.ofInt 6).toInt32
    · obtain ⟨h1, h2, h3⟩ := tk_now_adv (ts := ts) (s := o.2) (by rw [hk]; decide)
      cases g with
      | zero => omega
      | succ g =>
        unfold ds_not
        rw [if_pos hk, if_pos hk]
        exact ds_not_f f g _ (by rw [h3]; show ts.length ≤ o.2.1 + 1 + f; omega) (by rw [h3]; show ts.length ≤ o.2.1 + 1 + g; omega)
    · cases g with
      | zero =>
        unfold ds_not
        rw [if_neg hk]
      | succ g =>
        unfold ds_not
        rw [if_neg hk, if_neg hk]
theorem ds_PL_f {fac : ds_q → Int32 × ds_q} (hm : ds_mo fac) : ∀ f g l x, ts.length ≤ x.1.1 + f → ts.length ≤ x.1.1 + g → ds_PL ts n A B fac f l x = ds_PL ts n A B fac g l x
  | 0, g, l, x, hf, hg => by
    cases g with
    | zero => rfl
    | succ g =>
      unfold ds_PL
      rw [if_neg (by rw [tk_now_no (by omega)]; decide)]
  | f + 1, g, l, x, hf, hg => by
    by_cases hk : tk_now ts x.1 = (Int8.ofInt 7).toInt32
    · obtain ⟨h1, h2, h3⟩ := tk_now_adv (ts := ts) (s := x.1) (by rw [hk]; decide)
      cases g with
      | zero => omega
      | succ g =>
        have h4 := hm (tk_adv ts x.1, x.2)
        have h4 : (tk_adv ts x.1).1 ≤ _ := h4
        rw [h3] at h4
        have h4 : x.1.1 + 1 ≤ (fac (tk_adv ts x.1, x.2)).2.1.1 := by rw [h3]; exact h4
        unfold ds_PL
        rw [if_pos hk, if_pos hk]
        exact ds_PL_f hm f g _ _ (by rw [ds_gate_1.1]; omega) (by rw [ds_gate_1.1]; omega)
    · cases g with
      | zero =>
        unfold ds_PL
        rw [if_neg hk]
      | succ g =>
        unfold ds_PL
        rw [if_neg hk, if_neg hk]
theorem ds_XO_1 {k : Int32} {pl : Nat} {u v : Int32} {x : ds_q} : (ds_XO A B k pl u v x).2.1.1 = x.1.1 := by
  unfold ds_XO
  split
  · exact ds_gate_1.2.1
  · exact ds_gate_1.2.2
theorem ds_XL_f {prt : ds_q → Int32 × ds_q} (hm : ds_mo prt) : ∀ f g l x, ts.length ≤ x.1.1 + f → ts.length ≤ x.1.1 + g → ds_XL ts n A B prt f l x = ds_XL ts n A B prt g l x
  | 0, g, l, x, hf, hg => by
    cases g with
    | zero => rfl
    | succ g =>
      unfold ds_XL
      rw [if_neg (by rw [tk_now_no (by omega)]; decide)]
  | f + 1, g, l, x, hf, hg => by
    by_cases hk : tk_now ts x.1 = (Int8.ofInt 8).toInt32 ∨ tk_now ts x.1 = (Int8.ofInt 38).toInt32
    · obtain ⟨h1, h2, h3⟩ := tk_now_adv (ts := ts) (s := x.1) (by rcases hk with hk | hk <;> rw [hk] <;> decide)
      cases g with
      | zero => omega
      | succ g =>
        have h4 := hm (tk_adv ts x.1, x.2)
        have h4 : (tk_adv ts x.1).1 ≤ _ := h4
        rw [h3] at h4
        have h4 : x.1.1 + 1 ≤ (prt (tk_adv ts x.1, x.2)).2.1.1 := by rw [h3]; exact h4
        unfold ds_XL
        rw [if_pos hk, if_pos hk]
        exact ds_XL_f hm f g _ _ (by rw [ds_XO_1]; omega) (by rw [ds_XO_1]; omega)
    · cases g with
      | zero =>
        unfold ds_XL
        rw [if_neg hk]
      | succ g =>
        unfold ds_XL
        rw [if_neg hk, if_neg hk]
end RSF
