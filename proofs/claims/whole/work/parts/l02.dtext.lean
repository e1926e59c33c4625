/-! ===== tokens of design texts ===== -/
section DW
variable {ts : List wt_t} {n A B : Nat} {nm : ds_n}
theorem dw_now {s : wt_q} {z : Nat} (h : s.2 = some z) : tk_now ts s = Int32.ofInt 2 := by
  unfold tk_now
  rw [h]
theorem dw_ref {s : wt_q} (h : s.2 = none) : tk_ref ts n s = (s.1, some (tk_place ts n s.1)) := by
  unfold tk_ref tk_refAt
  rw [h]
theorem dw_ref2 {s : wt_q} {z : Nat} (h : s.2 = some z) : tk_ref ts n s = s := by
  unfold tk_ref tk_refAt
  rw [h]
theorem dw_take2 {s : wt_q} {z : Nat} {k : Int32} (h : s.2 = some z) (hk : ¬ k = Int32.ofInt 2) : tk_take ts n k s = s := by
  unfold tk_take
  rw [dw_now h, if_neg (fun e => hk e.symm), dw_ref2 h]
theorem dw_ref_n {s : wt_q} : ¬ (tk_ref ts n s).2 = none := by
  obtain ⟨a, o⟩ := s
  cases o with
  | none =>
    rw [dw_ref rfl]
    simp
  | some z =>
    rw [dw_ref2 rfl]
    simp
/-- a token that was taken -/
theorem dw_take {s : wt_q} {k : Int32} (h : (tk_take ts n k s).2 = none) (hk : ¬ k = Int32.ofInt 2) : s.2 = none ∧ tk_now ts s = k ∧ tk_take ts n k s = (s.1 + 1, none) ∧ s.1 < ts.length ∧ dw_ln ts (s.1 + 1) = dw_ln ts s.1 + ds_w k := by
  unfold tk_take at h ⊢
  by_cases c : tk_now ts s = k
  · rw [if_pos c] at h ⊢
    obtain ⟨a1, a2, a3⟩ := tk_now_adv (ts := ts) (s := s) (by rw [c]; exact hk)
    refine ⟨a1, c, a3, a2, ?_⟩
    show dw_ln ts s.1 + (match ts[s.1]? with | some x => ds_w x.1 | none => 0) = _
    have e : ts[s.1]? = some ts[s.1] := List.getElem?_eq_getElem a2
    unfold tk_now at c
    rw [a1, e] at c
    rw [e]
    have c : (ts[s.1]).1 = k := c
    show dw_ln ts s.1 + ds_w (ts[s.1]).1 = _
    rw [c]
  · rw [if_neg c] at h
    exact (dw_ref_n h).elim
theorem ds_w_1 (k : Int32) : 1 ≤ ds_w k := by
  unfold ds_w
  split
  · omega
  · split <;> omega
theorem dw_ln_m {a : Nat} : ∀ d, a + d ≤ ts.length → dw_ln ts a + d ≤ dw_ln ts (a + d)
  | 0, _ => Nat.le_refl _
  | d + 1, h => by
    have := dw_ln_m (a := a) d (by omega)
    show dw_ln ts a + (d + 1) ≤ dw_ln ts (a + d) + (match ts[a + d]? with | some x => ds_w x.1 | none => 0)
    have e : ts[a + d]? = some ts[a + d] := List.getElem?_eq_getElem (by omega)
    rw [e]
    show dw_ln ts a + (d + 1) ≤ dw_ln ts (a + d) + ds_w (ts[a + d]).1
    have := ds_w_1 (ts[a + d]).1
    omega
/-- an expression without fault takes a token -/
def dw_s1 (f : ds_q → Int32 × ds_q) : Prop := ∀ x, (f x).2.1.2 = none → x.1.1 + 1 ≤ (f x).2.1.1
theorem dw_Fc {inner : Option (ds_q → Int32 × ds_q)} (h : ∀ f, inner = some f → ds_mo f) : dw_s1 (ds_Fc ts n nm inner) := by
  intro x hx
  unfold ds_Fc at hx ⊢
  have hle := ds_not_le (ts := ts) 400 (Int32.ofInt 0, x.1)
  have hle : x.1.1 ≤ (ds_not ts 400 (Int32.ofInt 0, x.1)).2.1 := hle
  generalize ds_not ts 400 (Int32.ofInt 0, x.1) = o at hx hle ⊢
  have adv : ¬ tk_now ts o.2 = Int32.ofInt 2 → (tk_adv ts o.2).1 = o.2.1 + 1 := fun z => by rw [(tk_now_adv z).2.2]
  unfold ds_Fb at hx ⊢
  generalize hi : (if tk_now ts o.2 = (Int8.ofInt 15).toInt32 then inner else none) = w at hx ⊢
  cases w with
  | some g =>
    have hc : tk_now ts o.2 = (Int8.ofInt 15).toInt32 := by
      by_cases c : tk_now ts o.2 = (Int8.ofInt 15).toInt32
      · exact c
      · rw [if_neg c] at hi
        cases hi
    rw [if_pos hc] at hi
    have m := h g hi (tk_adv ts o.2, x.2)
    have m : (tk_adv ts o.2).1 ≤ (g (tk_adv ts o.2, x.2)).2.1.1 := m
    rw [adv (by rw [hc]; decide)] at m
    show x.1.1 + 1 ≤ (tk_take ts n (Int8.ofInt 16).toInt32 (g (tk_adv ts o.2, x.2)).2.1).1
    have := tk_take_le (ts := ts) (n := n) (s := (g (tk_adv ts o.2, x.2)).2.1) (k := (Int8.ofInt 16).toInt32)
    omega
  | none =>
    generalize hy : ds_nl ts nm o.2 = w2 at hx ⊢
    cases w2 with
    | some y =>
      have hc : tk_now ts o.2 = (Int8.ofInt 32).toInt32 := by
        unfold ds_nl at hy
        by_cases c : tk_now ts o.2 = (Int8.ofInt 32).toInt32
        · exact c
        · rw [if_neg c] at hy
          cases hy
      show x.1.1 + 1 ≤ (tk_adv ts o.2).1
      rw [adv (by rw [hc]; decide)]
      omega
    | none =>
      by_cases c5 : tk_now ts o.2 = Int32.ofInt 5
      · show x.1.1 + 1 ≤ (if tk_now ts o.2 = Int32.ofInt 5 then (Int32.ofInt 1 ^^^ o.1, (tk_adv ts o.2, x.2)) else (Int32.ofInt 0 ^^^ o.1, (tk_take ts n (Int32.ofInt 4) o.2, x.2))).2.1.1
        rw [if_pos c5]
        show x.1.1 + 1 ≤ (tk_adv ts o.2).1
        rw [adv (by rw [c5]; decide)]
        omega
      · have hx : (if tk_now ts o.2 = Int32.ofInt 5 then (Int32.ofInt 1 ^^^ o.1, (tk_adv ts o.2, x.2)) else (Int32.ofInt 0 ^^^ o.1, (tk_take ts n (Int32.ofInt 4) o.2, x.2))).2.1.2 = none := hx
        show x.1.1 + 1 ≤ (if tk_now ts o.2 = Int32.ofInt 5 then (Int32.ofInt 1 ^^^ o.1, (tk_adv ts o.2, x.2)) else (Int32.ofInt 0 ^^^ o.1, (tk_take ts n (Int32.ofInt 4) o.2, x.2))).2.1.1
        rw [if_neg c5] at hx ⊢
        have hx : (tk_take ts n (Int32.ofInt 4) o.2).2 = none := hx
        show x.1.1 + 1 ≤ (tk_take ts n (Int32.ofInt 4) o.2).1
        rw [(dw_take hx (by decide)).2.2.1]
        show x.1.1 + 1 ≤ o.2.1 + 1
        omega
theorem dw_Pt {fac : ds_q → Int32 × ds_q} (h : dw_s1 fac) (hm : ds_mo fac) : dw_s1 (ds_Pt ts n A B fac) := by
  intro x hx
  unfold ds_Pt at hx ⊢
  have m := ds_PL_mo (ts := ts) (n := n) (A := A) (B := B) hm 400 (fac x).1 (fac x).2
  cases e : (fac x).2.1.2 with
  | none =>
    have := h x e
    omega
  | some z =>
    exfalso
    have e2 : ds_PL ts n A B fac 400 (fac x).1 (fac x).2 = ((fac x).1, (fac x).2) := by
      unfold ds_PL
      rw [dw_now e, if_neg (by decide)]
    rw [e2, e] at hx
    cases hx
theorem dw_Ex {prt : ds_q → Int32 × ds_q} (h : dw_s1 prt) (hm : ds_mo prt) : dw_s1 (ds_Ex ts n A B prt) := by
  intro x hx
  unfold ds_Ex at hx ⊢
  have m := ds_XL_mo (ts := ts) (n := n) (A := A) (B := B) hm 400 (prt x).1 (prt x).2
  cases e : (prt x).2.1.2 with
  | none =>
    have := h x e
    omega
  | some z =>
    exfalso
    have e2 : ds_XL ts n A B prt 400 (prt x).1 (prt x).2 = ((prt x).1, (prt x).2) := by
      unfold ds_XL
      rw [dw_now e, if_neg (by decide)]
    rw [e2, e] at hx
    cases hx
theorem dw_E20 : dw_s1 (ds_E20 ts n nm A B) := by
  have hin : ∀ f, some (ds_E ts n nm A B 19) = some f → ds_mo f := fun f hf => by
    cases hf
    exact ds_E_mo 19
  have h1 : ds_mo (ds_Fc ts n nm (some (ds_E ts n nm A B 19))) := ds_Fc_mo hin
  have h2 : ds_mo (ds_Pt ts n A B (ds_Fc ts n nm (some (ds_E ts n nm A B 19)))) := fun x => Nat.le_trans (h1 x) (ds_PL_mo h1 400 _ _)
  exact dw_Ex (dw_Pt (dw_Fc hin) h1) h2
theorem dw_E {x : ds_q} (h : (dm_E ts n nm A B x).2.1.2 = none) : x.1.1 + 2 ≤ (dm_E ts n nm A B x).2.1.1 ∧ (dm_E ts n nm A B x).2.1.1 ≤ ts.length ∧ (ds_E20 ts n nm A B x).2.1.2 = none := by
  have h : (tk_take ts n (Int8.ofInt 9).toInt32 (ds_E20 ts n nm A B x).2.1).2 = none := h
  obtain ⟨a1, a2, a3, a4, a5⟩ := dw_take h (by decide)
  have := dw_E20 x a1
  show x.1.1 + 2 ≤ (tk_take ts n (Int8.ofInt 9).toInt32 (ds_E20 ts n nm A B x).2.1).1 ∧ (tk_take ts n (Int8.ofInt 9).toInt32 (ds_E20 ts n nm A B x).2.1).1 ≤ ts.length ∧ _
  rw [a3]
  exact ⟨by show x.1.1 + 2 ≤ (ds_E20 ts n nm A B x).2.1.1 + 1; omega, by show (ds_E20 ts n nm A B x).2.1.1 + 1 ≤ ts.length; omega, a1⟩
/-- names alone count -/
theorem dw_ix {a b : ds_n} (h : a.map Prod.fst = b.map Prod.fst) (c : Int64) : ds_ix a c = none ↔ ds_ix b c = none := by
  have key : ∀ a : ds_n, ds_ix a c = none ↔ ¬ c ∈ a.map Prod.fst := by
    intro a
    induction a with
    | nil => exact ⟨fun _ z => absurd z (by simp), fun _ => rfl⟩
    | cons x l ih =>
      unfold ds_ix
      by_cases e : x.1 = c
      · rw [if_pos e]
        exact ⟨fun z => (by cases z), fun z => (z (by rw [List.map_cons, e]; exact List.mem_cons_self)).elim⟩
      · rw [if_neg e, List.map_cons, List.mem_cons]
        constructor
        · intro z w
          rcases w with w | w
          · exact e w.symm
          · cases hl : ds_ix l c with
            | none => exact ih.mp hl w
            | some i =>
              rw [hl] at z
              cases z
        · intro z
          rw [ih.mpr (fun w => z (Or.inr w))]
          rfl
  rw [key a, key b, h]
theorem dw_nn {a b : ds_n} (h : a.map Prod.fst = b.map Prod.fst) (s : wt_q) : ds_nn ts n a s = ds_nn ts n b s := by
  unfold ds_nn
  by_cases c : ds_ix a (tk_name ts s.1) = none
  · rw [if_pos c, if_pos ((dw_ix h _).mp c)]
  · rw [if_neg c, if_neg (fun z => c ((dw_ix h _).mpr z))]
end DW
