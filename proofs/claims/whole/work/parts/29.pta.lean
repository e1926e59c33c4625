/-! ===== words of the tables by their places ===== -/
/-- the tables' words, and the law's own code -/
def pt_tbl : List Cond := lw_tbl ++ [Cond.code x code maxLocals ret]
def pt_U : List Cond := pt_tbl.filter goodWord
theorem pt_Umem {p : Nat} {x : Cond} (h : pt_tbl[p]? = some x) (hg : goodWord x = true) : x ∈ pt_U := List.mem_filter.mpr ⟨List.mem_of_getElem? h, hg⟩
theorem pt_Ugood : ∀ x ∈ pt_U, goodWord x = true := fun x hx => (List.mem_filter.mp hx).2
theorem pt_Uin : ∀ x ∈ pt_U, x ∈ pt_tbl := fun x hx => (List.mem_filter.mp hx).1
/-- every word stands at its place, and is a good one -/
def pt_at (ps : List (Nat × Cond)) : Bool := ps.all fun q => decide (pt_tbl[q.1]? = some q.2) && goodWord q.2
theorem pt_at_ok {ps : List (Nat × Cond)} (h : pt_at ps = true) {q : Nat × Cond} (hq : q ∈ ps) : q.2 ∈ pt_U := by
  have h1 := List.all_eq_true.mp h q hq
  rw [Bool.and_eq_true] at h1
  exact pt_Umem (of_decide_eq_true h1.1) h1.2
def pt_look {α : Type} : List (Nat × α) → Nat → Option α
  | [], _ => none
  | q :: t, i => if q.1 = i then some q.2 else pt_look t i
theorem pt_look_mem {α : Type} : ∀ {l : List (Nat × α)} {i : Nat} {v : α}, pt_look l i = some v → (i, v) ∈ l
  | [], i, v, h => by simp [pt_look] at h
  | q :: t, i, v, h => by
    unfold pt_look at h
    split at h
    · rename_i hq
      cases h
      subst hq
      exact List.mem_cons_self
    · exact List.mem_cons_of_mem _ (pt_look_mem h)
def pt_two {α : Type} (l : List (List (Nat × α))) (o i : Nat) : Option α := match l[o]? with | some t => pt_look t i | none => none
/-- a check of every row of a table, by its owner's number -/
def pt_all {α : Type} (f : Nat → Nat → α → Bool) (l : List (List (Nat × α))) : Bool := (l.zipIdx).all fun q => q.1.all fun r => f q.2 r.1 r.2
theorem pt_all_ok {α : Type} {f : Nat → Nat → α → Bool} {l : List (List (Nat × α))} (h : pt_all f l = true) {o i : Nat} {v : α} (hv : pt_two l o i = some v) : f o i v = true := by
  unfold pt_two at hv
  split at hv
  · rename_i t ht
    have hm := pt_look_mem hv
    have h1 := List.all_eq_true.mp h (t, o) (List.mem_zipIdx_iff_getElem?.mpr ht)
    exact List.all_eq_true.mp h1 (i, v) hm
  · cases hv
