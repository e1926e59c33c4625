/-! ===== words of the tables by their places ===== -/
/-- the tables' words, and the law's own code -/
def pt_xw : List MethodName := [⟨"java/lang/AbstractStringBuilder", "appendNull", "()Ljava/lang/AbstractStringBuilder;"⟩, ⟨"java/lang/AbstractStringBuilder", "ensureCapacityInternal", "(I)V"⟩, ⟨"java/lang/AbstractStringBuilder", "newCapacity", "(I)I"⟩, ⟨"java/lang/AbstractStringBuilder", "putStringAt", "(ILjava/lang/String;)V"⟩, ⟨"java/lang/AbstractStringBuilder", "inflateIfNeededFor", "(Ljava/lang/String;)V"⟩, ⟨"java/lang/AbstractStringBuilder", "inflate", "()V"⟩]
def pt_tbl : List Cond := lw_tbl ++ (Cond.code x code maxLocals ret :: pt_xw.map fun y => Cond.selects "java/lang/StringBuilder" y y)
/-- private methods of a class above: a thing of the class below selects them -/
theorem pt_selp {C : String} {y y0 : MethodName} {s : State} {args : Array Value} {n : Nat} (hy : y.cls ≠ "java/lang/invoke/MethodHandle" ∧ y.cls ≠ "java/lang/invoke/VarHandle") (hy0 : y0.cls = y.cls)
    (hins : (Cond.instantiable C n).before args s = true) (hpriv : (Cond.privateMethod y).before args s = true) (hinst : (Cond.instanceMethod y).before args s = true) (hs0 : (Cond.selects C y0 y0).before args s = true) :
    (Cond.selects C y y).before args s = true := by
  obtain ⟨c, k, hc, hk, -, -, -, -⟩ := Cond.instantiable_spec hins
  obtain ⟨mk, methM, hnamed, hmethM, -, -⟩ := Cond.instanceMethod_spec hinst
  have hfound : s.methodFound? y.cls y.name y.desc = some mk := State.methodFound?_of_named hnamed hy
  have hsel : selectMethod {} s.vm c mk = .method mk := selectMethod_private hmethM (Cond.privateMethod_at hpriv mk methM hnamed hmethM)
  have hni : Option.any (fun x => !x.isInterface) s.vm.classes[mk.cls]? = true := by
    simp only [Cond.before, Cond.holds, Cond.value, hc] at hs0
    cases h1 : s.methodFound? y0.cls y0.name y0.desc with
    | none => rw [h1] at hs0; simp at hs0
    | some r =>
      cases h2 : s.methodNamed? y0 with
      | none => rw [h1, h2] at hs0; simp at hs0
      | some m0 =>
        have e1 := findClass_of_methodNamed h2
        have e2 := findClass_of_methodNamed hnamed
        rw [hy0] at e1
        have e3 : m0.cls = mk.cls := Option.some.inj (e1.symm.trans e2)
        rw [h1, h2] at hs0
        simp only at hs0
        split at hs0
        · simp only [beq_iff_eq, Option.some.injEq, Bool.and_eq_true] at hs0
          rw [← e3]
          exact hs0.2
        · simp at hs0
  simp only [Cond.before, Cond.holds, Cond.value, hc, hfound, hnamed, hsel]
  simp
  exact hni
def pt_U : List Cond := pt_tbl.filter goodWord
theorem pt_Umem {p : Nat} {x : Cond} (h : pt_tbl[p]? = some x) (hg : goodWord x = true) : x ∈ pt_U := List.mem_filter.mpr ⟨List.mem_of_getElem? h, hg⟩
theorem pt_Ugood : ∀ x ∈ pt_U, goodWord x = true := fun x hx => (List.mem_filter.mp hx).2
theorem pt_Uin : ∀ x ∈ pt_U, x ∈ pt_tbl := fun x hx => (List.mem_filter.mp hx).1
/-- every word stands at its place, and is a good one -/
def pt_at (ps : List (Nat × Cond)) : Bool := ps.all fun q => decide (pt_tbl[q.1]? = some q.2) && goodWord q.2
theorem pt_at_ok {ps : List (Nat × Cond)} (h : pt_at ps = true) {q : Nat × Cond} (hq : q ∈ ps) : q.2 ∈ pt_U := by
  have h1 := List.all_eq_true.mp h q hq
  rw [Bool.and_eq_true] at h1
  exact pt_Umem (of_decide_eq_true h1.1) h1.2
def pt_look {α : Type} : List (Nat × α) → Nat → Option α
  | [], _ => none
  | q :: t, i => if q.1 = i then some q.2 else pt_look t i
theorem pt_look_mem {α : Type} : ∀ {l : List (Nat × α)} {i : Nat} {v : α}, pt_look l i = some v → (i, v) ∈ l
  | [], i, v, h => by simp [pt_look] at h
  | q :: t, i, v, h => by
    unfold pt_look at h
    split at h
    · rename_i hq
      cases h
      subst hq
      exact List.mem_cons_self
    · exact List.mem_cons_of_mem _ (pt_look_mem h)
def pt_two {α : Type} (l : List (List (Nat × α))) (o i : Nat) : Option α := match l[o]? with | some t => pt_look t i | none => none
/-- a check of every row of a table, by its owner's number -/
def pt_all {α : Type} (f : Nat → Nat → α → Bool) (l : List (List (Nat × α))) : Bool := (l.zipIdx).all fun q => q.1.all fun r => f q.2 r.1 r.2
theorem pt_all_ok {α : Type} {f : Nat → Nat → α → Bool} {l : List (List (Nat × α))} (h : pt_all f l = true) {o i : Nat} {v : α} (hv : pt_two l o i = some v) : f o i v = true := by
  unfold pt_two at hv
  split at hv
  · rename_i t ht
    have hm := pt_look_mem hv
    have h1 := List.all_eq_true.mp h (t, o) (List.mem_zipIdx_iff_getElem?.mpr ht)
    exact List.all_eq_true.mp h1 (i, v) hm
  · cases hv
