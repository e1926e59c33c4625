/-! ===== a thrown thing is caught by a row of the method's own table, past rows that name other sorts ===== -/
/-- a row that doesn't take it: it doesn't cover the place, or its sort isn't the thing's -/
def pz_by (pl : Platform) (s0 : State) (dc : ClassId) (pc : Nat) (tc : ClassId) (y : ExceptionTableEntry) : Prop :=
  covers y pc = false ∨ (y.catchType ≠ 0 ∧ ∃ k, s0.vm.ClassLinks pl dc y.catchType k ∧ s0.vm.assignable tc k = false)
section PQI
variable {Qh : Handler → Pre} {Eh : CtlPost} {e : Env} {db : Bool} {acts : List Action} {s : State} {f : JFrame} {a : Addr}
theorem pz_fl {x : ExceptionTableEntry} {t : List ExceptionTableEntry} {k : ClassId} {cell : Cell} (hx : covers x f.pc = true) (h0 : x.catchType ≠ 0) (hl : s.vm.ClassLinks e.platform f.method.cls x.catchType k) (hcell : s.heap[a]? = some cell) (hobj : ∀ j, cell.vm ≠ .statics j) (hk : ∃ j, s.vm.classes[cell.cls]? = some j) (hc : ∃ j, s.vm.classes[k]? = some j) :
    (s.vm.assignable cell.cls k = true → (wp (findHandler.go f a (x :: t)) Qh Eh e db acts s ↔ Qh (.found x.handlerPc) db acts (s.setVm (s.vm.noted f.method.cls x.catchType (.cls k))))) ∧
    (s.vm.assignable cell.cls k = false → (wp (findHandler.go f a (x :: t)) Qh Eh e db acts s ↔ wp (findHandler.go f a t) Qh Eh e db acts (s.setVm (s.vm.noted f.method.cls x.catchType (.cls k))))) := by
  simp only [covers] at hx
  obtain ⟨g1, g2⟩ := (resolveClass_links e.toSetting hl).op (op := VmOp.resolveClass f.method.cls x.catchType) rfl
  have hal : s.vm.Alike (s.vm.noted f.method.cls x.catchType (.cls k)) := (Vm.Alike.refl s.vm).noted _ _ _
  obtain ⟨j1, hj1⟩ := hk
  obtain ⟨j2, hj2⟩ := hc
  obtain ⟨j3, hj3, -⟩ := hal.2.2 _ _ hj1
  obtain ⟨j4, hj4, -⟩ := hal.2.2 _ _ hj2
  refine ⟨fun hf => ?_, fun hf => ?_⟩
  · have hf2 : (s.vm.noted f.method.cls x.catchType (.cls k)).assignable cell.cls k = true := by rw [hal.assignable]; exact hf
    simp [findHandler.go, hx, h0, g1, g2, hcell, hobj, hj3, hj4, hf2, VmOp.dirties, VmOp.acts]
  · have hf2 : (s.vm.noted f.method.cls x.catchType (.cls k)).assignable cell.cls k = false := by rw [hal.assignable]; exact hf
    simp [findHandler.go, hx, h0, g1, g2, hcell, hobj, hj3, hj4, hf2, VmOp.dirties, VmOp.acts]
end PQI
theorem pz_find {e : Env} {s0 : State} {f : JFrame} {a : Addr} {cell : Cell} {k : ClassId} (hobj : ∀ j, cell.vm ≠ .statics j) (hk0 : ∃ j, s0.vm.classes[cell.cls]? = some j) (x : ExceptionTableEntry) (suf : List ExceptionTableEntry) (hx : covers x f.pc = true) (h0 : x.catchType ≠ 0) (hl : s0.vm.ClassLinks e.platform f.method.cls x.catchType k) (hfit : s0.vm.assignable cell.cls k = true) :
    ∀ (pre : List ExceptionTableEntry) (S : State), s0.WarmedH S.vm → S.heap[a]? = some cell → (∀ y ∈ pre, pz_by e.platform s0 f.method.cls f.pc cell.cls y) →
      ∃ vm1, s0.WarmedH vm1 ∧ ∀ (Qh : Handler → Pre) (Eh : CtlPost) (db : Bool) (acts : List Action), wp (findHandler.go f a (pre ++ x :: suf)) Qh Eh e db acts S ↔ Qh (.found x.handlerPc) db acts (S.setVm vm1) := by
  obtain ⟨j0, hj0⟩ := hk0
  intro pre
  induction pre with
  | nil =>
    intro S hW hcell _
    obtain ⟨j1, hj1, -⟩ := hW.alike.2.2 _ _ hj0
    obtain ⟨_, _, _, j2, hd, _, _, _, _, hj2, _, hop⟩ := hl.here
    obtain ⟨j3, hj3, -⟩ := hW.alike.2.2 _ _ hj2
    exact ⟨_, hW.noted hd hop (State.rightAt_cls hl), fun Qh Eh db acts => (pz_fl hx h0 (hW.classLinks hl) hcell hobj ⟨j1, hj1⟩ ⟨j3, hj3⟩).1 (by rw [hW.alike.assignable]; exact hfit)⟩
  | cons y ys ih =>
    intro S hW hcell hpass
    obtain ⟨j1, hj1, -⟩ := hW.alike.2.2 _ _ hj0
    have hrest : ∀ z ∈ ys, pz_by e.platform s0 f.method.cls f.pc cell.cls z := fun z hz => hpass z (List.mem_cons_of_mem _ hz)
    cases hcov : covers y f.pc with
    | false =>
      obtain ⟨vm1, hW1, hq⟩ := ih S hW hcell hrest
      exact ⟨vm1, hW1, fun Qh Eh db acts => by
        rw [List.cons_append, W.findHandler_go_skip hcov]
        exact hq Qh Eh db acts⟩
    | true =>
      rcases hpass y List.mem_cons_self with h | ⟨hy0, k2, hl2, hno⟩
      · rw [h] at hcov; cases hcov
      · obtain ⟨_, _, _, j2, hd, _, _, _, _, hj2, _, hop⟩ := hl2.here
        obtain ⟨j3, hj3, -⟩ := hW.alike.2.2 _ _ hj2
        obtain ⟨vm1, hW1, hq⟩ := ih (S.setVm (S.vm.noted f.method.cls y.catchType (.cls k2))) (hW.noted hd hop (State.rightAt_cls hl2)) hcell hrest
        exact ⟨vm1, hW1, fun Qh Eh db acts => by
          rw [List.cons_append, (pz_fl hcov hy0 (hW.classLinks hl2) hcell hobj ⟨j1, hj1⟩ ⟨j3, hj3⟩).2 (by rw [hW.alike.assignable]; exact hno)]
          exact hq Qh Eh db acts⟩
theorem pz_frs (u : State) (vm1 : Vm) (F1 G1 : List Frame) : ((u.setFrames F1).setVm vm1).setFrames G1 = (u.setVm vm1).setFrames G1 := by
  have h1 : (u.setFrames F1).setVm vm1 = (u.setVm vm1).setFrames F1 := rfl
  rw [h1, State.setFrames_setFrames]
theorem pz_toh {tb : Tables} {e : Env} {s target : State} {g : JFrame} {c : Code} {below : List Frame} {a : Addr} (h : At s g.method c below) {pc : Nat} {vm1 : Vm}
    (hfind : ∀ (Qh : Handler → Pre) (Eh : CtlPost) (db : Bool) (acts : List Action), wp (findHandler g a) Qh Eh e db acts ((s.setTop g).pushFrame (.throwing a)) ↔ Qh (.found pc) db acts (((s.setTop g).pushFrame (.throwing a)).setVm vm1)) (hrest : Steps tb e below ((s.setVm vm1).setTop { g with pc := pc, stack := [.ref a] }) target) :
    Steps tb e below ((s.setTop g).pushFrame (.throwing a)) target := by
  have hstep : ∀ r : List Frame, (stepThrowing e ((s.setTop g).pushFrame (.throwing a)) a (.java g :: r)).Is ((((s.setTop g).pushFrame (.throwing a)).setVm vm1).setFrames (.java { g with pc := pc, stack := [.ref a] } :: r)) [] := fun r => by
    simp only [stepThrowing, searchFrame, vmDo]
    generalize hr : Sem.go _ e false [] _ = res
    obtain ⟨as, rfl, ha⟩ := Sem.eq_ok_of hr (a := Handler.found pc) (s' := ((s.setTop g).pushFrame (.throwing a)).setVm vm1) (acts' := []) (by simp [hfind _ _ _ _])
    exact ⟨rfl, ha⟩
  obtain ⟨hgo, hw⟩ := h.throwing a
  refine Steps.head hgo hw ?_
  rw [stepThread_throwing (frames_entered h.top _), (hstep _).1]
  obtain ⟨g0, hg⟩ := Option.isSome_iff_exists.mp h.top
  obtain ⟨r, hr⟩ := State.topJava?_eq_some.mp hg
  have hr2 : (s.setVm vm1).frames = .java g0 :: r := hr
  rw [State.setTop_of_frames _ hr2] at hrest
  rw [hr, List.tail_cons, State.pushFrame, pz_frs, State.setTop_of_frames _ hr, pz_frs]
  exact hrest
section PQJ
variable {p : Program} {l : Launch} {e : Env} {R : Room} {s : State} {m : MethodId} {args : Array Value} {below : List Frame} {meth : Method} {c : Code} {H : Heap} {locs : List Loc} {cells slots : Nat} {Q : State → Prop} {pc : Nat} {ls : Array Slot} {rest : List Value}
theorem pz_catch {own name : String} {E : String} {ce : Cell} {q : Addr} (hown : s.vm.findClass own = some m.cls) (pre : List ExceptionTableEntry) (x : ExceptionTableEntry) (suf : List ExceptionTableEntry) (hsplit : c.exceptionTable.toList = pre ++ x :: suf)
    (hpass : ∀ z ∈ pre, covers z pc = false ∨ (z.catchType ≠ 0 ∧ ∃ nm : String, (Cond.classLink own z.catchType nm).before args s = true ∧ va_Nc E nm s)) (hx : covers x pc = true) (h0 : x.catchType ≠ 0)
    (hlink : (Cond.classLink own x.catchType name).before args s = true) (hcast : (Cond.castable E name).before args s = true) (hcell : H[q]? = some ce) (hv : ce.vm = .none) (hcl : s.vm.findClass E = some ce.cls)
    (kk : W p l e R s m args below meth c H locs cells slots Q (F0 m x.handlerPc ls [.ref q])) : vx_W p l e R s m args below meth c H locs cells slots Q (F0 m pc ls rest) q := by
  intro T hT X
  have hpl : e.platform.magicAccessors = ({} : Platform).magicAccessors := by rw [X.admits.platform]
  obtain ⟨c3, c4, hc3, hc4, hasg⟩ := Cond.castable_spec hcast
  cases Option.some.inj (hc3.symm.trans hcl)
  obtain ⟨c5, hc5, hcl5⟩ := Cond.classLink_spec hown hlink e.platform hpl
  cases Option.some.inj (hc4.symm.trans hc5)
  obtain ⟨k9, h9, -⟩ := Vm.findClass_spec hcl
  obtain ⟨vm1, hW1, hf⟩ := pz_find (e := e) (s0 := s) (f := F0 m pc ls rest) (a := q) (cell := ce) (fun j z => by rw [hv] at z; cases z) ⟨k9, h9⟩ x suf hx h0 hcl5 hasg pre ((T.setTop (F0 m pc ls rest)).pushFrame (.throwing q)) X.warmed (by show T.heap[q]? = _; rw [hT]; exact hcell) (fun z hz => by
      rcases hpass z hz with h | ⟨hz0, nm, hl1, hn1⟩
      · exact Or.inl h
      · obtain ⟨c6, hc6, hcl6⟩ := Cond.classLink_spec hown hl1 e.platform hpl
        obtain ⟨a8, b8, h1, h2, h3⟩ := hn1
        cases Option.some.inj (h1.symm.trans hcl)
        cases Option.some.inj (h2.symm.trans hc6)
        exact Or.inr ⟨hz0, _, hcl6, h3⟩)
  obtain ⟨t, a1, b1⟩ := kk (T.setVm vm1) hT (X.noted hW1)
  refine ⟨t, pz_toh (g := F0 m pc ls rest) X.here (fun Qh Eh db acts => ?_) a1, b1⟩
  rw [W.findHandler_eq (s := (T.setTop (F0 m pc ls rest)).pushFrame (.throwing q)) (f := F0 m pc ls rest) X.method' X.code, hsplit]
  exact hf Qh Eh db acts
end PQJ
