/-! ===== the machine follows the pure one: whole runs ===== -/
/-- a method's code, with its table or without -/
def pz_cw (y : MethodName) (code : ByteArray) (nL : Nat) (ret : Option FieldType) (hh : List (Nat × Nat × Nat × Nat)) : Cond := if hh = [] then .code y code nL ret else .codeWith y code nL ret hh
/-- what the tables say of methods, calls and throws -/
def pz_Mb (U E2 : List Cond) (nm : Nat → String) (my : Nat → MethodName) (xn : Nat → String) (cl : List vw_C) (M : Nat → Nat → Option (Nat × Nat)) (X : Nat → Nat → Option (Nat × Nat)) (mt : Nat → Option (Nat × ByteArray × Nat × Bool × Option FieldType × Nat × Nat)) (HH : Nat → List (Nat × Nat × Nat × Nat)) (CX : Nat → Nat → Nat → Option Bool) : Prop :=
  (∀ x ∈ U, goodWord x = true) ∧
  (∀ j o code nL ini ret ci np, mt j = some (o, code, nL, ini, ret, ci, np) → (my j).cls = nm o ∧ pz_cw (my j) code nL ret (HH j) ∈ U ∧ plainName (my j).cls = true ∧ (ini = true → (my j).name = "<init>") ∧ Cond.initialized (my j).cls ∈ U ∧ ((my j).cls ≠ "java/lang/invoke/MethodHandle" ∧ (my j).cls ≠ "java/lang/invoke/VarHandle") ∧ (parseMethodDescriptor (my j).desc).map (fun d => d.parameters.length) = some np) ∧
  (∀ o idx j, M o idx = some (0, j) → Cond.methodLink (nm o) idx (my j) ∈ U ∧ Cond.instanceMethod (my j) ∈ U ∧ Cond.selects (my j).cls (my j) (my j) ∈ U ∧ ∀ o1 code nL ini ret ci np, mt j = some (o1, code, nL, ini, ret, ci, np) → ∃ (T : u_T) (N : Nat), cl[ci]? = some ((my j).cls, T, N)) ∧
  (∀ o idx j, M o idx = some (2, j) → Cond.methodLink (nm o) idx (my j) ∈ U ∧ Cond.instanceMethod (my j) ∈ U ∧ (my j).name = "<init>" ∧ ∀ o1 code nL ini ret ci np, mt j = some (o1, code, nL, ini, ret, ci, np) → ret = none) ∧
  (∀ o idx j, M o idx = some (3, j) → (∃ host : String, Cond.methodLinkNest (nm o) idx (my j) host ∈ E2) ∧ Cond.instanceMethod (my j) ∈ U ∧ (my j).name = "<init>" ∧ ∀ o1 code nL ini ret ci np, mt j = some (o1, code, nL, ini, ret, ci, np) → ret = none) ∧
  (∀ o idx j, M o idx = some (4, j) → Cond.methodLink (nm o) idx (my j) ∈ U ∧ Cond.static (my j) ∈ U) ∧
  (∀ o idx j, M o idx = some (5, j) → Cond.methodLink (nm o) idx (my j) ∈ U ∧ Cond.sameMethod (my j).cls (my j).cls (my j).name (my j).desc ∈ U ∧ Cond.instanceMethod (my j) ∈ U ∧ ∀ o1 code nL ini ret ci np, mt j = some (o1, code, nL, ini, ret, ci, np) → ∃ (C : String) (T : u_T) (N : Nat), cl[ci]? = some (C, T, N) ∧ Cond.selects C (my j) (my j) ∈ U) ∧
  (∀ o idx j, M o idx = some (7, j) → Cond.methodLink (nm o) idx (my j) ∈ U ∧ Cond.sameMethod (my j).cls (my j).cls (my j).name (my j).desc ∈ U ∧ Cond.superclass (nm o) (my j).cls ∈ U ∧ Cond.instanceMethod (my j) ∈ U ∧ (my j).name ≠ "<init>" ∧ ∀ o1 code nL ini ret ci np, mt j = some (o1, code, nL, ini, ret, ci, np) → ∃ (C : String) (T : u_T) (N : Nat), cl[ci]? = some (C, T, N)) ∧
  (∀ o idx j, M o idx = some (9, j) → Cond.methodLink (nm o) idx (my j) ∈ U ∧ Cond.static (my j) ∈ U ∧ HH j ≠ []) ∧
  (∀ o idx h j, M o idx = some (h, j) → h ≠ 9 → HH j = []) ∧
  (∀ o t x, CX o t x = some true → ∃ name : String, Cond.classLink (nm o) t name ∈ U ∧ Cond.castable (xn x) name ∈ U ++ E2) ∧
  (∀ o t x, CX o t x = some false → ∃ name : String, Cond.classLink (nm o) t name ∈ U ∧ Cond.not (.castable (xn x) name) ∈ E2) ∧
  (∀ o idx x ic, X o idx = some (x, ic) → ∃ names : List String, names.length ≤ 4 ∧ Bundle.fit (xn x) = true ∧ (∀ n ∈ names, Bundle.fit n = true) ∧ Cond.classLink (nm o) idx (xn x) ∈ U ∧ Cond.initialized (xn x) ∈ U ∧ (∀ y ∈ vx_at0 (nm o) ic (xn x) names, y ∈ U ++ E2) ∧ ∀ y ∈ Cond.classLink (nm o) idx (xn x) :: Cond.initialized (xn x) :: vx_at0 (nm o) ic (xn x) names, vx_ot y = true)
section PQA
variable (l : Launch) (D : va_G) (cl : List vw_C) (tys : List (ClassId × FieldType)) (cy : Nat → ClassId) (A : Nat → Prop) (U E2 : List Cond) (nm : Nat → String) (my : Nat → MethodName) (xn : Nat → String) (tk : Nat → FieldType) (nk : Nat)
variable (F : Nat → Nat → Option (Nat × Nat × Bool × FieldType)) (K KA : Nat → Nat → Option Nat) (G : Nat → Nat → Option Value) (M : Nat → Nat → Option (Nat × Nat)) (X : Nat → Nat → Option (Nat × Nat)) (mt : Nat → Option (Nat × ByteArray × Nat × Bool × Option FieldType × Nat × Nat)) (fz : Nat → List Value) (oad : Nat → Nat) (OT : Nat → Option pz_C) (ST : Nat → Nat → Option Value) (LS : Nat → Nat → Option Nat) (SF : List (String × String × String × Value)) (RS : List (String × Nat × String × Nat)) (HH : Nat → List (Nat × Nat × Nat × Nat)) (CX : Nat → Nat → Nat → Option Bool)
/-- runs of at most n steps a frame are the machine's own -/
def pz_Snd (n : Nat) : Prop :=
  ∀ (d j pc : Nat) (lv : List (Nat × Value)) (st : List Value) (w : List pz_C) (nc ns : Nat) (o : Option Value ⊕ Nat) (w1 : List pz_C) (c1 s1 ow : Nat) (code : ByteArray) (nL : Nat) (ini : Bool) (ret : Option FieldType) (ci np : Nat),
    pz_run cl tk F K KA G M X mt fz OT ST LS HH CX n d j pc lv st w nc ns = some (o, w1, c1, s1) → mt j = some (ow, code, nL, ini, ret, ci, np) →
    ∀ (p : Program) (e : Env) (s : State) (m : MethodId) (args : Array Value) (below : List Frame) (meth : Method) (c : Code) (H : Heap) (locs : List Loc) (ad ad0 : Nat → Nat) (n0 : Nat),
      p.tables.exec = Jvm.exec → c.code = code → c.maxLocals = nL → (∀ x ∈ U, x.before args s = true) → s.vm.findClass (nm ow) = some m.cls → meth.sig.returnType = ret → meth.locks = false → meth.name = (my j).name → c.exceptionTable.toList = tableOf (HH j) →
      va_K D cl tys s → pz_V D cl cy A s.heap nk ad w H locs → (∀ q, s.heap.size ≤ q → A q) → pz_Ou cl tk oad OT SF RS A E2 s s.heap → (∀ z ∈ lv, pz_o w.length z.2) → (∀ z ∈ st, pz_o w.length z) → (∀ i, i < n0 ∨ 1099511627776 ≤ i → ad i = ad0 i) → n0 ≤ w.length → (∀ i, 1099511627776 ≤ i → ad0 i = oad i) →
      pz_W p l e (pz_rm d c1 s1) s m args below meth c H locs nc ns (vx_MQ below (pz_Qc D cl cy A nk ad0 n0 o w1) (pz_XC xn D cl cy A nk ad0 n0 o w1) args s c1 s1 A) ad nL pc lv st
end PQA
section PQB
variable {l : Launch} {D : va_G} {cl : List vw_C} {tys : List (ClassId × FieldType)} {cy : Nat → ClassId} {A : Nat → Prop} {U E2 : List Cond} {nm : Nat → String} {my : Nat → MethodName} {xn : Nat → String} {tk : Nat → FieldType} {nk : Nat}
variable {F : Nat → Nat → Option (Nat × Nat × Bool × FieldType)} {K KA : Nat → Nat → Option Nat} {G : Nat → Nat → Option Value} {M : Nat → Nat → Option (Nat × Nat)} {X : Nat → Nat → Option (Nat × Nat)} {mt : Nat → Option (Nat × ByteArray × Nat × Bool × Option FieldType × Nat × Nat)} {fz : Nat → List Value} {oad : Nat → Nat} {OT : Nat → Option pz_C} {ST : Nat → Nat → Option Value} {LS : Nat → Nat → Option Nat} {SF : List (String × String × String × Value)} {RS : List (String × Nat × String × Nat)} {HH : Nat → List (Nat × Nat × Nat × Nat)} {CX : Nat → Nat → Nat → Option Bool}
/-- a method's contract out of its pure run -/
theorem pz_contract {n d j ow nL ci np c1 s1 : Nat} {code : ByteArray} {ini : Bool} {ret : Option FieldType} {as : List Value} {w w1 : List pz_C} {o : Option Value ⊕ Nat} {ad : Nat → Nat} (hS : pz_Snd l D cl tys cy A U E2 nm my xn tk nk F K KA G M X mt fz oad OT ST LS SF RS HH CX n) (mb : pz_Mb U E2 nm my xn cl M X mt HH CX)
    (hr : pz_run cl tk F K KA G M X mt fz OT ST LS HH CX n d j 0 (lv_args 0 as) [] w 0 0 = some (o, w1, c1, s1)) (hmt : mt j = some (ow, code, nL, ini, ret, ci, np)) (hlg : (lg_sl as).length ≤ nL) (hlen : w.length ≤ 1000000000) (hwo : ∀ z ∈ w, pz_oc w.length z) (hwk : ∀ (a k n : Nat) (z : List (Nat × Value)), w[a]? = some (Sum.inl (k, n, z)) → k < nk) (hao : ∀ z ∈ as, pz_o w.length z) (hoa : ∀ i, 1099511627776 ≤ i → ad i = oad i) :
    vx_Met l (my j) (pz_cw (my j) code nL ret (HH j) :: U) (pz_rm d c1 s1) (pz_Pc D cl cy A tys tk oad OT SF RS E2 ad w as) (pz_Qc D cl cy A nk ad w.length o w1) (pz_XC xn D cl cy A nk ad w.length o w1) c1 s1 A := by
  obtain ⟨m1, m2, m3, -⟩ := mb.2.1 _ _ _ _ _ _ _ _ hmt
  have key : ∀ p e s m args below meth c s₁, BodyLoose p l (my j) (headSpec (pz_cw (my j) code nL ret (HH j) :: U) (pz_rm d c1 s1)) code nL ret e s m args below meth c s₁ → c.maxLocals = nL → c.exceptionTable.toList = tableOf (HH j) → pz_Pc D cl cy A tys tk oad OT SF RS E2 ad w as args s →
      W p l e (headSpec (pz_cw (my j) code nL ret (HH j) :: U) (pz_rm d c1 s1)).room s m args below meth c s.heap [] 0 0 (vx_MQ below (pz_Qc D cl cy A nk ad w.length o w1) (pz_XC xn D cl cy A nk ad w.length o w1) args s c1 s1 A) (entryFrame m args nL) := by
    intro p e s m args below meth c s₁ B hml hexc hv
    obtain ⟨rfl, h0, h1, h2, h3, h4⟩ := hv
    have hts := atoms_spec (ws := pz_cw (my j) code nL ret (HH j) :: U) B.pre
    have hown : s.vm.findClass (nm ow) = some m.cls := by
      rw [← m1]
      exact findClass_of_methodNamed B.named
    have hl := lv_entry (as.map (pz_v ad)) (n := nL) (by rw [pz_lg]; exact hlg)
    rw [lg_entry_eq]
    rw [pz_args] at hl
    exact hS d j 0 (lv_args 0 as) [] w 0 0 o w1 c1 s1 ow code nL ini ret ci np hr hmt p e s m _ below meth c s.heap [] ad ad w.length B.exec B.bytes hml (fun x hx => hts x (List.mem_cons_of_mem _ hx)) hown B.returns B.notSynchronized (name_of_methodNamed B.named B.method).1 hexc h3 ⟨h1, h2, va_S.rf, hlen, hwo, hwk⟩ h0 h4 (pz_args_o as 0 hao) (fun z hz => by cases hz) (fun _ _ => rfl) (Nat.le_refl _) hoa _ hl
  by_cases hh : HH j = []
  · have hcw : pz_cw (my j) code nL ret (HH j) = Cond.code (my j) code nL ret := if_pos hh
    refine vx_ofW (cc := code) (maxL := nL) (ret := ret) m3 (by rw [hcw]) (fun p e s m args below meth c s₁ B hml hexc hv => key p e s m args below meth c s₁ B hml ?_ hv)
    rw [hh]
    cases hx : c.exceptionTable.toList with
    | nil => rfl
    | cons y t => exact (hexc y (by rw [hx]; exact List.mem_cons_self)).elim
  · have hcw : pz_cw (my j) code nL ret (HH j) = Cond.codeWith (my j) code nL ret (HH j) := if_neg hh
    refine vx_ofWH (cc := code) (maxL := nL) (ret := ret) (hh := HH j) m3 (by rw [hcw]) (fun p e s m args below meth c s₁ B hml hv => key p e s m args below meth c s₁ B hml ?_ hv)
    have hts := atoms_spec (ws := pz_cw (my j) code nL ret (HH j) :: U) B.pre
    exact vx_table (x := my j) B (by rw [← hcw]; exact hts _ List.mem_cons_self)
end PQB
