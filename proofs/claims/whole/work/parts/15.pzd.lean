/-! ===== the machine follows the pure one: whole runs ===== -/
/-- what the tables say of methods, calls and throws -/
def pz_Mb (U E2 : List Cond) (nm : Nat → String) (my : Nat → MethodName) (xn : Nat → String) (cl : List vw_C) (M : Nat → Nat → Option (Nat × Nat)) (X : Nat → Nat → Option (Nat × Nat)) (mt : Nat → Option (Nat × ByteArray × Nat × Bool × Option FieldType × Nat × Nat)) : Prop :=
  (∀ x ∈ U, goodWord x = true) ∧
  (∀ j o code nL ini ret ci np, mt j = some (o, code, nL, ini, ret, ci, np) → (my j).cls = nm o ∧ Cond.code (my j) code nL ret ∈ U ∧ plainName (my j).cls = true ∧ (ini = true → (my j).name = "<init>") ∧ Cond.initialized (my j).cls ∈ U ∧ ((my j).cls ≠ "java/lang/invoke/MethodHandle" ∧ (my j).cls ≠ "java/lang/invoke/VarHandle") ∧ (parseMethodDescriptor (my j).desc).map (fun d => d.parameters.length) = some np) ∧
  (∀ o idx j, M o idx = some (0, j) → Cond.methodLink (nm o) idx (my j) ∈ U ∧ Cond.instanceMethod (my j) ∈ U ∧ Cond.selects (my j).cls (my j) (my j) ∈ U ∧ ∀ o1 code nL ini ret ci np, mt j = some (o1, code, nL, ini, ret, ci, np) → ∃ (T : u_T) (N : Nat), cl[ci]? = some ((my j).cls, T, N)) ∧
  (∀ o idx j, M o idx = some (2, j) → Cond.methodLink (nm o) idx (my j) ∈ U ∧ Cond.instanceMethod (my j) ∈ U ∧ (my j).name = "<init>" ∧ ∀ o1 code nL ini ret ci np, mt j = some (o1, code, nL, ini, ret, ci, np) → ret = none) ∧
  (∀ o idx j, M o idx = some (3, j) → (∃ host : String, Cond.methodLinkNest (nm o) idx (my j) host ∈ E2) ∧ Cond.instanceMethod (my j) ∈ U ∧ (my j).name = "<init>" ∧ ∀ o1 code nL ini ret ci np, mt j = some (o1, code, nL, ini, ret, ci, np) → ret = none) ∧
  (∀ o idx j, M o idx = some (4, j) → Cond.methodLink (nm o) idx (my j) ∈ U ∧ Cond.static (my j) ∈ U) ∧
  (∀ o idx x ic, X o idx = some (x, ic) → ∃ names : List String, names.length ≤ 4 ∧ Bundle.fit (xn x) = true ∧ (∀ n ∈ names, Bundle.fit n = true) ∧ Cond.classLink (nm o) idx (xn x) ∈ U ∧ Cond.initialized (xn x) ∈ U ∧ (∀ y ∈ vx_at0 (nm o) ic (xn x) names, y ∈ U ++ E2) ∧ ∀ y ∈ Cond.classLink (nm o) idx (xn x) :: Cond.initialized (xn x) :: vx_at0 (nm o) ic (xn x) names, vx_ot y = true)
section PQA
variable (l : Launch) (D : va_G) (cl : List vw_C) (tys : List (ClassId × FieldType)) (cy : Nat → ClassId) (A : Nat → Prop) (U E2 : List Cond) (nm : Nat → String) (my : Nat → MethodName) (xn : Nat → String) (tk : Nat → FieldType) (nk : Nat)
variable (F : Nat → Nat → Option (Nat × Nat × Bool × FieldType)) (K KA : Nat → Nat → Option Nat) (G : Nat → Nat → Option Value) (M : Nat → Nat → Option (Nat × Nat)) (X : Nat → Nat → Option (Nat × Nat)) (mt : Nat → Option (Nat × ByteArray × Nat × Bool × Option FieldType × Nat × Nat)) (fz : Nat → List Value)
/-- runs of at most n steps a frame are the machine's own -/
def pz_Snd (n : Nat) : Prop :=
  ∀ (d j pc : Nat) (lv : List (Nat × Value)) (st : List Value) (w : List pz_C) (nc ns : Nat) (o : Option Value ⊕ Nat) (w1 : List pz_C) (c1 s1 ow : Nat) (code : ByteArray) (nL : Nat) (ini : Bool) (ret : Option FieldType) (ci np : Nat),
    pz_run cl tk F K KA G M X mt fz n d j pc lv st w nc ns = some (o, w1, c1, s1) → mt j = some (ow, code, nL, ini, ret, ci, np) →
    ∀ (p : Program) (e : Env) (s : State) (m : MethodId) (args : Array Value) (below : List Frame) (meth : Method) (c : Code) (H : Heap) (locs : List Loc) (ad ad0 : Nat → Nat) (n0 : Nat),
      p.tables.exec = Jvm.exec → c.code = code → c.maxLocals = nL → (∀ x ∈ U, x.before args s = true) → s.vm.findClass (nm ow) = some m.cls → meth.sig.returnType = ret → meth.locks = false → meth.name = (my j).name → (∀ x ∈ c.exceptionTable.toList, False) →
      va_K D cl tys s → pz_V D cl cy A s.heap nk ad w H locs → (∀ q, s.heap.size ≤ q → A q) → pz_Ou A E2 s s.heap → (∀ z ∈ lv, pz_o w.length z.2) → (∀ z ∈ st, pz_o w.length z) → (∀ i, i < n0 ∨ 1099511627776 ≤ i → ad i = ad0 i) → n0 ≤ w.length →
      pz_W p l e (pz_rm d c1 s1) s m args below meth c H locs nc ns (vx_MQ below (pz_Qc D cl cy A nk ad0 n0 o w1) (pz_XC xn D cl cy A nk ad0 n0 o w1) args s c1 s1 A) ad nL pc lv st
end PQA
section PQB
variable {l : Launch} {D : va_G} {cl : List vw_C} {tys : List (ClassId × FieldType)} {cy : Nat → ClassId} {A : Nat → Prop} {U E2 : List Cond} {nm : Nat → String} {my : Nat → MethodName} {xn : Nat → String} {tk : Nat → FieldType} {nk : Nat}
variable {F : Nat → Nat → Option (Nat × Nat × Bool × FieldType)} {K KA : Nat → Nat → Option Nat} {G : Nat → Nat → Option Value} {M : Nat → Nat → Option (Nat × Nat)} {X : Nat → Nat → Option (Nat × Nat)} {mt : Nat → Option (Nat × ByteArray × Nat × Bool × Option FieldType × Nat × Nat)} {fz : Nat → List Value}
/-- a method's contract out of its pure run -/
theorem pz_contract {n d j ow nL ci np c1 s1 : Nat} {code : ByteArray} {ini : Bool} {ret : Option FieldType} {as : List Value} {w w1 : List pz_C} {o : Option Value ⊕ Nat} {ad : Nat → Nat} (hS : pz_Snd l D cl tys cy A U E2 nm my xn tk nk F K KA G M X mt fz n) (mb : pz_Mb U E2 nm my xn cl M X mt)
    (hr : pz_run cl tk F K KA G M X mt fz n d j 0 (lv_args 0 as) [] w 0 0 = some (o, w1, c1, s1)) (hmt : mt j = some (ow, code, nL, ini, ret, ci, np)) (hlg : (lg_sl as).length ≤ nL) (hlen : w.length ≤ 1000000000) (hwo : ∀ z ∈ w, pz_oc w.length z) (hwk : ∀ (a k n : Nat) (z : List (Nat × Value)), w[a]? = some (Sum.inl (k, n, z)) → k < nk) (hao : ∀ z ∈ as, pz_o w.length z) :
    vx_Met l (my j) (Cond.code (my j) code nL ret :: U) (pz_rm d c1 s1) (pz_Pc D cl cy A tys E2 ad w as) (pz_Qc D cl cy A nk ad w.length o w1) (pz_XC xn D cl cy A nk ad w.length o w1) c1 s1 A := by
  obtain ⟨m1, m2, m3, -⟩ := mb.2.1 _ _ _ _ _ _ _ _ hmt
  refine vx_ofW (cc := code) (maxL := nL) (ret := ret) m3 rfl ?_
  intro p e s m args below meth c s₁ B hml hexc hv
  obtain ⟨rfl, h0, h1, h2, h3, h4⟩ := hv
  have hts := atoms_spec (ws := Cond.code (my j) code nL ret :: U) B.pre
  have hown : s.vm.findClass (nm ow) = some m.cls := by
    rw [← m1]
    exact findClass_of_methodNamed B.named
  have hl := lv_entry (as.map (pz_v ad)) (n := nL) (by rw [pz_lg]; exact hlg)
  rw [lg_entry_eq]
  rw [pz_args] at hl
  exact hS d j 0 (lv_args 0 as) [] w 0 0 o w1 c1 s1 ow code nL ini ret ci np hr hmt p e s m _ below meth c s.heap [] ad ad w.length B.exec B.bytes hml (fun x hx => hts x (List.mem_cons_of_mem _ hx)) hown B.returns B.notSynchronized (name_of_methodNamed B.named B.method).1 hexc h3 ⟨h1, h2, va_S.rf, hlen, hwo, hwk⟩ h0 h4 (pz_args_o as 0 hao) (fun z hz => by cases hz) (fun _ _ => rfl) (Nat.le_refl _) _ hl
end PQB
