/-! ===== the machine follows the pure one: instructions on the heap ===== -/
section PZS
variable {p : Program} {l : Launch} {e : Env} {R : Room} {s : State} {m : MethodId} {args : Array Value} {below : List Frame} {meth : Method} {c : Code} {H : Heap} {locs : List Loc} {cells slots : Nat} {Q : State → Prop} {cc : ByteArray} {ad : Nat → Nat} {nL pc : Nat} {lv : List (Nat × Value)}
variable {D : va_G} {cl : List vw_C} {tys : List (ClassId × FieldType)} {cy : Nat → ClassId} {A : Nat → Prop} {w : List pz_C} {H0 : Heap} {Ts : List Cond} {own : String} {tk : Nat → FieldType}
theorem pz_newq_ok {nk k N index : Nat} {C : String} {n : Int32} {st : List Value} (hx : p.tables.exec = Jvm.exec) (hb : c.code = cc) (hown : s.vm.findClass own = some m.cls) (hclink : (Cond.classLink own index C).before args s = true) (hover : va_AO C s) (hK : va_K D cl tys s) (hT : pz_T tk nk cy tys) (htk : tk (k + 4) = .object C) (hk : k + 4 < nk) (hP : va_P D cl (pz_w cy ad w) H) (hD : va_D A (pz_w cy ad w)) (hS : va_S A H0 H locs) (hA : ∀ q, H0.size ≤ q → A q)
    (hn : ¬ n < 0) (hN : n.toNatClampNeg = N) (hbytes : N ≤ 67108864) (hcells : cells + 1 ≤ R.cells) (hslots : slots + N ≤ R.slots) (hlen : w.length < 1099511627776) (hwo : ∀ z ∈ w, pz_oc w.length z) (hlo : ∀ z ∈ lv, pz_o w.length z.2) (hso : ∀ z ∈ st, pz_o w.length z) (hdg : decode cc pc = .ok (.anewarray index, 3))
    (kk : ∀ (q : Nat) (H1 : Heap), va_P D cl (pz_w cy (va_up ad w.length q) (w ++ [.inl (k + 4, N, [])])) H1 → va_D A (pz_w cy (va_up ad w.length q) (w ++ [.inl (k + 4, N, [])])) → va_S A H0 H1 locs → pz_W p l e R s m args below meth c H1 locs (cells + 1) (slots + N) Q (va_up ad w.length q) nL (pc + 3) lv (.ref w.length :: st)) :
    pz_W p l e R s m args below meth c H locs cells slots Q ad nL pc lv (.int n :: st) := by
  intro ls hl
  refine va_newq hx hb hown hclink hover hK hP hD hS hA hn hN (by omega) hcells hslots hdg (fun q cA H1 g1 g2 g3 g4 => ?_)
  have e1 : va_RA s cA (.object C) := (g1.2 tys.length (cA, .object C) (by simp)).2
  have e2 : va_RA s (cy (k + 4)) (.object C) := by
    have h := (hK.2 (k + 4) _ (hT.2.2.2.2.2 (k + 4) hk)).2
    rw [htk] at h
    exact h
  obtain ⟨_, _, -, -, -, f1⟩ := e1
  obtain ⟨_, _, -, -, -, f2⟩ := e2
  have hc : cA = cy (k + 4) := Option.some.inj (f1.symm.trans f2)
  subst hc
  exact pz_fresh (x := .inl (k + 4, N, [])) hlen hwo (fun z hz => by cases hz) hlo hso g2 g3 hl (fun h1 h2 => kk q H1 h1 h2 g4)
theorem pz_new_ok {C : String} {T : u_T} {N ci index : Nat} {st fs : List Value} {ty0 : Nat → FieldType} (hx : p.tables.exec = Jvm.exec) (hb : c.code = cc) (hts : ∀ w ∈ Ts, w.before args s = true) (hin : ∀ w ∈ u_ws C T N, w ∈ Ts) (hty : ∀ k, k < N → parseFieldDescriptor (T k).2.2.1 = some (ty0 k)) (hown : s.vm.findClass own = some m.cls) (hclink : (Cond.classLink own index C).before args s = true) (hinst : (Cond.instantiable C N).before args s = true) (hini : (Cond.initialized C).before args s = true)
    (hK : va_K D cl tys s) (hP : va_P D cl (pz_w cy ad w) H) (hD : va_D A (pz_w cy ad w)) (hS : va_S A H0 H locs) (hA : ∀ q, H0.size ≤ q → A q) (hc : cl[ci]? = some (C, T, N)) (hfs : ∀ j, j < N → defaultValue (ty0 j) = vp_V fs j) (hfl : fs.length = N) (hfo : ∀ v ∈ fs, ∀ i, v ≠ .ref i) (hcells : cells + 1 ≤ R.cells) (hslots : slots + fs.length ≤ R.slots)
    (hlen : w.length < 1099511627776) (hwo : ∀ z ∈ w, pz_oc w.length z) (hlo : ∀ z ∈ lv, pz_o w.length z.2) (hso : ∀ z ∈ st, pz_o w.length z) (hdg : decode cc pc = .ok (.new index, 3))
    (kk : ∀ (q : Nat) (H1 : Heap), va_P D cl (pz_w cy (va_up ad w.length q) (w ++ [.inr (ci, fs)])) H1 → va_D A (pz_w cy (va_up ad w.length q) (w ++ [.inr (ci, fs)])) → va_S A H0 H1 locs → pz_W p l e R s m args below meth c H1 locs (cells + 1) (slots + fs.length) Q (va_up ad w.length q) nL (pc + 3) lv (.ref w.length :: st)) :
    pz_W p l e R s m args below meth c H locs cells slots Q ad nL pc lv st := by
  intro ls hl
  have hid : fs.map (pz_v ad) = fs := by
    refine (List.map_congr_left fun v hv => ?_).trans (List.map_id fs)
    cases v with
    | ref i => exact absurd rfl (hfo _ hv i)
    | _ => rfl
  subst hfl
  refine va_new hx hb hts hin ty0 hty hown hclink hinst hini hK hP hD hS hA hc hfs hcells hslots hdg (fun q H1 g2 g3 g4 => ?_)
  rw [← hid] at g2 g3
  exact pz_fresh (x := .inr (ci, fs)) hlen hwo (fun v hv i hi => absurd hi (hfo v hv i)) hlo hso g2 g3 hl (fun h1 h2 => kk q H1 h1 h2 g4)
end PZS
/-- what holds of the heap: the world, apart, nothing else changed; references are cells' numbers -/
def pz_V (D : va_G) (cl : List vw_C) (cy : Nat → ClassId) (A : Nat → Prop) (H0 : Heap) (nk : Nat) (ad : Nat → Nat) (w : List pz_C) (H : Heap) (locs : List Loc) : Prop :=
  va_P D cl (pz_w cy ad w) H ∧ va_D A (pz_w cy ad w) ∧ va_S A H0 H locs ∧ w.length ≤ 1000000000 ∧ (∀ z ∈ w, pz_oc w.length z) ∧ ∀ (a k n : Nat) (z : List (Nat × Value)), w[a]? = some (Sum.inl (k, n, z)) → k < nk
/-- what the tables say, by words of U; nm: the owners' names -/
def pz_Tb (U : List Cond) (nm : Nat → String) (cl : List vw_C) (tk : Nat → FieldType) (nk : Nat) (F : Nat → Nat → Option (Nat × Nat × Bool × FieldType)) (K KA : Nat → Nat → Option Nat) (G : Nat → Nat → Option Value) (M : Nat → Nat → Option (Nat × Nat)) (fz : Nat → List Value) (ST : Nat → Nat → Option Value) (LS : Nat → Nat → Option Nat) (SF : List (String × String × String × Value)) (RS : List (String × Nat × String × Nat)) : Prop :=
  (∀ (ci : Nat) (C : String) (T : u_T) (N : Nat), cl[ci]? = some (C, T, N) → (∀ w ∈ u_ws C T N, w ∈ U) ∧ (∃ ty0 : Nat → FieldType, (∀ k, k < N → parseFieldDescriptor (T k).2.2.1 = some (ty0 k)) ∧ ∀ j, j < N → defaultValue (ty0 j) = vp_V (fz ci) j) ∧ (∀ a, a < N → ∀ b, b < N → a ≠ b → (T a).2.1 ≠ (T b).2.1) ∧ (fz ci).length = N ∧ ∀ v ∈ fz ci, ∀ i, v ≠ .ref i) ∧
  (∀ o idx ci k fin ty, F o idx = some (ci, k, fin, ty) → ∃ (C : String) (T : u_T) (N : Nat), cl[ci]? = some (C, T, N) ∧ k < N ∧ Cond.fieldLink (nm o) idx (T k).1 (T k).2.1 (T k).2.2.1 ∈ U ∧ (T k).2.2.2 = fin ∧ (fin = true → (T k).1 = nm o) ∧ parseFieldDescriptor (T k).2.2.1 = some ty) ∧
  (∀ o idx ci, K o idx = some ci → ∃ (C : String) (T : u_T) (N : Nat), cl[ci]? = some (C, T, N) ∧ Cond.classLink (nm o) idx C ∈ U ∧ Cond.instantiable C N ∈ U ∧ Cond.initialized C ∈ U) ∧
  ((∀ o idx k, KA o idx = some k → idx < 65536 → k + 4 < nk ∧ ∃ C : String, tk (k + 4) = .object C ∧ Cond.classLink (nm o) idx C ∈ U ∧ Cond.arrayOver (.object C) ∈ U) ∧ (∀ o idx k, KA o (idx + 65536) = some k → k + 4 < nk ∧ tk (k + 4) = .array .long ∧ Cond.classLink (nm o) idx "[[J" ∈ U ∧ Cond.arrayOver (.array .long) ∈ U)) ∧
  (4 ≤ nk ∧ Cond.arrayClass .int ∈ U ∧ Cond.arrayClass .long ∈ U ∧ Cond.arrayClass .boolean ∈ U ∧ Cond.arrayClass .byte ∈ U) ∧
  (∀ o idx x, G o idx = some (.int x) → Cond.constant (nm o) idx x ∈ U) ∧
  (∀ o idx x, G o idx = some (.long x) → Cond.constantLong (nm o) idx x ∈ U) ∧
  (∀ o idx, M o idx = some (6, 0) → Cond.methodLink (nm o) idx Lib.objectInit ∈ U ∧ Cond.instanceMethod Lib.objectInit ∈ U ∧ Cond.code Lib.objectInit ⟨#[0xb1]⟩ 1 none ∈ U) ∧
  (∀ o idx v, ST o idx = some v → pz_o 0 v ∧ ∃ (C n d : String), (C, n, d, v) ∈ SF ∧ Cond.fieldLink (nm o) idx C n d ∈ U) ∧
  (∀ o idx i, LS o idx = some i → ∃ tx : String, (nm o, idx, tx, i) ∈ RS) ∧
  (∀ o idx, M o idx = some (8, 0) → Cond.methodLink (nm o) idx arraycopyName ∈ U ∧ Cond.native arraycopyName ∈ U ∧ Cond.static arraycopyName ∈ U ∧ Cond.initialized "java/lang/System" ∈ U) ∧
  (∀ o idx, M o idx = some (10, 0) → Cond.methodLink (nm o) idx Lib.Math.min.name ∈ U ∧ Cond.static Lib.Math.min.name ∈ U ∧ Cond.initialized "java/lang/Math" ∈ U ∧ Cond.code Lib.Math.min.name Lib.Math.min.code 2 (some .int) ∈ U) ∧
  (∀ o idx, M o idx = some (11, 0) → Cond.methodLink (nm o) idx Lib.Math.max.name ∈ U ∧ Cond.static Lib.Math.max.name ∈ U ∧ Cond.initialized "java/lang/Math" ∈ U ∧ Cond.code Lib.Math.max.name Lib.Math.max.code 2 (some .int) ∈ U)
