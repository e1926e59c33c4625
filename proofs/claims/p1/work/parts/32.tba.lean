/-! ===== what the tables say holds: fields, sorts, constants ===== -/
abbrev pt_F := pt_two pt_FL
abbrev pt_K := pt_two pt_KL
abbrev pt_KA := pt_two pt_KAL
abbrev pt_G := pt_two pt_GL
abbrev pt_M := pt_two pt_ML
abbrev pt_X := pt_two pt_XL
abbrev pt_ST := pt_two pt_STL
abbrev pt_LS := pt_two pt_LSL
/-- the word at a place -/
def pt_w (p : Nat) (x : Cond) : Bool := decide (pt_tbl[p]? = some x) && goodWord x
theorem pt_w_ok {p : Nat} {x : Cond} (h : pt_w p x = true) : x ∈ pt_U := by
  unfold pt_w at h
  rw [Bool.and_eq_true] at h
  exact pt_Umem (of_decide_eq_true h.1) h.2
def pt_p (l : List (List (Nat × Nat))) (o i : Nat) : Nat := (pt_two l o i).getD 0
def pt_cF (o i : Nat) (v : Nat × Nat × Bool × FieldType) : Bool := match pt_cl[v.1]? with
  | some (_, T, N) => decide (v.2.1 < N) && pt_w (pt_p pf_F o i) (.fieldLink (pt_nm o) i (T v.2.1).1 (T v.2.1).2.1 (T v.2.1).2.2.1) && decide ((T v.2.1).2.2.2 = v.2.2.1) && (!v.2.2.1 || decide ((T v.2.1).1 = pt_nm o)) && decide (parseFieldDescriptor (T v.2.1).2.2.1 = some v.2.2.2)
  | none => false
set_option maxRecDepth 100000 in
theorem pt_F_all : pt_all pt_cF pt_FL = true := by decide +kernel
theorem pt_F_ok : ∀ o idx ci k fin ty, pt_F o idx = some (ci, k, fin, ty) → ∃ (C : String) (T : u_T) (N : Nat), pt_cl[ci]? = some (C, T, N) ∧ k < N ∧ Cond.fieldLink (pt_nm o) idx (T k).1 (T k).2.1 (T k).2.2.1 ∈ pt_U ∧ (T k).2.2.2 = fin ∧ (fin = true → (T k).1 = pt_nm o) ∧ parseFieldDescriptor (T k).2.2.1 = some ty := by
  intro o idx ci k fin ty h
  have hc := pt_all_ok pt_F_all h
  unfold pt_cF at hc
  dsimp only at hc
  split at hc
  · rename_i C T N hcl
    simp only [Bool.and_eq_true, decide_eq_true_eq, Bool.or_eq_true, Bool.not_eq_true'] at hc
    obtain ⟨⟨⟨⟨h1, h2⟩, h3⟩, h4⟩, h5⟩ := hc
    exact ⟨C, T, N, hcl, h1, pt_w_ok h2, h3, fun z => h4.elim (fun q => by rw [z] at q; cases q) id, h5⟩
  · cases hc
def pt_cK (o i : Nat) (v : Nat) : Bool := match pt_cl[v]?, pf_C[v]? with
  | some (C, _, N), some (p1, p2, _) => pt_w (pt_p pf_K o i) (.classLink (pt_nm o) i C) && pt_w p1 (.instantiable C N) && pt_w p2 (.initialized C)
  | _, _ => false
set_option maxRecDepth 100000 in
theorem pt_K_all : pt_all pt_cK pt_KL = true := by decide +kernel
theorem pt_K_ok : ∀ o idx ci, pt_K o idx = some ci → ∃ (C : String) (T : u_T) (N : Nat), pt_cl[ci]? = some (C, T, N) ∧ Cond.classLink (pt_nm o) idx C ∈ pt_U ∧ Cond.instantiable C N ∈ pt_U ∧ Cond.initialized C ∈ pt_U := by
  intro o idx ci h
  have hc := pt_all_ok pt_K_all h
  unfold pt_cK at hc
  split at hc
  · rename_i hcl _
    simp only [Bool.and_eq_true] at hc
    exact ⟨_, _, _, hcl, pt_w_ok hc.1.1, pt_w_ok hc.1.2, pt_w_ok hc.2⟩
  · cases hc
def pt_cG (o i : Nat) (v : Value) : Bool := match v with
  | .int y => pt_w (pt_p pf_G o i) (.constant (pt_nm o) i y)
  | .long y => pt_w (pt_p pf_G o i) (.constantLong (pt_nm o) i y)
  | _ => false
set_option maxRecDepth 100000 in
theorem pt_G_all : pt_all pt_cG pt_GL = true := by decide +kernel
theorem pt_G_i : ∀ o idx y, pt_G o idx = some (.int y) → Cond.constant (pt_nm o) idx y ∈ pt_U := fun o idx y h => pt_w_ok (pt_all_ok pt_G_all h)
theorem pt_G_l : ∀ o idx y, pt_G o idx = some (.long y) → Cond.constantLong (pt_nm o) idx y ∈ pt_U := fun o idx y h => pt_w_ok (pt_all_ok pt_G_all h)
/-- the sorts -/
def pt_cC (ci : Nat) (q : vw_C) : Bool := match pf_C[ci]? with
  | some (_, _, ps) => decide (ps.length = q.2.2) && (List.range q.2.2).all (fun k => pt_w (ps.getD k 0) (u_lay q.1 q.2.1 k)) && (List.range q.2.2).all (fun k => match parseFieldDescriptor (q.2.1 k).2.2.1 with | some ty => decide (defaultValue ty = vp_V (pt_fz ci) k) | none => false) && (List.range q.2.2).all (fun a => (List.range q.2.2).all (fun b => decide (a = b) || decide ((q.2.1 a).2.1 ≠ (q.2.1 b).2.1))) && decide ((pt_fz ci).length = q.2.2) && (pt_fz ci).all (fun v => match v with | .ref _ => false | _ => true)
  | none => false
set_option maxRecDepth 100000 in
theorem pt_C_all : (pt_cl.zipIdx).all (fun q => pt_cC q.2 q.1) = true := by decide +kernel
