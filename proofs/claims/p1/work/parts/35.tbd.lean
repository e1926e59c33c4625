/-! ===== what the tables say holds: methods ===== -/
theorem pt_mt_mem {j : Nat} {v : Nat × ByteArray × Nat × Bool × Option FieldType × Nat × Nat} (h : pt_mt j = some v) : ∃ t, pt_mL[j / 16]? = some t ∧ t[j % 16]? = some v := by
  unfold pt_mt at h
  split at h
  · rename_i t ht
    exact ⟨t, ht, h⟩
  · cases h
theorem pt_len : pt_mL.length = 31 := by decide +kernel
theorem pc_all : ∀ a, a < 31 → ∀ r ∈ ((pt_mL.getD a []).zipIdx), pz_cw (pt_my (16 * a + r.2)) r.1.2.1 r.1.2.2.1 r.1.2.2.2.2.1 (pt_HH (16 * a + r.2)) ∈ pt_U := fun a ha => match a, ha with
  | 0, _ => pc_r0
  | 1, _ => pc_r1
  | 2, _ => pc_r2
  | 3, _ => pc_r3
  | 4, _ => pc_r4
  | 5, _ => pc_r5
  | 6, _ => pc_r6
  | 7, _ => pc_r7
  | 8, _ => pc_r8
  | 9, _ => pc_r9
  | 10, _ => pc_r10
  | 11, _ => pc_r11
  | 12, _ => pc_r12
  | 13, _ => pc_r13
  | 14, _ => pc_r14
  | 15, _ => pc_r15
  | 16, _ => pc_r16
  | 17, _ => pc_r17
  | 18, _ => pc_r18
  | 19, _ => pc_r19
  | 20, _ => pc_r20
  | 21, _ => pc_r21
  | 22, _ => pc_r22
  | 23, _ => pc_r23
  | 24, _ => pc_r24
  | 25, _ => pc_r25
  | 26, _ => pc_r26
  | 27, _ => pc_r27
  | 28, _ => pc_r28
  | 29, _ => pc_r29
  | 30, _ => pc_r30
  | n + 31, h => absurd h (by omega)
theorem pt_code_ok {j o nL ci np : Nat} {cb : ByteArray} {ini : Bool} {rt : Option FieldType} (h : pt_mt j = some (o, cb, nL, ini, rt, ci, np)) : pz_cw (pt_my j) cb nL rt (pt_HH j) ∈ pt_U := by
  obtain ⟨t, h1, h2⟩ := pt_mt_mem h
  have ha : j / 16 < 31 := by
    have := (List.getElem?_eq_some_iff.mp h1).1
    rw [pt_len] at this
    exact this
  have h3 := pc_all (j / 16) ha ((o, cb, nL, ini, rt, ci, np), j % 16) (by
    rw [List.getD_eq_getElem?_getD, h1]
    exact List.mem_zipIdx_iff_getElem?.mpr h2)
  dsimp only at h3
  rw [Nat.div_add_mod] at h3
  exact h3
/-- a check of every method -/
def pt_mall (f : Nat → (Nat × ByteArray × Nat × Bool × Option FieldType × Nat × Nat) → Bool) (l : List (List (Nat × ByteArray × Nat × Bool × Option FieldType × Nat × Nat))) : Bool := (l.zipIdx).all fun q => (q.1.zipIdx).all fun r => f (16 * q.2 + r.2) r.1
theorem pt_mall_ok {f : Nat → (Nat × ByteArray × Nat × Bool × Option FieldType × Nat × Nat) → Bool} (h : pt_mall f pt_mL = true) {j : Nat} {v : Nat × ByteArray × Nat × Bool × Option FieldType × Nat × Nat} (hv : pt_mt j = some v) : f j v = true := by
  obtain ⟨t, h1, h2⟩ := pt_mt_mem hv
  have h3 := List.all_eq_true.mp h (t, j / 16) (List.mem_zipIdx_iff_getElem?.mpr h1)
  have h4 := List.all_eq_true.mp h3 (v, j % 16) (List.mem_zipIdx_iff_getElem?.mpr h2)
  dsimp only at h4
  rw [Nat.div_add_mod] at h4
  exact h4
def pt_cm1 (j : Nat) (v : Nat × ByteArray × Nat × Bool × Option FieldType × Nat × Nat) : Bool :=
  decide ((pt_my j).cls = pt_nm v.1) && plainName (pt_my j).cls && (!v.2.2.2.1 || decide ((pt_my j).name = "<init>")) && decide ((pt_my j).cls ≠ "java/lang/invoke/MethodHandle" ∧ (pt_my j).cls ≠ "java/lang/invoke/VarHandle") && decide ((parseMethodDescriptor (pt_my j).desc).map (fun d => d.parameters.length) = some v.2.2.2.2.2.2)
set_option maxRecDepth 100000 in
theorem pt_m1 : pt_mall pt_cm1 pt_mL = true := by decide +kernel
/-- owners are initialized -/
def pf_o : List Nat := [204, 205, 206, 207, 208, 209, 210, 211, 212, 213, 214, 215, 217, 216, 219, 220, 221, 218, 229, 230, 223, 226, 225, 224, 227, 228, 232, 233, 235, 236, 237, 238, 222]
set_option maxRecDepth 100000 in
theorem pt_o1 : (pt_nmL.zip pf_o).all (fun q => pt_w q.2 (.initialized q.1)) = true := by decide +kernel
