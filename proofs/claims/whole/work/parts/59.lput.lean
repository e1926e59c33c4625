/-! ===== the law's wrapper: put ===== -/
def wl_f (p : Nat) (l : List (Nat × Int32)) : Nat → Nat → Option Int32 := fun pc y => if pc = p then pt_look l y else none
/-- handlers that answer numbers: checked by counting -/
def wl_ok (j p : Nat) (l : List (Nat × Int32)) : Bool := match pt_mt j with
  | some (o, cb, nL, _, ret, _, _) => !(pt_HH j).isEmpty && l.all (fun q => match pz_hr (fun t => pt_CX o t q.1) p (pt_HH j) with | some h => decide (pz_hp cb nL ret h = some q.2) | none => false)
  | none => false
theorem wl_HH {j p o nL ci np : Nat} {cb : ByteArray} {ini : Bool} {ret : Option FieldType} {l : List (Nat × Int32)} (hm : pt_mt j = some (o, cb, nL, ini, ret, ci, np)) (h : wl_ok j p l = true) : wv_HH j o nL cb ret (some (wl_f p l)) := by
  unfold wl_ok at h
  rw [hm] at h
  simp only [Bool.and_eq_true, Bool.not_eq_true'] at h
  refine ⟨fun z => by rw [z] at h; simp at h, fun pc y v hv => ?_⟩
  unfold wl_f at hv
  split at hv
  · rename_i hp
    subst hp
    have h1 := List.all_eq_true.mp h.2 (y, v) (pt_look_mem hv)
    split at h1
    · rename_i hd e
      exact ⟨hd, e, of_decide_eq_true h1⟩
    · cases h1
  · cases hv
set_option maxRecDepth 100000 in
theorem wl_89 : wl_ok 89 4 [(0, 1), (1, 2)] = true := by decide +kernel
def wl_c89 : wv_c1 := fun as T N I L R q => ∃ s : Int32, as = [.ref 0, .int s, .ref 536] ∧ T 536 = some (.inr (1, 1)) ∧ wm_T T ∧ 0 ≤ (I 1 6).toInt ∧ (I 1 6).toInt ≤ 400 ∧
  (if wb_any s 4 = true then q (.inl (some (.int 1))) T N I L R 1 6 else if 400 < (I 1 6).toInt + wb_cnt s 4 then q (.inl (some (.int 2))) T N I L R 1 6 else q (.inl (some (.int 0))) T N (wb_ap 1 6 2 s I 4) (wv_u L 536 0 (wb_ap 1 6 2 s I 4 1 6).toInt64) R 0 0)
set_option maxRecDepth 100000 in
theorem wl_m89 : ∃ cb ci np, pt_mt 89 = some (0, cb, 4, false, some .int, ci, np) := ⟨_, _, _, rfl⟩
set_option maxRecDepth 100000 in
theorem wl_put {sc : pt_Sc} {d : Nat} : wv_C wm_fx sc (d + 1 + 1 + 1) 89 wl_c89 := by
  rintro as T N I L R q ⟨s, rfl, h537, hT, hs0, hs1, hq⟩ w HR
  obtain ⟨cb, ci, np, hm⟩ := wl_m89
  refine wv_meth (hh := some (wl_f 4 [(0, 1), (1, 2)])) rfl (sp := wv_sp [(90, wq_c90)]) (hd := fun _ => none) (n := 0) (n1 := 100) hm zc_89 (wl_HH hm wl_89) (wv_sp_ok (fun q hq => by rw [List.mem_singleton.mp hq]; exact wq_putC)) ?_ (fun pc P h => by cases h) HR
  refine ⟨_, rfl, hT, hs0, hs1, ?_⟩
  unfold wq_put
  split
  · rename_i h1
    rw [if_pos h1] at hq
    exact ⟨Or.inl rfl, hq⟩
  · rename_i h1
    rw [if_neg h1] at hq
    split
    · rename_i h2
      rw [if_pos h2] at hq
      exact ⟨Or.inl rfl, hq⟩
    · rename_i h2
      rw [if_neg h2] at hq
      exact ⟨_, h537, ⟨by decide, by decide⟩, by decide, hq⟩
