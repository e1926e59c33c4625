/-! ===== the start ===== -/
/-- the class's object, made -/
theorem st_one {sc : pt_Sc} (Q : pz_O → Prop) (hQ : Q (.inl none, st_wc, 459, 21036)) : zW sc 68 1 0 [(0, .ref 0)] [] [.inr (0, pt_fz 0)] 0 0 Q := by
  obtain ⟨cb, hm⟩ : ∃ cb, pt_mt 1 = some (1, cb, 1, true, none, 0, 0) := ⟨_, rfl⟩
  have hC : ∀ q : Nat × Instr × Nat, q ∈ zt_1 → zC 1 1 cb 1 true none q.1 q.2.1 q.2.2 := fun q h => ⟨⟨0, 0, hm⟩, (zc_1 _ _ _ _ _ _ _ hm).1 q h⟩
  refine zp_ok (d := 67) (sc := sc) (Q := Q) (by omega) (fun q h => hC q (List.mem_of_mem_take h)) st_pa ?_
  refine zp_ok (d := 67) (sc := sc) (Q := Q) (by omega) (fun q h => hC q (List.mem_of_mem_drop (List.mem_of_mem_take h))) st_pb ?_
  refine zp_ok (d := 67) (sc := sc) (Q := Q) (by omega) (fun q h => hC q (List.mem_of_mem_drop (List.mem_of_mem_take h))) st_pc ?_
  exact zR (hC (207, .return_, 1) (List.mem_of_getElem? (show zt_1[99]? = some (207, .return_, 1) from rfl))) rfl rfl hQ
theorem st_wcl : st_wc.length = 460 := by decide +kernel
theorem cx_v_ok {c : Nat} {fs : List Value} (h : cx_o (.inr (c, fs)) = true) {k : Nat} (hk : k < wv_nf c) : fs[k]? = some (wv_v (wv_ft c k) (cx_I (some (.inr (c, fs))) k) (cx_L (some (.inr (c, fs))) k) (cx_R (some (.inr (c, fs))) k)) := by
  have z : (match fs[k]? with | some v => cx_s (wv_ft c k) v | none => false) = true := List.all_eq_true.mp h k (List.mem_range.mpr hk)
  cases hf : fs[k]? with
  | none => rw [hf] at z; cases z
  | some v =>
    rw [hf] at z
    have e : cx_v (some (.inr (c, fs))) k = v := by
      show fs.getD k .null = v
      rw [List.getD_eq_getElem?_getD, hf]
      rfl
    unfold cx_I cx_L cx_R
    rw [e]
    unfold wv_v
    have z : cx_s (wv_ft c k) v = true := z
    cases v <;> unfold cx_s at z <;> try cases z
    · have z := of_decide_eq_true z
      rw [if_pos z]
      rfl
    all_goals have z := of_decide_eq_true z
    · rw [if_neg (by omega), if_pos z]
      rfl
    · rw [if_neg z.1, if_neg z.2]
      rfl
    · rw [if_neg z.1, if_neg z.2]
      rfl
theorem sx_wR {sc : pt_Sc} {w : List pz_C} {N : Nat} (hl : w.length = N) (hX : wv_X wm_fx (sx_T (pz_q (pt_OT sc) w)) (sx_R (pz_q (pt_OT sc) w))) (ho : ∀ r c, pz_q (pt_OT sc) w r = some c → cx_o c = true) : wv_R wm_fx sc w (sx_T (pz_q (pt_OT sc) w)) N (sx_I (pz_q (pt_OT sc) w)) (sx_L (pz_q (pt_OT sc) w)) (sx_R (pz_q (pt_OT sc) w)) := by
  refine ⟨⟨hl, hX⟩, fun r c h => ?_, fun r kd n h => ?_⟩
  · have h : cx_T (pz_q (pt_OT sc) w r) = some (.inl c) := h
    show ∃ fs, _ ∧ ∀ k, k < wv_nf c → fs[k]? = some (wv_v (wv_ft c k) (cx_I (pz_q (pt_OT sc) w r) k) (cx_L (pz_q (pt_OT sc) w r) k) (cx_R (pz_q (pt_OT sc) w r) k))
    cases e : pz_q (pt_OT sc) w r with
    | none => rw [e] at h; cases h
    | some x =>
      rw [e] at h
      rcases x with ⟨kd, n, z⟩ | ⟨c2, fs⟩
      · cases h
      · have h : some (Sum.inl c2 : Nat ⊕ (Nat × Nat)) = some (.inl c) := h
        cases h
        exact ⟨fs, rfl, fun k hk => cx_v_ok (ho r _ e) hk⟩
  · have h : cx_T (pz_q (pt_OT sc) w r) = some (.inr (kd, n)) := h
    show ∃ z, _ ∧ ∀ i, i < n → wv_e kd (pz_g z i) (cx_I (pz_q (pt_OT sc) w r) i) (cx_L (pz_q (pt_OT sc) w r) i) (cx_R (pz_q (pt_OT sc) w r) i)
    cases e : pz_q (pt_OT sc) w r with
    | none => rw [e] at h; cases h
    | some x =>
      rw [e] at h
      rcases x with ⟨k2, n2, z⟩ | ⟨c2, fs⟩
      · have h : some (Sum.inr (k2, n2) : Nat ⊕ (Nat × Nat)) = some (.inr (kd, n)) := h
        cases h
        refine ⟨z, rfl, fun i _ => ?_⟩
        unfold wv_e
        split
        · rfl
        · split
          · rfl
          · rfl
      · cases h
theorem st_fz : (pt_fz 0).length = 18 ∧ (pt_fz 12).length = 120 := by decide +kernel
section SV
variable {w3 : List pz_C} {c s : Nat}
theorem sv_k (hk : st_ck w3 c s = true) : w3.length = 536 ∧ c ≤ 570 ∧ s ≤ 425000 ∧ ∀ x, x ∈ w3 → cx_o x = true := by
  unfold st_ck at hk
  simp only [Bool.and_eq_true] at hk
  obtain ⟨⟨⟨⟨k1, k2⟩, k3⟩, k4⟩, _⟩ := hk
  exact ⟨Nat.eq_of_beq_eq_true k1, Nat.le_of_ble_eq_true k2, Nat.le_of_ble_eq_true k3, List.all_eq_true.mp k4⟩
theorem sv_in {sc : pt_Sc} (l3 : w3.length = 536) : (∀ r, r < 536 → pz_q (pt_OT sc) (w3 ++ [.inl (1, 1, [])]) r = w3[r]?) ∧ pz_q (pt_OT sc) (w3 ++ [.inl (1, 1, [])]) 536 = some (.inl (1, 1, [])) := by
  refine ⟨fun r hr => ?_, ?_⟩
  · unfold pz_q
    rw [if_pos (by omega)]
    exact List.getElem?_append_left (by omega)
  · unfold pz_q
    rw [if_pos (by omega), List.getElem?_append_right (by omega), l3]
    rfl
theorem sv_out {sc : pt_Sc} {w : List pz_C} : (∀ i, ¬ i = 0 → pz_q (pt_OT sc) w (1099511627776 + i) = pt_look pt_OTL i) ∧ pz_q (pt_OT sc) w 1099511627776 = some (.inl (0, sc.1, sc.2.1)) := by
  refine ⟨fun i hi => ?_, ?_⟩
  · unfold pz_q
    rw [if_neg (by omega), show 1099511627776 + i - 1099511627776 = i by omega]
    unfold pt_OT
    rw [if_neg hi]
  · unfold pz_q
    rw [if_neg (by omega), Nat.sub_self]
    unfold pt_OT
    rw [if_pos rfl]
theorem ot_o : ∀ x, x ∈ pt_OTL → cx_o x.2 = true := by
  have z := ot_l_t
  unfold ot_l at z
  rw [Bool.and_eq_true] at z
  exact List.all_eq_true.mp z.2
theorem sv_o {sc : pt_Sc} {w : List pz_C} (hw : ∀ x, x ∈ w → cx_o x = true) {r : Nat} {y : pz_C} (h : pz_q (pt_OT sc) w r = some y) : cx_o y = true := by
  by_cases hr : r < 1099511627776
  · unfold pz_q at h
    rw [if_pos hr] at h
    exact hw y (List.mem_of_getElem? h)
  · obtain ⟨i, hi⟩ : ∃ i, r = 1099511627776 + i := ⟨r - 1099511627776, by omega⟩
    by_cases h0 : i = 0
    · rw [show r = 1099511627776 by omega, sv_out.2] at h
      rw [← Option.some.inj h]
      rfl
    · rw [hi, sv_out.1 i h0] at h
      exact ot_o _ (pt_look_mem h)
theorem sv_w (hw : ∀ x, x ∈ w3 → cx_o x = true) : ∀ x, x ∈ w3 ++ [(.inl (1, 1, []) : pz_C)] → cx_o x = true := fun x hx => by
  rcases List.mem_append.mp hx with a | a
  · exact hw x a
  · rw [List.mem_singleton.mp a]
    rfl
end SV
theorem Rl_start : st_S Rl := by
  intro fv hfv Lg xs hLg
  obtain ⟨w3, c3, s3, e3, hk⟩ := st_k3_ok st_t
  obtain ⟨l3, k2, k3, k4⟩ := sv_k hk
  obtain ⟨f0, f12⟩ := st_fz
  obtain ⟨hp, h6⟩ := sv_in (sc := pt_sc Lg xs fv) l3
  obtain ⟨ho, h0⟩ := sv_out (sc := pt_sc Lg xs fv) (w := w3 ++ [.inl (1, 1, [])])
  have hl : (w3 ++ [(.inl (1, 1, []) : pz_C)]).length = 537 := by
    rw [List.length_append, l3]
    rfl
  have hn : 0 + 1 + 459 + 1 + c3 + 1 ≤ 575 := by omega
  have hs : 0 + (pt_fz 0).length + 21036 + (pt_fz 12).length + s3 + 1 ≤ 430000 := by
    rw [f0, f12]
    omega
  refine ⟨w3 ++ [.inl (1, 1, [])], st_lz, _, 537, _, _, _, _, _, sx_wR hl (sx_wX hp hk) (fun r y h => sv_o (sv_w k4) h), st_lv, ?_, fun j hj => ?_, sx_Rl hp h6 ho hk hn hs, fun Q h => st_go st_one st_wcl (fun Q hQ => st_c_ok (by omega) e3 Q hQ) l3 Q h⟩
  · show cx_T (pz_q _ _ 1099511627776) = _
    rw [h0]
    rfl
  · show cx_I (pz_q _ _ 1099511627776) j = _
    rw [h0]
    show pz_I (pz_g ((List.range Lg).map fun j => (j, Value.int (xs j))) j) = xs j
    rw [pt_sc_g xs _ _ (List.mem_range.mpr hj)]
    rfl
