/-! ===== references stay cells' numbers ===== -/
theorem pz_tl {N : Nat} {v : Value} {r : List Value} (h : ∀ z ∈ v :: r, pz_o N z) : ∀ z ∈ r, pz_o N z := fun z hz => h z (List.mem_cons_of_mem _ hz)
theorem pz_cn {N : Nat} {v : Value} {r : List Value} (hv : pz_o N v) (h : ∀ z ∈ r, pz_o N z) : ∀ z ∈ v :: r, pz_o N z := fun z hz => by
  rcases List.mem_cons.mp hz with rfl | hz
  · exact hv
  · exact h z hz
theorem pz_hd {N : Nat} {v : Value} {r : List Value} (h : ∀ z ∈ v :: r, pz_o N z) : pz_o N v := h v List.mem_cons_self
theorem pz_s1_o {N : Nat} {lv : List (Nat × Value)} {i : Nat} {v : Value} (hv : pz_o N v) (h : ∀ z ∈ lv, pz_o N z.2) : ∀ z ∈ pz_s1 lv i v, pz_o N z.2 := fun z hz => by
  rcases List.mem_cons.mp hz with rfl | hz
  · exact hv
  · exact h z (List.mem_filter.mp hz).1
theorem pz_s2_o {N : Nat} {lv : List (Nat × Value)} {i : Nat} {v : Value} (hv : pz_o N v) (h : ∀ z ∈ lv, pz_o N z.2) : ∀ z ∈ pz_s2 lv i v, pz_o N z.2 := fun z hz => by
  rcases List.mem_cons.mp hz with rfl | hz
  · exact hv
  · exact h z (List.mem_filter.mp hz).1
theorem pz_B_o {N : Nat} {ins : Instr} {st st1 : List Value} (h : pz_B ins st = some st1) (ho : ∀ z ∈ st, pz_o N z) : ∀ z ∈ st1, pz_o N z := by
  unfold pz_B at h
  split at h <;> first
    | (cases h; exact pz_cn pz_o_i (pz_tl (pz_tl ho)))
    | (cases h; exact pz_cn pz_o_l (pz_tl (pz_tl ho)))
    | (cases h; exact pz_cn pz_o_i (pz_tl ho))
    | (cases h; exact pz_cn pz_o_l (pz_tl ho))
    | (cases h; exact pz_cn pz_o_n ho)
    | (split at h
       · cases h
       · cases h; exact pz_cn pz_o_i (pz_tl (pz_tl ho)))
    | (split at h
       · cases h; exact pz_cn (pz_hd ho) ho
       · cases h)
    | (split at h
       · cases h; exact pz_tl ho
       · cases h)
    | (split at h
       · cases h; exact pz_cn (pz_hd ho) ho
       · split at h
         · split at h
           · cases h; exact pz_cn (pz_hd ho) (pz_cn (pz_hd (pz_tl ho)) ho)
           · cases h
         · cases h)
    | (split at h
       · cases h; exact pz_cn (pz_hd ho) (pz_cn (pz_hd (pz_tl ho)) (pz_cn (pz_hd ho) (pz_tl (pz_tl ho))))
       · cases h)
    | cases h
theorem pz_A_o {N nL : Nat} {ins : Instr} {len : Nat} {lv lv1 : List (Nat × Value)} {st st1 : List Value} (h : pz_A ins nL lv st = some (len, lv1, st1)) (hl : ∀ z ∈ lv, pz_o N z.2) (ho : ∀ z ∈ st, pz_o N z) : (∀ z ∈ lv1, pz_o N z.2) ∧ ∀ z ∈ st1, pz_o N z := by
  unfold pz_A at h
  split at h <;> first
    | (cases h; exact ⟨hl, pz_cn pz_o_i ho⟩)
    | (cases h; exact ⟨hl, pz_cn pz_o_l ho⟩)
    | (split at h
       · rename_i hq
         cases h; exact ⟨hl, pz_cn (hl _ (pz_ld_mem hq)) ho⟩
       · cases h)
    | (split at h
       · split at h
         · cases h; exact ⟨pz_s1_o (pz_hd ho) hl, pz_tl ho⟩
         · cases h
       · cases h)
    | (split at h
       · split at h
         · cases h; exact ⟨pz_s2_o (pz_hd ho) hl, pz_tl ho⟩
         · cases h
       · cases h)
    | (split at h
       · split at h
         · cases h; exact ⟨pz_s1_o pz_o_i hl, ho⟩
         · cases h
       · cases h)
    | cases h
theorem pz_J_o {N : Nat} {ins : Instr} {len pc pc1 : Nat} {st st1 : List Value} (h : pz_J ins len pc st = some (pc1, st1)) (ho : ∀ z ∈ st, pz_o N z) : ∀ z ∈ st1, pz_o N z := by
  unfold pz_J at h
  split at h <;> first
    | (split at h
       · split at h
         · split at h
           · split at h
             · cases h; exact pz_tl ho
             · cases h; exact pz_tl ho
           · cases h
         · cases h
       · cases h)
    | (split at h
       · split at h
         · split at h
           · split at h
             · cases h; exact pz_tl (pz_tl ho)
             · cases h; exact pz_tl (pz_tl ho)
           · cases h
         · cases h
       · cases h)
    | (split at h
       · obtain ⟨t, ht, he⟩ := Option.map_eq_some_iff.mp h
         cases he; exact ho
       · cases h)
    | (split at h
       · split at h
         · obtain ⟨t, ht, he⟩ := Option.map_eq_some_iff.mp h
           cases he; exact pz_tl ho
         · split at h
           · obtain ⟨t, ht, he⟩ := Option.map_eq_some_iff.mp h
             cases he; exact pz_tl ho
           · cases h
       · cases h)
    | (split at h
       · split at h
         · obtain ⟨t, ht, he⟩ := Option.map_eq_some_iff.mp h
           cases he; exact pz_tl ho
         · cases h
       · cases h)
    | (split at h
       · split at h
         · cases h; exact pz_tl ho
         · cases h
       · cases h)
    | cases h
theorem pz_rf_o {N : Nat} {v : Value} (h : pz_o N v) : pz_o N (va_rf (pz_R v)) := by
  cases v with
  | ref i => exact h
  | _ => exact pz_o_n
theorem pz_AL_o {N : Nat} {OT : Nat → Option pz_C} {ins : Instr} {w : List pz_C} {st st1 : List Value} (h : pz_AL OT ins w st = some st1) (hw : ∀ z ∈ w, pz_oc N z) (hO : ∀ (i k n : Nat) (z : List (Nat × Value)), OT i = some (.inl (k, n, z)) → k < 4) (ho : ∀ z ∈ st, pz_o N z) : ∀ z ∈ st1, pz_o N z := by
  unfold pz_AL at h
  split at h
  · split at h
    · rename_i hq
      split at h
      · cases h
      · split at h
        · cases h; exact pz_cn pz_o_i (pz_tl (pz_tl ho))
        · cases h; exact pz_cn pz_o_l (pz_tl (pz_tl ho))
        · cases h; exact pz_cn pz_o_i (pz_tl (pz_tl ho))
        · cases h; exact pz_cn pz_o_i (pz_tl (pz_tl ho))
        · cases h
          rcases pz_q_or hq with hm | ⟨-, hm⟩
          · exact pz_cn (pz_rf_o (pz_g_o (hw _ (List.mem_of_getElem? hm)))) (pz_tl (pz_tl ho))
          · exact absurd (hO _ _ _ _ hm) (by omega)
        · cases h
    · cases h
  · cases h
/-- behind a store: as many cells, of the same kinds -/
theorem pz_set_o {N a : Nat} {w : List pz_C} {x : pz_C} (hw : ∀ z ∈ w, pz_oc N z) (hx : pz_oc N x) : ∀ z ∈ w.set a x, pz_oc N z := fun z hz => by
  rcases List.mem_or_eq_of_mem_set hz with h | h
  · exact hw z h
  · rw [h]; exact hx
theorem pz_set_k {nk a : Nat} {w : List pz_C} {x : pz_C} (hw : ∀ (a k n : Nat) (z : List (Nat × Value)), w[a]? = some (Sum.inl (k, n, z)) → k < nk) (hx : ∀ (k n : Nat) (z : List (Nat × Value)), x = Sum.inl (k, n, z) → k < nk) : ∀ (b k n : Nat) (z : List (Nat × Value)), (w.set a x)[b]? = some (Sum.inl (k, n, z)) → k < nk := fun b k n z hb => by
  by_cases h : a = b
  · subst h
    rw [List.getElem?_set] at hb
    by_cases h2 : a < w.length
    · rw [if_pos rfl, if_pos h2] at hb
      exact hx k n z (Option.some.inj hb)
    · rw [if_pos rfl, if_neg h2] at hb
      cases hb
  · rw [List.getElem?_set_ne h] at hb
    exact hw b k n z hb
theorem pz_push_k {nk : Nat} {w : List pz_C} {x : pz_C} (hw : ∀ (a k n : Nat) (z : List (Nat × Value)), w[a]? = some (Sum.inl (k, n, z)) → k < nk) (hx : ∀ (k n : Nat) (z : List (Nat × Value)), x = Sum.inl (k, n, z) → k < nk) : ∀ (b k n : Nat) (z : List (Nat × Value)), (w ++ [x])[b]? = some (Sum.inl (k, n, z)) → k < nk := fun b k n z hb => by
  by_cases h : b < w.length
  · rw [List.getElem?_append_left h] at hb
    exact hw b k n z hb
  · rw [List.getElem?_append_right (Nat.not_lt.mp h)] at hb
    have hm := List.mem_of_getElem? hb
    exact hx k n z (List.mem_singleton.mp hm).symm
theorem pz_AS_o {N nk : Nat} {ins : Instr} {cl : List vw_C} {tk : Nat → FieldType} {w w1 : List pz_C} {st st1 : List Value} (h : pz_AS ins cl tk w st = some (w1, st1)) (hw : ∀ z ∈ w, pz_oc N z) (hk : ∀ (a k n : Nat) (z : List (Nat × Value)), w[a]? = some (Sum.inl (k, n, z)) → k < nk) (ho : ∀ z ∈ st, pz_o N z) :
    w1.length = w.length ∧ (∀ z ∈ w1, pz_oc N z) ∧ (∀ (a k n : Nat) (z : List (Nat × Value)), w1[a]? = some (Sum.inl (k, n, z)) → k < nk) ∧ ∀ z ∈ st1, pz_o N z := by
  unfold pz_AS at h
  split at h
  · split at h
    · rename_i hq
      have hm := hw _ (List.mem_of_getElem? hq)
      have hkk := hk _ _ _ _ hq
      split at h
      · cases h
      · split at h <;> first
          | (cases h; exact ⟨List.length_set, pz_set_o hw (pz_a_o pz_o_i hm), pz_set_k hk (fun k n z hz => by cases hz; exact hkk), pz_tl (pz_tl (pz_tl ho))⟩)
          | (cases h; exact ⟨List.length_set, pz_set_o hw (pz_a_o pz_o_l hm), pz_set_k hk (fun k n z hz => by cases hz; exact hkk), pz_tl (pz_tl (pz_tl ho))⟩)
          | (split at h
             · split at h
               · split at h
                 · cases h; exact ⟨List.length_set, pz_set_o hw (pz_a_o (pz_hd ho) hm), pz_set_k hk (fun k n z hz => by cases hz; exact hkk), pz_tl (pz_tl (pz_tl ho))⟩
                 · cases h
               · cases h
             · cases h)
          | cases h
    · cases h
  · cases h
