/-! ===== the reckoned conditions are the pure machine's: locals, the world ===== -/
set_option maxRecDepth 100000 in
theorem wv_FL : pt_all (fun _ _ v => decide (wv_so v.2.2.2 = wv_ft v.1 v.2.1 ∧ v.2.1 < wv_nf v.1)) pt_FL = true := by decide +kernel
theorem wv_F {o idx ci k : Nat} {fin : Bool} {ty : FieldType} (h : pt_two pt_FL o idx = some (ci, k, fin, ty)) : wv_so ty = wv_ft ci k ∧ k < wv_nf ci := of_decide_eq_true (pt_all_ok wv_FL h)
def wv_lv (lv : List (Option Value)) (ls : List (Nat × Value)) : Prop := ∀ i v, wv_l lv i = some v → pz_ld ls i = some v
theorem wv_l_some {lv : List (Option Value)} {i : Nat} {v : Value} (h : wv_l lv i = some v) : lv[i]? = some (some v) := by
  unfold wv_l at h
  split at h
  · rename_i hq
    cases h
    exact hq
  · cases h
theorem wv_l_of {lv : List (Option Value)} {i : Nat} {v : Value} (h : lv[i]? = some (some v)) : wv_l lv i = some v := by
  unfold wv_l
  rw [h]
theorem wv_ld_f {g : Nat × Value → Bool} : ∀ {ls : List (Nat × Value)} {k : Nat} {u : Value}, pz_ld ls k = some u → g (k, u) = true → pz_ld (ls.filter g) k = some u
  | [], k, u, h, _ => by cases h
  | q :: t, k, u, h, hg => by
    unfold pz_ld at h
    split at h
    · rename_i hq
      cases h
      have e : g q = true := by rw [← hq] at hg; exact hg
      rw [List.filter_cons, if_pos e]
      unfold pz_ld
      rw [if_pos hq]
    · rename_i hq
      rw [List.filter_cons]
      split
      · unfold pz_ld
        rw [if_neg hq]
        exact wv_ld_f h hg
      · exact wv_ld_f h hg
/-- what a store leaves -/
theorem wv_k_at {lv : List (Option Value)} {i k : Nat} {u : Value} (h : (wv_k lv i)[k]? = some (some u)) : lv[k]? = some (some u) ∧ ¬ (k + 1 = i ∧ u.category = 2) := by
  unfold wv_k at h
  split at h
  · exact ⟨h, fun z => by omega⟩
  · rename_i m
    split at h
    · rename_i v hv
      split at h
      · rename_i hc
        rw [List.getElem?_set] at h
        split at h
        · split at h <;> cases h
        · exact ⟨h, fun z => by omega⟩
      · rename_i hc
        refine ⟨h, fun z => ?_⟩
        have e : k = m := by omega
        subst e
        rw [h] at hv
        cases hv
        exact hc z.2
    · rename_i hv
      refine ⟨h, fun z => ?_⟩
      have e : k = m := by omega
      subst e
      exact hv u h
theorem wv_lv_s1 {lv : List (Option Value)} {ls : List (Nat × Value)} (i : Nat) (v : Value) (h : wv_lv lv ls) : wv_lv (wv_s1 lv i v) (pz_s1 ls i v) := by
  intro k u hk
  have h1 := wv_l_some hk
  unfold wv_s1 at h1
  rw [List.getElem?_set] at h1
  unfold pz_s1 pz_ld
  split at h1
  · rename_i hi
    split at h1
    · cases h1
      rw [if_pos hi]
    · cases h1
  · rename_i hi
    rw [if_neg hi]
    obtain ⟨h2, h3⟩ := wv_k_at h1
    refine wv_ld_f (h k u (wv_l_of h2)) ?_
    simp only [Bool.and_eq_true, Bool.not_eq_true', beq_eq_false_iff_ne, ne_eq, Bool.and_eq_false_iff]
    refine ⟨fun z => hi z.symm, ?_⟩
    by_cases h4 : k + 1 = i
    · exact Or.inr (fun z => h3 ⟨h4, z⟩)
    · exact Or.inl h4
theorem wv_lv_s2 {lv : List (Option Value)} {ls : List (Nat × Value)} (i : Nat) (v : Value) (h : wv_lv lv ls) : wv_lv (wv_s2 lv i v) (pz_s2 ls i v) := by
  intro k u hk
  have h1 := wv_l_some hk
  unfold wv_s2 at h1
  rw [List.getElem?_set] at h1
  unfold pz_s2 pz_ld
  split at h1
  · split at h1 <;> cases h1
  · rename_i hi1
    rw [List.getElem?_set] at h1
    split at h1
    · rename_i hi
      split at h1
      · cases h1
        rw [if_pos hi]
      · cases h1
    · rename_i hi
      rw [if_neg hi]
      obtain ⟨h2, h3⟩ := wv_k_at h1
      refine wv_ld_f (h k u (wv_l_of h2)) ?_
      simp only [Bool.and_eq_true, Bool.not_eq_true', beq_eq_false_iff_ne, ne_eq, Bool.and_eq_false_iff]
      refine ⟨fun z => hi z.symm, fun z => hi1 z.symm, ?_⟩
      by_cases h4 : k + 1 = i
      · exact Or.inr (fun z => h3 ⟨h4, z⟩)
      · exact Or.inl h4
section WVW
variable {fx : wv_fx} {sc : pt_Sc} {w : List pz_C} {T : wv_T} {N : Nat} {I : Nat → Nat → Int32} {L : Nat → Nat → Int64} {R : Nat → Nat → Option Nat}
theorem wv_q_set {r : Nat} {x y : pz_C} (hr : r < 1099511627776) (h : pz_q (pt_OT sc) w r = some x) (b : Nat) : pz_q (pt_OT sc) (w.set r y) b = if b = r then some y else pz_q (pt_OT sc) w b := by
  unfold pz_q at h ⊢
  rw [if_pos hr] at h
  have hl : r < w.length := (List.getElem?_eq_some_iff.mp h).1
  by_cases hb : b = r
  · subst hb
    rw [if_pos rfl, if_pos hr, List.getElem?_set, if_pos rfl, if_pos hl]
  · rw [if_neg hb]
    split
    · rw [List.getElem?_set, if_neg (fun z => hb z.symm)]
    · rfl
theorem wv_q_in {r : Nat} {x : pz_C} (hr : r < 1099511627776) (h : pz_q (pt_OT sc) w r = some x) : w[r]? = some x := by
  unfold pz_q at h
  rw [if_pos hr] at h
  exact h
/-- a field is written -/
theorem wv_R_f {r c k s : Nat} {fs : List Value} {v : Value} {I1 : Nat → Nat → Int32} {L1 : Nat → Nat → Int64} {R1 : Nat → Nat → Option Nat} (H : wv_R fx sc w T N I L R) (hr : r < 1099511627776) (hT : T r = some (.inl c)) (hq : pz_q (pt_OT sc) w r = some (.inr (c, fs))) (hs : s = wv_ft c k)
    (hI : ∀ b j, ¬ (b = r ∧ j = k) → I1 b j = I b j ∧ L1 b j = L b j ∧ R1 b j = R b j) (hv : wv_v s (I1 r k) (L1 r k) (R1 r k) = v) (hk : k < fs.length) (hX : wv_X fx T R1) : wv_R fx sc (w.set r (.inr (c, fs.set k v))) T N I1 L1 R1 := by
  obtain ⟨h1, h2, h3⟩ := H
  refine ⟨⟨by rw [List.length_set]; exact h1.1, hX⟩, fun b c1 hb => ?_, fun b kd n hb => ?_⟩
  · rw [wv_q_set hr hq]
    by_cases he : b = r
    · subst he
      rw [hT] at hb
      cases hb
      refine ⟨fs.set k v, by rw [if_pos rfl], fun j hj => ?_⟩
      obtain ⟨fs1, h4, h5⟩ := h2 b c hT
      rw [hq] at h4
      cases h4
      rw [List.getElem?_set]
      by_cases hjk : k = j
      · subst hjk
        rw [if_pos rfl, if_pos hk, ← hs, hv]
      · rw [if_neg hjk, h5 j hj]
        obtain ⟨e1, e2, e3⟩ := hI b j (fun z => hjk z.2.symm)
        rw [e1, e2, e3]
    · rw [if_neg he]
      obtain ⟨fs1, h4, h5⟩ := h2 b c1 hb
      refine ⟨fs1, h4, fun j hj => ?_⟩
      obtain ⟨e1, e2, e3⟩ := hI b j (fun z => he z.1)
      rw [e1, e2, e3]
      exact h5 j hj
  · rw [wv_q_set hr hq]
    have he : ¬ b = r := fun z => by rw [z, hT] at hb; cases hb
    rw [if_neg he]
    obtain ⟨z, h4, h5⟩ := h3 b kd n hb
    refine ⟨z, h4, fun j hj => ?_⟩
    obtain ⟨e1, e2, e3⟩ := hI b j (fun z => he z.1)
    rw [e1, e2, e3]
    exact h5 j hj
/-- an element is written -/
theorem wv_R_a {r kd n i : Nat} {z : List (Nat × Value)} {v : Value} {I1 : Nat → Nat → Int32} {L1 : Nat → Nat → Int64} {R1 : Nat → Nat → Option Nat} (H : wv_R fx sc w T N I L R) (hr : r < 1099511627776) (hT : T r = some (.inr (kd, n))) (hq : pz_q (pt_OT sc) w r = some (.inl (kd, n, z)))
    (hI : ∀ b j, ¬ (b = r ∧ j = i) → I1 b j = I b j ∧ L1 b j = L b j ∧ R1 b j = R b j) (hv : wv_e kd v (I1 r i) (L1 r i) (R1 r i)) (hX : wv_X fx T R1) : wv_R fx sc (w.set r (.inl (kd, n, pz_a z i v))) T N I1 L1 R1 := by
  obtain ⟨h1, h2, h3⟩ := H
  refine ⟨⟨by rw [List.length_set]; exact h1.1, hX⟩, fun b c1 hb => ?_, fun b kd1 n1 hb => ?_⟩
  · rw [wv_q_set hr hq]
    have he : ¬ b = r := fun z => by rw [z, hT] at hb; cases hb
    rw [if_neg he]
    obtain ⟨fs1, h4, h5⟩ := h2 b c1 hb
    refine ⟨fs1, h4, fun j hj => ?_⟩
    obtain ⟨e1, e2, e3⟩ := hI b j (fun z => he z.1)
    rw [e1, e2, e3]
    exact h5 j hj
  · rw [wv_q_set hr hq]
    by_cases he : b = r
    · subst he
      rw [hT] at hb
      cases hb
      obtain ⟨z1, h4, h5⟩ := h3 b kd n hT
      rw [hq] at h4
      cases h4
      refine ⟨pz_a z i v, by rw [if_pos rfl], fun j hj => ?_⟩
      rw [pz_ga]
      by_cases hji : j = i
      · subst hji
        rw [if_pos rfl]
        exact hv
      · rw [if_neg hji]
        obtain ⟨e1, e2, e3⟩ := hI b j (fun z => hji z.2)
        rw [e1, e2, e3]
        exact h5 j hj
    · rw [if_neg he]
      obtain ⟨z1, h4, h5⟩ := h3 b kd1 n1 hb
      refine ⟨z1, h4, fun j hj => ?_⟩
      obtain ⟨e1, e2, e3⟩ := hI b j (fun z => he z.1)
      rw [e1, e2, e3]
      exact h5 j hj
theorem wv_u_at {α : Type} (f : Nat → Nat → α) (a k : Nat) (v : α) : wv_u f a k v a k = v := if_pos ⟨rfl, rfl⟩
theorem wv_u_no {α : Type} (f : Nat → Nat → α) {a k b j : Nat} (v : α) (h : ¬ (b = a ∧ j = k)) : wv_u f a k v b j = f b j := if_neg h
theorem wv_X_u {r c k x : Nat} (H : wv_X fx T R) (hT : T r = some (.inl c)) (h : ∀ b f, fx c = some (b, f) → f k = none) : wv_X fx T (wv_u R r k (some x)) := by
  intro c1 b f hf
  obtain ⟨h1, h2⟩ := H c1 b f hf
  refine ⟨h1, fun k1 a ha => ?_⟩
  rw [wv_u_no _ _ (fun z => ?_)]
  · exact h2 k1 a ha
  · obtain ⟨rfl, rfl⟩ := z
    rw [h1] at hT
    cases hT
    rw [h b f hf] at ha
    cases ha
theorem wv_X_v {r k : Nat} {v : Option Nat} {x : Nat × Nat} (H : wv_X fx T R) (hT : T r = some (.inr x)) : wv_X fx T (wv_u R r k v) := by
  intro c1 b f hf
  obtain ⟨h1, h2⟩ := H c1 b f hf
  refine ⟨h1, fun k1 a ha => ?_⟩
  rw [wv_u_no _ _ (fun z => ?_)]
  · exact h2 k1 a ha
  · obtain ⟨rfl, rfl⟩ := z
    rw [h1] at hT
    cases hT
theorem wv_q_app {r : Nat} {c x : pz_C} (h : pz_q (pt_OT sc) w r = some c) : pz_q (pt_OT sc) (w ++ [x]) r = some c := by
  unfold pz_q at h ⊢
  split
  · rename_i hr
    rw [if_pos hr] at h
    rw [List.getElem?_append_left (List.getElem?_eq_some_iff.mp h).1]
    exact h
  · rename_i hr
    rw [if_neg hr] at h
    exact h
/-- a new array -/
theorem wv_R_new {k n : Nat} (H : wv_R fx sc w T N I L R) (hN : N < 1000000000) : T N = none ∧ wv_R fx sc (w ++ [.inl (k, n, [])]) (wv_n T N (.inr (k, n))) (N + 1) (wv_z I N 0) (wv_z L N 0) (wv_z R N none) := by
  obtain ⟨⟨h1, hX⟩, h2, h3⟩ := H
  have hno : ∀ x, pz_q (pt_OT sc) w N = some x → False := by
    intro x hx
    unfold pz_q at hx
    rw [if_pos (by omega)] at hx
    have := (List.getElem?_eq_some_iff.mp hx).1
    omega
  have hTN : T N = none := by
    cases hc : T N with
    | none => rfl
    | some x =>
      cases x with
      | inl c =>
        obtain ⟨fs, h4, -⟩ := h2 N c hc
        exact (hno _ h4).elim
      | inr y =>
        obtain ⟨kd, m⟩ := y
        obtain ⟨z, h4, -⟩ := h3 N kd m hc
        exact (hno _ h4).elim
  have hz : ∀ {α : Type} (f : Nat → Nat → α) (v : α) (b j : Nat), ¬ b = N → wv_z f N v b j = f b j := fun f v b j hb => if_neg hb
  refine ⟨hTN, ⟨by rw [List.length_append, h1]; rfl, ?_⟩, fun r c hr => ?_, fun r kd m hr => ?_⟩
  · intro c b f hf
    obtain ⟨h4, h5⟩ := hX c b f hf
    have hb : ¬ b = N := fun z => by rw [z, hTN] at h4; cases h4
    refine ⟨by unfold wv_n; rw [if_neg hb]; exact h4, fun k1 a ha => ?_⟩
    rw [hz _ _ _ _ hb]
    exact h5 k1 a ha
  · unfold wv_n at hr
    split at hr
    · cases hr
    · rename_i hb
      obtain ⟨fs, h4, h5⟩ := h2 r c hr
      refine ⟨fs, wv_q_app h4, fun j hj => ?_⟩
      rw [hz _ _ _ _ hb, hz _ _ _ _ hb, hz _ _ _ _ hb]
      exact h5 j hj
  · unfold wv_n at hr
    split at hr
    · rename_i hb
      subst hb
      cases hr
      refine ⟨[], ?_, fun i hi => ?_⟩
      · unfold pz_q
        rw [if_pos (by omega), ← h1, List.getElem?_append_right (Nat.le_refl _), Nat.sub_self]
        rfl
      · unfold wv_e wv_z
        rw [if_pos rfl, if_pos rfl, if_pos rfl]
        split
        · rfl
        · split <;> rfl
    · rename_i hb
      obtain ⟨z, h4, h5⟩ := h3 r kd m hr
      refine ⟨z, wv_q_app h4, fun j hj => ?_⟩
      rw [hz _ _ _ _ hb, hz _ _ _ _ hb, hz _ _ _ _ hb]
      exact h5 j hj
/-- a whole array is written -/
theorem wv_R_b {r kd n : Nat} {z z1 : List (Nat × Value)} {I1 : Nat → Nat → Int32} {L1 : Nat → Nat → Int64} (H : wv_R fx sc w T N I L R) (hr : r < 1099511627776) (hT : T r = some (.inr (kd, n))) (hq : pz_q (pt_OT sc) w r = some (.inl (kd, n, z)))
    (hI : ∀ b j, ¬ b = r → I1 b j = I b j ∧ L1 b j = L b j) (hv : ∀ i, i < n → wv_e kd (pz_g z1 i) (I1 r i) (L1 r i) (R r i)) : wv_R fx sc (w.set r (.inl (kd, n, z1))) T N I1 L1 R := by
  obtain ⟨h1, h2, h3⟩ := H
  refine ⟨⟨by rw [List.length_set]; exact h1.1, h1.2⟩, fun b c1 hb => ?_, fun b kd1 n1 hb => ?_⟩
  · rw [wv_q_set hr hq]
    have he : ¬ b = r := fun z => by rw [z, hT] at hb; cases hb
    rw [if_neg he]
    obtain ⟨fs1, h4, h5⟩ := h2 b c1 hb
    refine ⟨fs1, h4, fun j hj => ?_⟩
    obtain ⟨e1, e2⟩ := hI b j he
    rw [e1, e2]
    exact h5 j hj
  · rw [wv_q_set hr hq]
    by_cases he : b = r
    · subst he
      rw [hT] at hb
      cases hb
      exact ⟨z1, by rw [if_pos rfl], hv⟩
    · rw [if_neg he]
      obtain ⟨z2, h4, h5⟩ := h3 b kd1 n1 hb
      refine ⟨z2, h4, fun j hj => ?_⟩
      obtain ⟨e1, e2⟩ := hI b j he
      rw [e1, e2]
      exact h5 j hj
theorem wv_g_cp (za : List (Nat × Value)) (sp dp : Nat) (zb : List (Nat × Value)) : ∀ (n j : Nat), pz_g (pz_cp za sp dp n zb) j = if dp ≤ j ∧ j < dp + n then pz_g za (sp + (j - dp)) else pz_g zb j
  | 0, j => by
    rw [if_neg (by omega)]
    rfl
  | n + 1, j => by
    show pz_g (pz_a (pz_cp za sp dp n zb) (dp + n) (pz_g za (sp + n))) j = _
    rw [pz_ga, wv_g_cp za sp dp zb n j]
    by_cases h : j = dp + n
    · rw [if_pos h, if_pos (by omega)]
      congr 1
      omega
    · rw [if_neg h]
      by_cases h2 : dp ≤ j ∧ j < dp + n
      · rw [if_pos h2, if_pos (by omega)]
      · rw [if_neg h2, if_neg (by omega)]
end WVW
