/-! ===== a design text that was read makes a design ===== -/
section DG
/-- a literal below M -/
def dg_l (M : Nat) (l : Int32) : Prop := ∃ a : Nat, l = Int32.ofNat a ∧ a < M
theorem dg_l_m {M M2 : Nat} {l : Int32} (h : dg_l M l) (hm : M ≤ M2) : dg_l M2 l := by
  obtain ⟨a, e, ha⟩ := h
  exact ⟨a, e, by omega⟩
theorem dg_l_x {m : Nat} {l : Int32} (hm : m ≤ 1000) (h : dg_l (2 * m) l) : dg_l (2 * m) (l ^^^ Int32.ofInt 1) := by
  obtain ⟨a, e, ha⟩ := h
  subst e
  rw [(ds_op_nat a (by omega)).2]
  refine ⟨_, rfl, ?_⟩
  split <;> omega
def dg_b (o : Int32) : Prop := o = Int32.ofInt 0 ∨ o = Int32.ofInt 1
theorem dg_l_b {m : Nat} {l o : Int32} (hm : m ≤ 1000) (h : dg_l (2 * m) l) (ho : dg_b o) : dg_l (2 * m) (l ^^^ o) := by
  rcases ho with e | e
  · rw [e, x_0]
    exact h
  · rw [e]
    exact dg_l_x hm h
theorem dg_b_x {o : Int32} (ho : dg_b o) : dg_b (o ^^^ Int32.ofInt 1) := by
  rcases ho with e | e
  · rw [e]
    exact Or.inr (by decide)
  · rw [e]
    exact Or.inl (by decide)
theorem dg_0 {m : Nat} : dg_l (2 * (m + 1)) (Int32.ofInt 0) := ⟨0, rfl, by omega⟩
theorem dg_1 {m : Nat} : dg_l (2 * (m + 1)) (Int32.ofInt 1) := ⟨1, rfl, by omega⟩
variable {ts : List wt_t} {n A B : Nat} {nm : ds_n}
def dg_g (A B : Nat) (gs : ds_g) : Prop := ∀ j x, gs[j]? = some x → dg_l (2 * (1 + A + B + j)) x.1 ∧ dg_l (2 * (1 + A + B + j)) x.2
def dg_s (A B : Nat) (nm : ds_n) (gs : ds_g) : Prop := A + B ≤ 100 ∧ gs.length ≤ 60 ∧ dg_g A B gs ∧ ∀ y, y ∈ nm → dg_l (2 * (1 + A + B + gs.length)) y.2
theorem dg_s_1 {gs : ds_g} {u v : Int32} (h : dg_s A B nm gs) (hl : gs.length < 60) (hu : dg_l (2 * (1 + A + B + gs.length)) u) (hv : dg_l (2 * (1 + A + B + gs.length)) v) : dg_s A B nm (gs ++ [(u, v)]) := by
  obtain ⟨h0, h1, h2, h3⟩ := h
  have el : (gs ++ [(u, v)]).length = gs.length + 1 := by rw [List.length_append]; rfl
  refine ⟨h0, by rw [el]; omega, fun j x hx => ?_, fun y hy => by rw [el]; exact dg_l_m (h3 y hy) (by omega)⟩
  by_cases hj : j < gs.length
  · rw [List.getElem?_append_left hj] at hx
    exact h2 j x hx
  · have hj2 : j = gs.length := by
      have := (List.getElem?_eq_some_iff.mp hx).1
      rw [el] at this
      omega
    subst hj2
    rw [List.getElem?_append_right (Nat.le_refl _), Nat.sub_self] at hx
    cases hx
    exact ⟨hu, hv⟩
def dg_r (A B : Nat) (nm : ds_n) (gs : ds_g) (r : Int32 × ds_q) : Prop := dg_s A B nm r.2.2 ∧ dg_l (2 * (1 + A + B + r.2.2.length)) r.1 ∧ gs.length ≤ r.2.2.length
def dg_f (A B : Nat) (nm : ds_n) (f : ds_q → Int32 × ds_q) : Prop := ∀ x, dg_s A B nm x.2 → dg_r A B nm x.2 (f x)
theorem dg_rm {k pl : Nat} {x : ds_q} : (ds_rm k pl x).2.2 = x.2 ∧ ((ds_rm k pl x).1 = true → x.2.length + k ≤ 60) := by
  unfold ds_rm
  split
  · exact ⟨rfl, fun w => by cases w⟩
  · split
    · exact ⟨rfl, fun w => by cases w⟩
    · exact ⟨rfl, fun _ => by omega⟩
theorem dg_z {k pl : Nat} {x : ds_q} (h : dg_s A B nm x.2) : dg_r A B nm x.2 (Int32.ofInt 0, (ds_rm k pl x).2) := by
  have e : (ds_rm k pl x).2.2 = x.2 := dg_rm.1
  unfold dg_r
  rw [show ((Int32.ofInt 0, (ds_rm k pl x).2) : Int32 × ds_q).2.2 = x.2 from e]
  exact ⟨h, ⟨0, rfl, by omega⟩, Nat.le_refl _⟩
theorem dg_and {pl : Nat} {u v : Int32} {x : ds_q} (h : dg_s A B nm x.2) (hu : dg_l (2 * (1 + A + B + x.2.length)) u) (hv : dg_l (2 * (1 + A + B + x.2.length)) v) : dg_r A B nm x.2 (ds_and A B pl u v x) := by
  unfold ds_and
  split
  · rename_i c
    have hl := dg_rm.2 c
    have el : (x.2 ++ [(u, v)]).length = x.2.length + 1 := by rw [List.length_append]; rfl
    refine ⟨dg_s_1 h (by omega) hu hv, ⟨_, rfl, ?_⟩, ?_⟩
    · show ds_lt A B x.2.length < 2 * (1 + A + B + (x.2 ++ [(u, v)]).length)
      rw [el]
      unfold ds_lt
      omega
    · show x.2.length ≤ (x.2 ++ [(u, v)]).length
      omega
  · exact dg_z h
theorem dg_or {pl : Nat} {u v : Int32} {x : ds_q} (h : dg_s A B nm x.2) (hu : dg_l (2 * (1 + A + B + x.2.length)) u) (hv : dg_l (2 * (1 + A + B + x.2.length)) v) : dg_r A B nm x.2 (ds_or A B pl u v x) := by
  unfold ds_or
  split
  · rename_i c
    have hl := dg_rm.2 c
    have h0 := h.1
    have el : (x.2 ++ [(u ^^^ Int32.ofInt 1, v ^^^ Int32.ofInt 1)]).length = x.2.length + 1 := by rw [List.length_append]; rfl
    refine ⟨dg_s_1 h (by omega) (dg_l_x (by omega) hu) (dg_l_x (by omega) hv), ⟨ds_lt A B x.2.length + 1, ?_, ?_⟩, ?_⟩
    · show Int32.ofNat (ds_lt A B x.2.length) + Int32.ofInt 1 = _
      exact wq_4s _
    · show ds_lt A B x.2.length + 1 < 2 * (1 + A + B + (x.2 ++ [(u ^^^ Int32.ofInt 1, v ^^^ Int32.ofInt 1)]).length)
      rw [el]
      unfold ds_lt
      omega
    · show x.2.length ≤ (x.2 ++ [(u ^^^ Int32.ofInt 1, v ^^^ Int32.ofInt 1)]).length
      omega
  · exact dg_z h
theorem dg_xor {pl : Nat} {u v : Int32} {x : ds_q} (h : dg_s A B nm x.2) (hu : dg_l (2 * (1 + A + B + x.2.length)) u) (hv : dg_l (2 * (1 + A + B + x.2.length)) v) : dg_r A B nm x.2 (ds_xor A B pl u v x) := by
  unfold ds_xor
  split
  · rename_i c
    have hl := dg_rm.2 c
    have h0 := h.1
    have l1 : (x.2 ++ [(u, v ^^^ Int32.ofInt 1)]).length = x.2.length + 1 := by rw [List.length_append]; rfl
    have s1 := dg_s_1 h (by omega) hu (dg_l_x (by omega) hv)
    have l2 : (x.2 ++ [(u, v ^^^ Int32.ofInt 1)] ++ [(u ^^^ Int32.ofInt 1, v)]).length = x.2.length + 2 := by rw [List.length_append, l1]; rfl
    have s2 := dg_s_1 (u := u ^^^ Int32.ofInt 1) (v := v) s1 (by omega) (dg_l_m (dg_l_x (by omega) hu) (by omega)) (dg_l_m hv (by omega))
    have b1 : dg_l (2 * (1 + A + B + (x.2.length + 2))) (Int32.ofNat (ds_lt A B x.2.length) ^^^ Int32.ofInt 1) := dg_l_x (by omega) ⟨_, rfl, by unfold ds_lt; omega⟩
    have b2 : dg_l (2 * (1 + A + B + (x.2.length + 2))) (Int32.ofNat (ds_lt A B (x.2.length + 1)) ^^^ Int32.ofInt 1) := dg_l_x (by omega) ⟨_, rfl, by unfold ds_lt; omega⟩
    have s3 := dg_s_1 (u := Int32.ofNat (ds_lt A B x.2.length) ^^^ Int32.ofInt 1) (v := Int32.ofNat (ds_lt A B (x.2.length + 1)) ^^^ Int32.ofInt 1) s2 (by omega) (by rw [l2]; exact b1) (by rw [l2]; exact b2)
    have l3 : (x.2 ++ [(u, v ^^^ Int32.ofInt 1)] ++ [(u ^^^ Int32.ofInt 1, v)] ++ [(Int32.ofNat (ds_lt A B x.2.length) ^^^ Int32.ofInt 1, Int32.ofNat (ds_lt A B (x.2.length + 1)) ^^^ Int32.ofInt 1)]).length = x.2.length + 3 := by rw [List.length_append, l2]; rfl
    refine ⟨s3, ⟨ds_lt A B (x.2.length + 2) + 1, ?_, ?_⟩, ?_⟩
    · show Int32.ofNat (ds_lt A B (x.2.length + 2)) + Int32.ofInt 1 = _
      exact wq_4s _
    · show ds_lt A B (x.2.length + 2) + 1 < 2 * (1 + A + B + List.length (x.2 ++ [(u, v ^^^ Int32.ofInt 1)] ++ [(u ^^^ Int32.ofInt 1, v)] ++ [(Int32.ofNat (ds_lt A B x.2.length) ^^^ Int32.ofInt 1, Int32.ofNat (ds_lt A B (x.2.length + 1)) ^^^ Int32.ofInt 1)]))
      rw [l3]
      unfold ds_lt
      omega
    · show x.2.length ≤ List.length (x.2 ++ [(u, v ^^^ Int32.ofInt 1)] ++ [(u ^^^ Int32.ofInt 1, v)] ++ [(Int32.ofNat (ds_lt A B x.2.length) ^^^ Int32.ofInt 1, Int32.ofNat (ds_lt A B (x.2.length + 1)) ^^^ Int32.ofInt 1)])
      rw [l3]
      omega
  · exact dg_z h
theorem dg_not : ∀ f (x : Int32 × wt_q), dg_b x.1 → dg_b (ds_not ts f x).1
  | 0, x, h => h
  | f + 1, x, h => by
    unfold ds_not
    split
    · exact dg_not f _ (dg_b_x h)
    · exact h
theorem dg_nl {s : wt_q} {y : Int32} (h : ds_nl ts nm s = some y) : ∃ z, z ∈ nm ∧ z.2 = y := by
  unfold ds_nl at h
  split at h
  · split at h
    · rename_i i _
      obtain ⟨z, z1, z2⟩ := Option.map_eq_some_iff.mp h
      exact ⟨z, List.mem_of_getElem? z1, z2⟩
    · cases h
  · cases h
theorem dg_Fc {inner : Option (ds_q → Int32 × ds_q)} (hi : ∀ f, inner = some f → dg_f A B nm f) : dg_f A B nm (ds_Fc ts n nm inner) := by
  intro x hx
  have h0 := hx.1
  have h6 := hx.2.1
  unfold ds_Fc
  have h := dg_not (ts := ts) 400 (Int32.ofInt 0, x.1) (Or.inl rfl)
  generalize ds_not ts 400 (Int32.ofInt 0, x.1) = o at h ⊢
  unfold ds_Fb
  generalize hw : (if tk_now ts o.2 = (Int8.ofInt 15).toInt32 then inner else none) = w
  cases w with
  | some g =>
    have hg : inner = some g := by
      split at hw
      · exact hw
      · cases hw
    obtain ⟨g1, g2, g3⟩ := hi g hg (tk_adv ts o.2, x.2) hx
    have q := dg_l_b (m := 1 + A + B + (g (tk_adv ts o.2, x.2)).2.2.length) (by have := g1.2.1; omega) g2 h
    exact ⟨g1, q, g3⟩
  | none =>
    cases hy : ds_nl ts nm o.2 with
    | some y =>
      obtain ⟨z, z1, z2⟩ := dg_nl hy
      have q := dg_l_b (m := 1 + A + B + x.2.length) (by omega) (by rw [← z2]; exact hx.2.2.2 z z1) h (l := y)
      exact ⟨hx, q, Nat.le_refl _⟩
    | none =>
      show dg_r A B nm x.2 (if tk_now ts o.2 = Int32.ofInt 5 then (Int32.ofInt 1 ^^^ o.1, (tk_adv ts o.2, x.2)) else (Int32.ofInt 0 ^^^ o.1, (tk_take ts n (Int32.ofInt 4) o.2, x.2)))
      split
      · have q := dg_l_b (m := 1 + A + B + x.2.length) (l := Int32.ofInt 1) (by omega) ⟨1, rfl, by omega⟩ h
        exact ⟨hx, q, Nat.le_refl _⟩
      · have q := dg_l_b (m := 1 + A + B + x.2.length) (l := Int32.ofInt 0) (by omega) ⟨0, rfl, by omega⟩ h
        exact ⟨hx, q, Nat.le_refl _⟩
theorem dg_r_t {gs : ds_g} {x : ds_q} {r : Int32 × ds_q} (h1 : gs.length ≤ x.2.length) (h : dg_r A B nm x.2 r) : dg_r A B nm gs r := ⟨h.1, h.2.1, by have := h.2.2; omega⟩
theorem dg_PL {fac : ds_q → Int32 × ds_q} (hf : dg_f A B nm fac) : ∀ f l x, dg_s A B nm x.2 → dg_l (2 * (1 + A + B + x.2.length)) l → dg_r A B nm x.2 (ds_PL ts n A B fac f l x)
  | 0, l, x, h, hl => ⟨h, hl, Nat.le_refl _⟩
  | f + 1, l, x, h, hl => by
    unfold ds_PL
    split
    · obtain ⟨g1, g2, g3⟩ := hf (tk_adv ts x.1, x.2) h
      generalize fac (tk_adv ts x.1, x.2) = r at g1 g2 g3 ⊢
      have g3 : x.2.length ≤ r.2.2.length := g3
      have ha := dg_and (pl := tk_place ts n x.1.1) (u := l) (v := r.1) (x := r.2) g1 (dg_l_m hl (by omega)) g2
      generalize ds_and A B (tk_place ts n x.1.1) l r.1 r.2 = y at ha ⊢
      exact dg_r_t (x := y.2) (by have := ha.2.2; omega) (dg_PL hf f y.1 y.2 ha.1 ha.2.1)
    · exact ⟨h, hl, Nat.le_refl _⟩
theorem dg_XL {prt : ds_q → Int32 × ds_q} (hf : dg_f A B nm prt) : ∀ f l x, dg_s A B nm x.2 → dg_l (2 * (1 + A + B + x.2.length)) l → dg_r A B nm x.2 (ds_XL ts n A B prt f l x)
  | 0, l, x, h, hl => ⟨h, hl, Nat.le_refl _⟩
  | f + 1, l, x, h, hl => by
    unfold ds_XL
    split
    · obtain ⟨g1, g2, g3⟩ := hf (tk_adv ts x.1, x.2) h
      generalize prt (tk_adv ts x.1, x.2) = r at g1 g2 g3 ⊢
      have g3 : x.2.length ≤ r.2.2.length := g3
      have ha : dg_r A B nm r.2.2 (ds_XO A B (tk_now ts x.1) (tk_place ts n x.1.1) l r.1 r.2) := by
        unfold ds_XO
        split
        · exact dg_or g1 (dg_l_m hl (by omega)) g2
        · exact dg_xor g1 (dg_l_m hl (by omega)) g2
      generalize ds_XO A B (tk_now ts x.1) (tk_place ts n x.1.1) l r.1 r.2 = y at ha ⊢
      exact dg_r_t (x := y.2) (by have := ha.2.2; omega) (dg_XL hf f y.1 y.2 ha.1 ha.2.1)
    · exact ⟨h, hl, Nat.le_refl _⟩
theorem dg_Ex {fac : ds_q → Int32 × ds_q} (hf : dg_f A B nm fac) : dg_f A B nm (ds_Ex ts n A B (ds_Pt ts n A B fac)) := by
  have h2 : dg_f A B nm (ds_Pt ts n A B fac) := fun x h => by
    obtain ⟨g1, g2, g3⟩ := hf x h
    exact dg_r_t (x := (fac x).2) g3 (dg_PL hf 400 _ _ g1 g2)
  intro x h
  obtain ⟨g1, g2, g3⟩ := h2 x h
  exact dg_r_t (x := (ds_Pt ts n A B fac x).2) g3 (dg_XL h2 400 _ _ g1 g2)
theorem dg_E : ∀ v, dg_f A B nm (ds_E ts n nm A B v)
  | 0 => dg_Ex (dg_Fc (fun f hf => by cases hf))
  | v + 1 => dg_Ex (dg_Fc (fun f hf => by cases hf; exact dg_E v))
end DG
