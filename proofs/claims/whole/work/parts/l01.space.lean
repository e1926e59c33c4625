/-! ===== how long design texts are ===== -/
def dw_g (n p : Nat) (y : Option wt_t × Nat) : Prop := p < y.2 ∧ y.2 ≤ n ∧ ∀ x, y.1 = some x → x.2.1 = p ∧ p + ds_w x.1 ≤ y.2
theorem dw_wl {t : Nat → Int32} {n : Nat} (ht : wt_tx t n) : ∀ r p, p ≤ n → p + wt_wl t p r ≤ n
  | 0, p, hp => hp
  | r + 1, p, hp => by
    unfold wt_wl
    split
    · rename_i h
      have hlt : p < n := by
        refine Nat.lt_of_not_le (fun z => ?_)
        have e := ht.1 p z
        unfold wt_sml at h
        rw [e] at h
        exact absurd h (by decide)
      have := dw_wl ht r (p + 1) hlt
      omega
    · exact hp
theorem dw_wl1 {t : Nat → Int32} {p r : Nat} (h : wt_sml t p = true) : 1 ≤ wt_wl t p (r + 1) := by
  unfold wt_wl
  rw [if_pos h]
  omega
theorem dw_st {t : Nat → Int32} {n p : Nat} (ht : wt_tx t n) (hp : p < n) : dw_g n p (ds_st t n p) := by
  have w1 : ∀ k : Int32, k = Int32.ofInt 1 → ds_w k = 1 := fun k e => by
    rw [e]
    decide
  unfold ds_st
  split
  · exact ⟨Nat.lt_succ_self _, hp, fun x hx => by cases hx⟩
  · split
    · rename_i k hk
      refine ⟨Nat.lt_succ_self _, hp, fun x hx => ?_⟩
      cases hx
      refine ⟨rfl, ?_⟩
      show p + ds_w k ≤ p + 1
      rw [(ds_k_f hk).2.2]
      exact Nat.le_refl _
    · split
      · rename_i hs
        have z1 := dw_wl1 (r := 399) hs
        have z2 := dw_wl ht 400 p (Nat.le_of_lt hp)
        generalize wt_wl t p 400 = z at z1 z2
        unfold ds_word
        split
        · refine ⟨hp, Nat.le_refl _, fun x hx => ?_⟩
          cases hx
          exact ⟨rfl, by show p + ds_w (Int32.ofInt 1) ≤ n; rw [w1 _ rfl]; exact hp⟩
        have one : ∀ k : Int32, ∀ c : Int64, ds_w k ≤ z → dw_g n p (some (k, p, Int32.ofInt 0, Int32.ofInt 0, c), p + z) := fun k c hk => ⟨by show p < p + z; omega, z2, fun x hx => by cases hx; exact ⟨rfl, by show p + ds_w k ≤ p + z; omega⟩⟩
        have big : ∀ (m : Nat) (l : List Nat), (decide (z = m) && wt_rd t p l) = true → z = m := fun m l h => of_decide_eq_true (Bool.and_eq_true _ _ ▸ h).1
        split
        · rename_i h
          have := big _ _ h
          exact one _ _ (by rw [this]; decide)
        split
        · rename_i h
          have := big _ _ h
          exact one _ _ (by rw [this]; decide)
        split
        · rename_i h
          have := big _ _ h
          exact one _ _ (by rw [this]; decide)
        split
        · rename_i h
          have := big _ _ h
          exact one _ _ (by rw [this]; decide)
        split
        · rename_i h
          have := big _ _ h
          exact one _ _ (by rw [this]; decide)
        · exact one _ _ (by have e : ds_w (Int8.ofInt 32).toInt32 = 1 := by decide
                            rw [e]
                            exact z1)
      · refine ⟨hp, Nat.le_refl _, fun x hx => ?_⟩
        cases hx
        exact ⟨rfl, by show p + ds_w (Int32.ofInt 1) ≤ n; rw [w1 _ rfl]; exact hp⟩
/-- how many signs the tokens before a take at least -/
def dw_ln (ts : List wt_t) : Nat → Nat
  | 0 => 0
  | a + 1 => dw_ln ts a + (match ts[a]? with | some x => ds_w x.1 | none => 0)
theorem dw_ln_c {x : wt_t} {l : List wt_t} : ∀ a, dw_ln (x :: l) (a + 1) = ds_w x.1 + dw_ln l a
  | 0 => by
    show 0 + ds_w x.1 = ds_w x.1 + 0
    omega
  | a + 1 => by
    show dw_ln (x :: l) (a + 1) + (match (x :: l)[a + 1]? with | some x => ds_w x.1 | none => 0) = ds_w x.1 + (dw_ln l a + (match l[a]? with | some x => ds_w x.1 | none => 0))
    rw [dw_ln_c a, List.getElem?_cons_succ]
    omega
theorem dw_lex {t : Nat → Int32} {n : Nat} (ht : wt_tx t n) : ∀ f p, p ≤ n → ∀ a x, (wt_lex (ds_st t n) n f p)[a]? = some x → p + dw_ln (wt_lex (ds_st t n) n f p) a ≤ x.2.1 ∧ x.2.1 ≤ n := by
  intro f
  induction f with
  | zero =>
    intro p hp a x hx
    have hx : [((Int32.ofInt 0, n, Int32.ofInt 0, Int32.ofInt 0, 0) : wt_t)][a]? = some x := hx
    cases a with
    | zero =>
      cases hx
      exact ⟨hp, Nat.le_refl _⟩
    | succ a => simp at hx
  | succ f ih =>
    intro p hp a x hx
    unfold wt_lex at hx ⊢
    by_cases c : p < n
    · rw [if_pos c] at hx ⊢
      obtain ⟨g1, g2, g3⟩ := dw_st ht c
      generalize hst : ds_st t n p = y at hx g1 g2 g3 ⊢
      obtain ⟨o, p2⟩ := y
      have g1 : p < p2 := g1
      have g2 : p2 ≤ n := g2
      cases o with
      | none =>
        have hx : (wt_lex (ds_st t n) n f p2)[a]? = some x := hx
        show p + dw_ln (wt_lex (ds_st t n) n f p2) a ≤ x.2.1 ∧ x.2.1 ≤ n
        have := ih p2 g2 a x hx
        omega
      | some w =>
        obtain ⟨w1, w2⟩ := g3 w rfl
        have w2 : p + ds_w w.1 ≤ p2 := w2
        have hx : (w :: wt_lex (ds_st t n) n f p2)[a]? = some x := hx
        show p + dw_ln (w :: wt_lex (ds_st t n) n f p2) a ≤ x.2.1 ∧ x.2.1 ≤ n
        cases a with
        | zero =>
          cases hx
          refine ⟨?_, by omega⟩
          rw [w1]
          exact Nat.le_refl _
        | succ a =>
          rw [List.getElem?_cons_succ] at hx
          have := ih p2 g2 a x hx
          rw [dw_ln_c]
          omega
    · rw [if_neg c] at hx ⊢
      have hx : [((Int32.ofInt 0, n, Int32.ofInt 0, Int32.ofInt 0, 0) : wt_t)][a]? = some x := hx
      cases a with
      | zero =>
        cases hx
        exact ⟨hp, Nat.le_refl _⟩
      | succ a => simp at hx
