/-! ===== how long texts of tokens are ===== -/
/-- how long a token is at least, and where it ends at most -/
def pr_g (n p : Nat) (r : Option wt_t × Nat) : Prop := p < r.2 ∧ r.2 ≤ n ∧ ∀ x, r.1 = some x → p + tl x.1 ≤ r.2
theorem tx_lt {t : Nat → Int32} {n q : Nat} (ht : wt_tx t n) (h : ¬ t q = 0) : q < n := by
  by_cases c : q < n
  · exact c
  · exact absurd (ht.1 q (by omega)) h
theorem rd_len {t : Nat → Int32} {n : Nat} (ht : wt_tx t n) : ∀ {w : List Nat} {p : Nat}, p < n → (∀ c, c ∈ w → 0 < c ∧ c < 128) → wt_rd t p w = true → p + w.length ≤ n
  | [], p, hp, _, _ => by
    show p + 0 ≤ n
    omega
  | c :: w, p, hp, hw, h => by
    have h : (decide (t p = Int32.ofNat c) && wt_rd t (p + 1) w) = true := h
    obtain ⟨h1, h2⟩ := (Bool.and_eq_true _ _).mp h
    have h1 := of_decide_eq_true h1
    cases w with
    | nil =>
      show p + 1 ≤ n
      omega
    | cons d w =>
      have h3 : (decide (t (p + 1) = Int32.ofNat d) && wt_rd t (p + 1 + 1) w) = true := h2
      have h4 := of_decide_eq_true ((Bool.and_eq_true _ _).mp h3).1
      have hd := hw d (List.mem_cons_of_mem _ List.mem_cons_self)
      have hp1 : p + 1 < n := tx_lt ht (fun z => by
        rw [h4, wi_eq, wi_on (by omega), wi_0] at z
        omega)
      have := rd_len ht hp1 (fun e he => hw e (List.mem_cons_of_mem _ he)) h2
      simp only [List.length_cons] at this ⊢
      omega
theorem pr_k_tl {x : Int} {k : Int32} (h : pr_k x = some k) : tl k = 1 := by
  unfold pr_k at h
  repeat' split at h
  all_goals first | (cases h; rfl) | cases h
theorem pr_st_g {t : Nat → Int32} {n p : Nat} (ht : wt_tx t n) (hp : p < n) : pr_g n p (pr_st t n p) := by
  have hb : pr_g n p (pr_b n p) := ⟨hp, Nat.le_refl _, fun x hx => by cases hx; exact hp⟩
  have h1 : ∀ k z, tl k ≤ z → p + z ≤ n → pr_g n p (pr_t k p z) := fun k z hk hz => ⟨by have := tl_1 k; show p < p + z; omega, hz, fun x hx => by cases hx; show p + tl k ≤ p + z; omega⟩
  have hr : ∀ w, wt_rd t p w = true → (∀ c, c ∈ w → 0 < c ∧ c < 128) → p + w.length ≤ n := fun w hw hc => rd_len ht hp hc hw
  have c93 : ∀ q, t q = (Int8.ofInt 93).toInt32 → q < n := fun q hq => tx_lt ht (by rw [hq]; decide)
  have hc : ∀ k a, tl k = 1 → pr_g n p (pr_cnt t n k p a) := fun k a hk => by
    unfold pr_cnt
    split
    · rename_i hh
      have := c93 _ hh.2
      refine ⟨by show p < p + (a + 2); omega, by show p + (a + 2) ≤ n; omega, fun x hx => ?_⟩
      cases hx
      show p + tl k ≤ p + (a + 2)
      omega
    · exact hb
  unfold pr_st
  split
  · exact ⟨Nat.lt_succ_self _, hp, fun x hx => by cases hx⟩
  split
  · split
    · rename_i hh
      exact h1 _ _ (by decide) (hr _ hh (by decide))
    · exact h1 _ _ (by decide) hp
  split
  · split
    · rename_i hh
      exact h1 _ _ (by decide) (hr _ hh (by decide))
    · exact hb
  split
  · unfold pr_brk
    split
    · rename_i hh
      exact h1 _ _ (by decide) (hr _ hh (by decide))
    split
    · rename_i hh
      exact h1 _ _ (by decide) (hr _ hh (by decide))
    split
    · split
      · unfold pr_rng
        split
        · rename_i hh
          have := c93 _ hh.2.2
          refine ⟨by show p < p + 7; omega, by show p + 7 ≤ n; omega, fun x hx => ?_⟩
          cases hx
          show p + tl ((Int8.ofInt 22).toInt32) ≤ p + 7
          have e : tl ((Int8.ofInt 22).toInt32) = 1 := rfl
          omega
        · exact hb
      · exact hc _ _ rfl
    split
    · exact hc _ _ rfl
    split
    · exact hc _ _ rfl
    · exact hc _ _ rfl
  split
  · unfold pr_bar
    split
    · rename_i hh
      exact h1 _ _ (by decide) (hr _ hh (by decide))
    split
    · rename_i hh
      exact h1 _ _ (by decide) (hr _ hh (by decide))
    split
    · rename_i hh
      exact h1 _ _ (by decide) (hr _ hh (by decide))
    · exact h1 _ _ (by decide) hp
  split
  · rename_i hk
    exact h1 _ _ (by rw [pr_k_tl hk]; exact Nat.le_refl _) hp
  split
  · rename_i hs
    obtain ⟨x, p2, e1, e2, e3, e4, e5, e6, e7⟩ := pr_word_k ht hs rfl hp
    have hw := wt_wl_1 hs
    unfold pr_word
    split
    · refine ⟨by show p < p + wt_wl t p 400; omega, e4, fun x hx => ?_⟩
      cases hx
      show p + tl (Int32.ofInt 3) ≤ p + wt_wl t p 400
      have e : tl (Int32.ofInt 3) = 1 := rfl
      omega
    split
    · exact hb
    · refine h1 _ _ ?_ e4
      rename_i hn
      unfold pr_wk at hn ⊢
      repeat' split
      all_goals first
        | (rename_i hh; have hh := of_decide_eq_true ((Bool.and_eq_true _ _).mp hh).1; rw [hh]; decide)
        | (exfalso; simp_all)
  · exact hb
theorem wl_cons {x : wt_t} {ts : List wt_t} : ∀ i, wl (x :: ts) (i + 1) = tl x.1 + wl ts i
  | 0 => by
    show wl (x :: ts) 0 + tl x.1 = tl x.1 + wl ts 0
    show 0 + tl x.1 = tl x.1 + 0
    omega
  | i + 1 => by
    have ih := wl_cons (x := x) (ts := ts) i
    show wl (x :: ts) (i + 1) + (match (x :: ts)[i + 1]? with | some y => tl y.1 | none => 0) = tl x.1 + (wl ts i + (match ts[i]? with | some y => tl y.1 | none => 0))
    rw [ih, List.getElem?_cons_succ]
    omega
theorem wl_lex {t : Nat → Int32} {n : Nat} (ht : wt_tx t n) : ∀ f p, p ≤ n → ∀ i, i ≤ (wt_lex (pr_st t n) n f p).length → p + wl (wt_lex (pr_st t n) n f p) i ≤ n + 1 := by
  have last : ∀ p, p ≤ n → ∀ i, i ≤ [((Int32.ofInt 0, n, Int32.ofInt 0, Int32.ofInt 0, 0) : wt_t)].length → p + wl [((Int32.ofInt 0, n, Int32.ofInt 0, Int32.ofInt 0, 0) : wt_t)] i ≤ n + 1 := by
    intro p hp i hi
    cases i with
    | zero =>
      show p + 0 ≤ n + 1
      omega
    | succ i =>
      have hi : i + 1 ≤ 1 := hi
      have : i = 0 := by omega
      subst this
      rw [wl_cons]
      show p + (1 + 0) ≤ n + 1
      omega
  intro f
  induction f with
  | zero => exact fun p hp => last p hp
  | succ f ih =>
    intro p hp i hi
    unfold wt_lex at hi ⊢
    by_cases c : p < n
    · rw [if_pos c] at hi ⊢
      obtain ⟨g1, g2, g3⟩ := pr_st_g ht c
      generalize hst : pr_st t n p = r at hi g1 g2 g3 ⊢
      obtain ⟨x, p2⟩ := r
      cases x with
      | none =>
        have := ih p2 g2 i hi
        have g1 : p < p2 := g1
        show p + wl (wt_lex (pr_st t n) n f p2) i ≤ n + 1
        omega
      | some x =>
        have g3 : p + tl x.1 ≤ p2 := g3 x rfl
        show p + wl (x :: wt_lex (pr_st t n) n f p2) i ≤ n + 1
        cases i with
        | zero =>
          show p + 0 ≤ n + 1
          omega
        | succ i =>
          have hi : i + 1 ≤ (wt_lex (pr_st t n) n f p2).length + 1 := hi
          have := ih p2 g2 i (by omega)
          rw [wl_cons]
          omega
    · rw [if_neg c] at hi ⊢
      exact last p hp i hi
