/-! ===== nodes below one ===== -/
section PI
variable {S : rn_N} {lo : Nat → Nat}
theorem po_at (hN : po_N S lo) {x : Nat} (hx : x < rn_n S) (hr : nq_row (rn_k S x)) : po_1 S lo x := hN x hx hr
/-- the nodes below one -/
theorem po_in (hi : rn_i S) (hN : po_N S lo) : ∀ x, x < rn_n S → nq_row (rn_k S x) → ∀ y, lo x ≤ y → y ≤ x → nq_row (rn_k S y) ∧ lo x ≤ lo y := by
  intro x
  induction x using Nat.strongRecOn with
  | ind x ih =>
    intro hx hr y h1 h2
    by_cases e : y = x
    · subst e
      exact ⟨hr, Nat.le_refl _⟩
    obtain ⟨p1, p2, p3⟩ := hN x hx hr
    by_cases c60 : rn_k S x = 60
    · have := p2 c60
      omega
    obtain ⟨w1, w2, _⟩ := hi.2.1 x hx hr c60
    obtain ⟨q1, q2, q3, q4⟩ := p3 c60
    by_cases c2 : nq_two (rn_k S x)
    · obtain ⟨r1, r2⟩ := q3 c2
      obtain ⟨w3, w4⟩ := w2 c2
      by_cases c3 : y ≤ nq_l (rn_d S x)
      · have := ih _ q2 (by omega) w1.2 y (by omega) c3
        rw [q1]
        exact this
      · obtain ⟨g1, g2⟩ := ih _ w3 (by omega) w4 y (by omega) (by omega)
        have hl := (hN _ (show nq_l (rn_d S x) < rn_n S by omega) w1.2).1
        exact ⟨g1, by omega⟩
    · have := q4 c2
      have := ih _ q2 (by omega) w1.2 y (by omega) (by omega)
      rw [q1]
      exact this
/-- each but the last is a child of one behind it -/
theorem po_par (hi : rn_i S) (hN : po_N S lo) : ∀ x, x < rn_n S → nq_row (rn_k S x) → ∀ y, lo x ≤ y → y < x → ∃ z, y < z ∧ z ≤ x ∧ ¬ rn_k S z = 60 ∧ (nq_l (rn_d S z) = y ∨ (nq_two (rn_k S z) ∧ nq_r (rn_d S z) = y)) := by
  intro x
  induction x using Nat.strongRecOn with
  | ind x ih =>
    intro hx hr y h1 h2
    obtain ⟨p1, p2, p3⟩ := hN x hx hr
    by_cases c60 : rn_k S x = 60
    · have := p2 c60
      omega
    obtain ⟨w1, w2, _⟩ := hi.2.1 x hx hr c60
    obtain ⟨q1, q2, q3, q4⟩ := p3 c60
    by_cases el : nq_l (rn_d S x) = y
    · exact ⟨x, h2, Nat.le_refl _, c60, Or.inl el⟩
    by_cases c2 : nq_two (rn_k S x)
    · obtain ⟨r1, r2⟩ := q3 c2
      obtain ⟨w3, w4⟩ := w2 c2
      by_cases er : nq_r (rn_d S x) = y
      · exact ⟨x, h2, Nat.le_refl _, c60, Or.inr ⟨c2, er⟩⟩
      by_cases c3 : y ≤ nq_l (rn_d S x)
      · obtain ⟨z, z1, z2, z3⟩ := ih _ q2 (by omega) w1.2 y (by omega) (by omega)
        exact ⟨z, z1, by omega, z3⟩
      · obtain ⟨z, z1, z2, z3⟩ := ih _ w3 (by omega) w4 y (by omega) (by omega)
        exact ⟨z, z1, by omega, z3⟩
    · have := q4 c2
      obtain ⟨z, z1, z2, z3⟩ := ih _ q2 (by omega) w1.2 y (by omega) (by omega)
      exact ⟨z, z1, by omega, z3⟩
theorem po_ch (hi : rn_i S) (hN : po_N S lo) {x y : Nat} (hx : x < rn_n S) (hr : nq_row (rn_k S x)) (h1 : lo x ≤ y) (h2 : y ≤ x) (c60 : ¬ rn_k S y = 60) : (lo x ≤ nq_l (rn_d S y) ∧ nq_l (rn_d S y) < y) ∧ (nq_two (rn_k S y) → lo x ≤ nq_r (rn_d S y) ∧ nq_r (rn_d S y) < y) := by
  obtain ⟨g1, g2⟩ := po_in hi hN x hx hr y h1 h2
  obtain ⟨p1, p2, p3⟩ := hN y (by omega) g1
  obtain ⟨w1, w2, _⟩ := hi.2.1 y (by omega) g1 c60
  obtain ⟨q1, q2, q3, q4⟩ := p3 c60
  have hl := (hN _ (show nq_l (rn_d S y) < rn_n S by omega) w1.2).1
  refine ⟨⟨by omega, q2⟩, fun c2 => ?_⟩
  obtain ⟨r1, r2⟩ := q3 c2
  obtain ⟨w3, w4⟩ := w2 c2
  have hl2 := (hN _ (show nq_r (rn_d S y) < rn_n S by omega) w4).1
  exact ⟨by omega, w3⟩
/-- how many nodes there are below one -/
theorem po_size (hi : rn_i S) (hy : rn_y S) (hw : rw_a S) (hN : po_N S lo) : ∀ x, x < rn_n S → nq_row (rn_k S x) → x + 2 + uc S (lo x) ≤ lo x + 2 * rn_w S x + uc S (x + 1) := by
  intro x
  induction x using Nat.strongRecOn with
  | ind x ih =>
    intro hx hr
    have hr' : nq_row (nq_k (rn_d S x)) := hr
    obtain ⟨p1, p2, p3⟩ := hN x hx hr
    obtain ⟨g1, g2, g3⟩ := hy x hx hr'
    have hw1 := hw x hx hr
    rw [uc_1]
    by_cases c60 : rn_k S x = 60
    · have := p2 c60
      rw [this, g2 c60]
      omega
    obtain ⟨w1, w2, w3, w4, w5⟩ := hi.2.1 x hx hr c60
    obtain ⟨q1, q2, q3, q4⟩ := p3 c60
    have g3 := g3 c60 q2 (fun z => (w2 z).1)
    have iA := ih _ q2 (by omega) w1.2
    have a1 := rn_w_1 hi hy _ (show nq_l (rn_d S x) < rn_n S by omega) w1.2
    unfold rn_we at g3
    have c60' : ¬ nq_k (rn_d S x) = 60 := c60
    rw [if_neg c60'] at g3
    by_cases c2 : nq_two (rn_k S x)
    · obtain ⟨r1, r2⟩ := q3 c2
      obtain ⟨w6, w7⟩ := w2 c2
      have iB := ih _ w6 (by omega) w7
      have hu : uk (rn_k S x) = false := decide_eq_false (by unfold nq_two at c2; omega)
      rw [hu]
      have hs : rn_w S (nq_l (rn_d S x)) + rn_w S (nq_r (rn_d S x)) ≤ rn_w S x := by
        generalize rn_w S (nq_l (rn_d S x)) = a at *
        generalize rn_w S (nq_r (rn_d S x)) = b at *
        have c2 : 23 ≤ nq_k (rn_d S x) ∧ nq_k (rn_d S x) ≤ 26 := c2
        by_cases c26 : nq_k (rn_d S x) = 26
        · rw [if_pos c26] at g3
          have e : (a + 1) * (b + 1) = a * b + a + b + 1 := by
            rw [Nat.add_mul, Nat.mul_add, Nat.one_mul, Nat.mul_one]
            omega
          rw [e] at g3
          generalize a * b = z at *
          omega
        · rw [if_neg c26, if_pos (by omega)] at g3
          omega
      rw [q1]
      rw [r2] at iB
      rw [r1] at iB
      simp only [Bool.false_eq_true, if_false]
      omega
    · have e1 := q4 c2
      have hk : 40 ≤ nq_k (rn_d S x) ∧ nq_k (rn_d S x) ≤ 44 := by
        have hr'' := hr'
        have c2 : ¬ (23 ≤ nq_k (rn_d S x) ∧ nq_k (rn_d S x) ≤ 26) := c2
        unfold nq_row at hr''
        omega
      have hu : uk (rn_k S x) = true := decide_eq_true hk
      rw [hu, if_pos rfl]
      have hs : rn_w S (nq_l (rn_d S x)) ≤ rn_w S x := by
        rw [if_neg (by omega), if_neg (by omega)] at g3
        by_cases c42 : nq_k (rn_d S x) = 42
        · rw [if_pos c42] at g3
          have e2 : 1 * rn_w S (nq_l (rn_d S x)) ≤ ww_mx (nq_b (rn_d S x)) * rn_w S (nq_l (rn_d S x)) := Nat.mul_le_mul_right _ (by unfold ww_mx; split <;> omega)
          rw [Nat.one_mul] at e2
          generalize ww_mx (nq_b (rn_d S x)) * rn_w S (nq_l (rn_d S x)) = z at *
          omega
        by_cases c434 : 43 ≤ nq_k (rn_d S x)
        · have e3 := w4 ⟨c434, hk.2⟩
          obtain ⟨_, y2, _⟩ := hy _ (show nq_l (rn_d S x) < rn_n S by omega) w1.2
          have := rn_w_1 hi hy x hx hr
          rw [y2 e3]
          exact this
        · rw [if_neg c42, if_neg (by omega), if_neg (by omega)] at g3
          omega
      rw [q1]
      rw [e1] at iA
      omega
theorem po_few (hi : rn_i S) (hy : rn_y S) (hw : rw_a S) (hN : po_N S lo) (hu : uC S ≤ 133) {x : Nat} (hx : x < rn_n S) (hr : nq_row (rn_k S x)) (h6 : rn_w S x ≤ 6) : x + 1 ≤ lo x + 144 := by
  have h1 := po_size hi hy hw hN x hx hr
  have h2 : uc S (x + 1) ≤ uC S := by
    have : ∀ d a, uc S a ≤ uc S (a + d) := fun d => by
      induction d with
      | zero => exact fun a => Nat.le_refl _
      | succ d ih => exact fun a => Nat.le_trans (ih a) (Nat.le_add_right _ _)
    have := this (rn_n S - (x + 1)) (x + 1)
    rw [show x + 1 + (rn_n S - (x + 1)) = rn_n S by omega] at this
    exact this
  omega
/-- the roots that are not joined yet, last first -/
def pk (S : rn_N) (a : Nat) : Nat → List Nat
  | 0 => []
  | k + 1 => (a + k) :: (if rn_k S (a + k) = 60 then pk S a k else if 23 ≤ rn_k S (a + k) ∧ rn_k S (a + k) ≤ 26 then (pk S a k).drop 2 else (pk S a k).drop 1)
def po_k (lo : Nat → Nat) (a : Nat) : Nat → List Nat → Prop
  | b, [] => b = a
  | b, y :: l => y + 1 = b ∧ a ≤ lo y ∧ lo y ≤ y ∧ po_k lo a (lo y) l
theorem pk_1 {a k z : Nat} (hz : a + k = z) : pk S a (k + 1) = z :: (if rn_k S z = 60 then pk S a k else if 23 ≤ rn_k S z ∧ rn_k S z ≤ 26 then (pk S a k).drop 2 else (pk S a k).drop 1) := by
  subst hz
  rfl
theorem pk_step (hi : rn_i S) (hN : po_N S lo) {x : Nat} (hx : x < rn_n S) (hr : nq_row (rn_k S x)) {k z : Nat} (hz : lo x + k = z) (hzx : z ≤ x) (h : po_k lo (lo x) z (pk S (lo x) k)) : po_k lo (lo x) (z + 1) (pk S (lo x) (k + 1)) ∧ (¬ rn_k S z = 60 → (23 ≤ rn_k S z ∧ rn_k S z ≤ 26 → ∃ l, pk S (lo x) k = nq_r (rn_d S z) :: nq_l (rn_d S z) :: l) ∧ (¬ (23 ≤ rn_k S z ∧ rn_k S z ≤ 26) → ∃ l, pk S (lo x) k = nq_l (rn_d S z) :: l)) := by
  obtain ⟨g1, g2⟩ := po_in hi hN x hx hr z (by omega) hzx
  obtain ⟨p1, p2, p3⟩ := hN z (by omega) g1
  rw [pk_1 hz]
  by_cases c60 : rn_k S z = 60
  · rw [if_pos c60]
    exact ⟨⟨rfl, g2, p1, by rw [p2 c60]; exact h⟩, fun w => (w c60).elim⟩
  rw [if_neg c60]
  obtain ⟨w1, w2, _⟩ := hi.2.1 z (by omega) g1 c60
  obtain ⟨q1, q2, q3, q4⟩ := p3 c60
  have hl := (hN _ (show nq_l (rn_d S z) < rn_n S by omega) w1.2).1
  by_cases c2 : 23 ≤ rn_k S z ∧ rn_k S z ≤ 26
  · rw [if_pos c2]
    obtain ⟨r1, r2⟩ := q3 c2
    generalize pk S (lo x) k = L at h ⊢
    cases L with
    | nil =>
      have h : z = lo x := h
      omega
    | cons y L =>
      obtain ⟨e1, e2, e3, e4⟩ := h
      have ey : y = nq_r (rn_d S z) := by omega
      subst ey
      cases L with
      | nil =>
        have e4 : lo (nq_r (rn_d S z)) = lo x := e4
        omega
      | cons y L =>
        obtain ⟨f1, f2, f3, f4⟩ := e4
        have ey : y = nq_l (rn_d S z) := by omega
        subst ey
        exact ⟨⟨rfl, g2, p1, by rw [q1]; exact f4⟩, fun _ => ⟨fun _ => ⟨L, rfl⟩, fun w => (w c2).elim⟩⟩
  · rw [if_neg c2]
    have r1 := q4 c2
    generalize pk S (lo x) k = L at h ⊢
    cases L with
    | nil =>
      have h : z = lo x := h
      omega
    | cons y L =>
      obtain ⟨e1, e2, e3, e4⟩ := h
      have ey : y = nq_l (rn_d S z) := by omega
      subst ey
      exact ⟨⟨rfl, g2, p1, by rw [q1]; exact e4⟩, fun _ => ⟨fun w => (c2 w).elim, fun _ => ⟨L, rfl⟩⟩⟩
theorem pk_ok (hi : rn_i S) (hN : po_N S lo) {x : Nat} (hx : x < rn_n S) (hr : nq_row (rn_k S x)) : ∀ k, lo x + k ≤ x + 1 → po_k lo (lo x) (lo x + k) (pk S (lo x) k)
  | 0, _ => rfl
  | k + 1, h => (pk_step hi hN hx hr rfl (by omega) (pk_ok hi hN hx hr k (by omega))).1
theorem pk_end (hi : rn_i S) (hN : po_N S lo) {x k : Nat} (hx : x < rn_n S) (hr : nq_row (rn_k S x)) (hk : lo x + k = x) : pk S (lo x) (k + 1) = [x] := by
  have h := pk_ok hi hN hx hr (k + 1) (by omega)
  rw [show lo x + (k + 1) = x + 1 by omega] at h
  rw [pk_1 hk] at h ⊢
  obtain ⟨_, _, _, h⟩ := h
  generalize (if rn_k S x = 60 then pk S (lo x) k else if 23 ≤ rn_k S x ∧ rn_k S x ≤ 26 then (pk S (lo x) k).drop 2 else (pk S (lo x) k).drop 1) = L at h ⊢
  cases L with
  | nil => rfl
  | cons y L =>
    obtain ⟨a, b, c, d⟩ := h
    omega
/-- places of roots that are not joined -/
def ps (U : Nat → np_A) : List Nat → Nat
  | [] => 0
  | y :: l => np_n (U y) + ps U l
theorem np_n_op {x : nq_N} {c ca : Nat → Bool} {U V : np_A} (hr : nq_row (nq_k x)) (h4 : 43 ≤ nq_k x ∧ nq_k x ≤ 44 → np_n U = 1) : (nq_k x = 60 → np_n (np_op x c ca U V) = 1) ∧ (23 ≤ nq_k x ∧ nq_k x ≤ 26 → np_n U + np_n V ≤ np_n (np_op x c ca U V)) ∧ (40 ≤ nq_k x ∧ nq_k x ≤ 44 → np_n U ≤ np_n (np_op x c ca U V)) := by
  unfold np_op
  by_cases c60 : nq_k x = 60
  · rw [if_pos c60]
    exact ⟨fun _ => rfl, fun z => by omega, fun z => by omega⟩
  rw [if_neg c60]
  by_cases c23 : nq_k x = 23
  · rw [if_pos c23]
    exact ⟨fun z => (c60 z).elim, fun z => Nat.le_refl _, fun z => by omega⟩
  rw [if_neg c23]
  by_cases c24 : nq_k x = 24
  · rw [if_pos c24]
    exact ⟨fun z => (c60 z).elim, fun z => Nat.le_add_right _ _, fun z => by omega⟩
  rw [if_neg c24]
  by_cases c25 : nq_k x = 25
  · rw [if_pos c25]
    exact ⟨fun z => (c60 z).elim, fun z => Nat.le_refl _, fun z => by omega⟩
  rw [if_neg c25]
  by_cases c26 : nq_k x = 26
  · rw [if_pos c26]
    exact ⟨fun z => (c60 z).elim, fun z => Nat.le_add_right _ _, fun z => by omega⟩
  rw [if_neg c26]
  by_cases c40 : nq_k x = 40
  · rw [if_pos c40]
    exact ⟨fun z => (c60 z).elim, fun z => by omega, fun z => Nat.le_refl _⟩
  rw [if_neg c40]
  by_cases c41 : nq_k x = 41
  · rw [if_pos c41]
    exact ⟨fun z => (c60 z).elim, fun z => by omega, fun z => Nat.le_refl _⟩
  rw [if_neg c41]
  by_cases c42 : nq_k x = 42
  · rw [if_pos c42]
    refine ⟨fun z => (c60 z).elim, fun z => by omega, fun z => ?_⟩
    unfold np_times
    split
    · exact Nat.le_refl _
    · show np_n U ≤ np_n U * nq_b x
      have e : np_n U * 1 ≤ np_n U * nq_b x := Nat.mul_le_mul_left _ (by omega)
      rw [Nat.mul_one] at e
      exact e
  rw [if_neg c42]
  unfold nq_row at hr
  refine ⟨fun z => (c60 z).elim, fun z => by omega, fun z => ?_⟩
  rw [h4 (by omega)]
  exact Nat.le_add_right _ _
theorem ps_step (hi : rn_i S) (hN : po_N S lo) {U : Nat → np_A} (hU : np_sol (rn_d S) (rn_h S) (rn_n S) U) {x : Nat} (hx : x < rn_n S) (hr : nq_row (rn_k S x)) {k : Nat} (hk : lo x + k ≤ x) : ps U (pk S (lo x) k) ≤ ps U (pk S (lo x) (k + 1)) := by
  obtain ⟨z, hz⟩ : ∃ z, lo x + k = z := ⟨_, rfl⟩
  have h := pk_ok hi hN hx hr k (by omega)
  rw [hz] at h
  obtain ⟨_, h2⟩ := pk_step hi hN hx hr hz (by omega) h
  obtain ⟨g1, g2⟩ := po_in hi hN x hx hr z (by omega) (by omega)
  rw [pk_1 hz]
  by_cases c60 : rn_k S z = 60
  · rw [if_pos c60]
    exact Nat.le_add_left _ _
  rw [if_neg c60]
  obtain ⟨h3, h4⟩ := h2 c60
  obtain ⟨w1, w2, w3, w4, w5⟩ := hi.2.1 z (by omega) g1 c60
  have hop := np_n_op (c := rn_h S z) (ca := rn_h S (nq_l (rn_d S z))) (V := U (nq_r (rn_d S z))) (U := U (nq_l (rn_d S z))) g1 (fun e => by
    rw [hU (nq_l (rn_d S z)) (by omega) w1.2]
    exact (np_n_op w1.2 (fun e2 => by have := w4 e; omega)).1 (w4 e))
  rw [← hU z (by omega) g1] at hop
  by_cases c2 : 23 ≤ rn_k S z ∧ rn_k S z ≤ 26
  · rw [if_pos c2]
    obtain ⟨l, e⟩ := h3 c2
    rw [e]
    have := hop.2.1 c2
    show np_n _ + (np_n _ + ps U l) ≤ np_n _ + ps U l
    omega
  · rw [if_neg c2]
    obtain ⟨l, e⟩ := h4 c2
    rw [e]
    have := hop.2.2 (by
      have g1 := g1
      have c60 : ¬ nq_k (rn_d S z) = 60 := c60
      have c2 : ¬ (23 ≤ nq_k (rn_d S z) ∧ nq_k (rn_d S z) ≤ 26) := c2
      have g1 : nq_row (nq_k (rn_d S z)) := g1
      unfold nq_row at g1
      omega)
    show np_n _ + ps U l ≤ np_n _ + ps U l
    omega
theorem ps_le (hi : rn_i S) (hN : po_N S lo) {U : Nat → np_A} (hU : np_sol (rn_d S) (rn_h S) (rn_n S) U) {x : Nat} (hx : x < rn_n S) (hr : nq_row (rn_k S x)) {k : Nat} (hk : lo x + k ≤ x + 1) : ps U (pk S (lo x) k) ≤ np_n (U x) := by
  have hp := (hN x hx hr).1
  have : ∀ d j, lo x + j + d = x + 1 → ps U (pk S (lo x) j) ≤ np_n (U x) := by
    intro d
    induction d with
    | zero =>
      intro j hj
      cases j with
      | zero => omega
      | succ j =>
        rw [pk_end hi hN hx hr (show lo x + j = x by omega)]
        show np_n (U x) + 0 ≤ np_n (U x)
        omega
    | succ d ih =>
      intro j hj
      exact Nat.le_trans (ps_step hi hN hU hx hr (by omega)) (ih (j + 1) (by omega))
  exact this (x + 1 - (lo x + k)) k (by omega)
end PI
