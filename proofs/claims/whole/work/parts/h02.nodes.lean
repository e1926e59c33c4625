/-! ===== nodes made, and joined ===== -/
def rn_u {α : Type} (f : Nat → α) (k : Nat) (v : α) : Nat → α := fun j => if j = k then v else f j
theorem rn_u_at {α : Type} (f : Nat → α) (k : Nat) (v : α) : rn_u f k v k = v := if_pos rfl
theorem rn_u_no {α : Type} (f : Nat → α) {k j : Nat} (v : α) (h : ¬ j = k) : rn_u f k v j = f j := if_neg h
/-- nodes made: what each is, its weight, its condition, what is woven of it; how many -/
abbrev rn_N : Type := (Nat → nq_N) × (Nat → Nat) × (Nat → Nat → Bool) × (Nat → nt_A) × Nat
def rn_d (S : rn_N) : Nat → nq_N := S.1
def rn_w (S : rn_N) : Nat → Nat := S.2.1
def rn_h (S : rn_N) : Nat → Nat → Bool := S.2.2.1
def rn_t (S : rn_N) : Nat → nt_A := S.2.2.2.1
def rn_n (S : rn_N) : Nat := S.2.2.2.2
def rn_k (S : rn_N) (x : Nat) : Nat := nq_k (rn_d S x)
def rn_0 : rn_N := (fun _ => (0, 0, 0, 0, 0), fun _ => 0, fun _ _ => false, fun _ => nt_cond (fun _ => false), 0)
def rn_mk (S : rn_N) (x : nq_N) (w : Nat) (h : Nat → Bool) : rn_N := (rn_u (rn_d S) (rn_n S) x, rn_u (rn_w S) (rn_n S) w, rn_u (rn_h S) (rn_n S) h, rn_u (rn_t S) (rn_n S) (nt_op x h (rn_h S (nq_l x)) (rn_t S (nq_l x)) (rn_t S (nq_r x))), rn_n S + 1)
theorem rn_mk_n {S : rn_N} {x : nq_N} {w : Nat} {h : Nat → Bool} : rn_n (rn_mk S x w h) = rn_n S + 1 := rfl
theorem rn_mk_d {S : rn_N} {x : nq_N} {w : Nat} {h : Nat → Bool} {j : Nat} (hj : j < rn_n S) : rn_d (rn_mk S x w h) j = rn_d S j ∧ rn_w (rn_mk S x w h) j = rn_w S j ∧ rn_h (rn_mk S x w h) j = rn_h S j ∧ rn_t (rn_mk S x w h) j = rn_t S j :=
  ⟨rn_u_no _ _ (by omega), rn_u_no _ _ (by omega), rn_u_no _ _ (by omega), rn_u_no _ _ (by omega)⟩
theorem rn_mk_a {S : rn_N} {x : nq_N} {w : Nat} {h : Nat → Bool} : rn_d (rn_mk S x w h) (rn_n S) = x ∧ rn_w (rn_mk S x w h) (rn_n S) = w ∧ rn_h (rn_mk S x w h) (rn_n S) = h ∧ rn_t (rn_mk S x w h) (rn_n S) = nt_op x h (rn_h S (nq_l x)) (rn_t S (nq_l x)) (rn_t S (nq_r x)) :=
  ⟨rn_u_at _ _ _, rn_u_at _ _ _, rn_u_at _ _ _, rn_u_at _ _ _⟩
theorem nt_op_c {x : nq_N} {c ca ca2 : Nat → Bool} {A A2 B B2 : nt_A} (hr : nq_row (nq_k x)) (h1 : ¬ nq_k x = 60 → ca = ca2 ∧ A = A2) (h2 : nq_two (nq_k x) → B = B2) : nt_op x c ca A B = nt_op x c ca2 A2 B2 := by
  by_cases e : nq_k x = 60
  · unfold nt_op
    rw [if_pos e, if_pos e]
  · obtain ⟨rfl, rfl⟩ := h1 e
    by_cases t : nq_two (nq_k x)
    · rw [h2 t]
    · unfold nq_two at t
      unfold nt_op
      rw [if_neg e, if_neg (show ¬ nq_k x = 23 by omega), if_neg (show ¬ nq_k x = 24 by omega), if_neg (show ¬ nq_k x = 25 by omega), if_neg (show ¬ nq_k x = 26 by omega), if_neg e, if_neg (show ¬ nq_k x = 23 by omega), if_neg (show ¬ nq_k x = 24 by omega), if_neg (show ¬ nq_k x = 25 by omega), if_neg (show ¬ nq_k x = 26 by omega)]
/-- what may be made of nodes -/
def rn_f (S : rn_N) (x : nq_N) : Prop := nq_row (nq_k x) → ¬ nq_k x = 60 → (nq_l x < rn_n S ∧ nq_row (rn_k S (nq_l x))) ∧ (nq_two (nq_k x) → nq_r x < rn_n S ∧ nq_row (rn_k S (nq_r x))) ∧ (nq_k x = 42 → nq_a x ≤ nq_b x) ∧ (43 ≤ nq_k x ∧ nq_k x ≤ 44 → rn_k S (nq_l x) = 60) ∧ (nq_k x = 43 → 0 < nq_a x)
def rn_i (S : rn_N) : Prop := nt_sol (rn_d S) (rn_h S) (rn_n S) (rn_t S) ∧ nq_wf (rn_d S) (rn_n S) ∧ ∀ x, x < rn_n S → rn_w S x ≤ 1000
theorem rn_i_0 : rn_i rn_0 := ⟨fun n hn => absurd hn (Nat.not_lt_zero _), fun n hn => absurd hn (Nat.not_lt_zero _), fun n hn => absurd hn (Nat.not_lt_zero _)⟩
theorem rn_mk_i {S : rn_N} {x : nq_N} {w : Nat} {h : Nat → Bool} (hS : rn_i S) (hw : w ≤ 1000) (hx : rn_f S x) : rn_i (rn_mk S x w h) := by
  obtain ⟨s1, s2, s3⟩ := hS
  refine ⟨fun m hm hr => ?_, fun m hm hr h6 => ?_, fun m hm => ?_⟩
  · have hm : m < rn_n S + 1 := hm
    by_cases e : m = rn_n S
    · subst e
      obtain ⟨a1, a2, a3, a4⟩ := rn_mk_a (S := S) (x := x) (w := w) (h := h)
      rw [a1] at hr ⊢
      rw [a3, a4]
      refine nt_op_c hr (fun z => ?_) (fun z => ?_)
      · obtain ⟨⟨l1, _⟩, _⟩ := hx hr z
        obtain ⟨_, _, b3, b4⟩ := rn_mk_d (S := S) (x := x) (w := w) (h := h) l1
        exact ⟨b3.symm, b4.symm⟩
      · have z6 : ¬ nq_k x = 60 := by
          unfold nq_two at z
          omega
        obtain ⟨_, l2, _⟩ := hx hr z6
        exact (rn_mk_d (S := S) (x := x) (w := w) (h := h) (l2 z).1).2.2.2.symm
    · have hm2 : m < rn_n S := by omega
      obtain ⟨a1, a2, a3, a4⟩ := rn_mk_d (S := S) (x := x) (w := w) (h := h) hm2
      rw [a1] at hr ⊢
      rw [a3, a4, s1 m hm2 hr]
      refine nt_op_c hr (fun z => ?_) (fun z => ?_)
      · obtain ⟨⟨l1, _⟩, _⟩ := s2 m hm2 hr z
        obtain ⟨_, _, b3, b4⟩ := rn_mk_d (S := S) (x := x) (w := w) (h := h) (Nat.lt_trans l1 hm2)
        exact ⟨b3.symm, b4.symm⟩
      · have z6 : ¬ nq_k (rn_d S m) = 60 := by
          unfold nq_two at z
          omega
        obtain ⟨_, l2, _⟩ := s2 m hm2 hr z6
        exact (rn_mk_d (S := S) (x := x) (w := w) (h := h) (Nat.lt_trans (l2 z).1 hm2)).2.2.2.symm
  · have hm : m < rn_n S + 1 := hm
    by_cases e : m = rn_n S
    · subst e
      obtain ⟨a1, a2, a3, a4⟩ := rn_mk_a (S := S) (x := x) (w := w) (h := h)
      rw [a1] at hr h6 ⊢
      obtain ⟨⟨l1, l2⟩, l3, l4, l5, l6⟩ := hx hr h6
      refine ⟨⟨l1, ?_⟩, fun z => ⟨(l3 z).1, ?_⟩, l4, fun z => ?_, l6⟩
      · rw [(rn_mk_d l1).1]; exact l2
      · rw [(rn_mk_d (l3 z).1).1]; exact (l3 z).2
      · rw [(rn_mk_d l1).1]; exact l5 z
    · have hm2 : m < rn_n S := by omega
      rw [(rn_mk_d (S := S) (x := x) (w := w) (h := h) hm2).1] at hr h6 ⊢
      obtain ⟨⟨l1, l2⟩, l3, l4, l5, l6⟩ := s2 m hm2 hr h6
      refine ⟨⟨l1, ?_⟩, fun z => ⟨(l3 z).1, ?_⟩, l4, fun z => ?_, l6⟩
      · rw [(rn_mk_d (Nat.lt_trans l1 hm2)).1]; exact l2
      · rw [(rn_mk_d (Nat.lt_trans (l3 z).1 hm2)).1]; exact (l3 z).2
      · rw [(rn_mk_d (Nat.lt_trans l1 hm2)).1]; exact l5 z
  · have hm : m < rn_n S + 1 := hm
    by_cases e : m = rn_n S
    · subst e
      rw [rn_mk_a.2.1]
      exact hw
    · rw [(rn_mk_d (show m < rn_n S by omega)).2.1]
      exact s3 m (by omega)
/-- a piece of the weaver -/
def rn_p (S : rn_N) (x : Nat) : Nat × nt_A := (rn_w S x, rn_t S x)
theorem rn_mk_p {S : rn_N} {x : nq_N} {w : Nat} {h : Nat → Bool} {j : Nat} (hj : j < rn_n S) : rn_p (rn_mk S x w h) j = rn_p S j := by
  obtain ⟨_, a2, _, a4⟩ := rn_mk_d (S := S) (x := x) (w := w) (h := h) hj
  unfold rn_p
  rw [a2, a4]
/-- operands of a sequence -/
def rn_x (S : rn_N) (xs : List Nat) : Prop := ∀ y, y ∈ xs → y < rn_n S ∧ nq_row (rn_k S y)
theorem rn_mk_map {S : rn_N} {x : nq_N} {w : Nat} {h : Nat → Bool} {xs : List Nat} (hx : rn_x S xs) : xs.map (rn_p (rn_mk S x w h)) = xs.map (rn_p S) := List.map_congr_left (fun y hy => rn_mk_p (hx y hy).1)
theorem rn_mk_x {S : rn_N} {x : nq_N} {w : Nat} {h : Nat → Bool} {xs : List Nat} (hx : rn_x S xs) : rn_x (rn_mk S x w h) xs := fun y hy => by
  obtain ⟨a, b⟩ := hx y hy
  refine ⟨Nat.lt_succ_of_lt a, ?_⟩
  unfold rn_k at b ⊢
  rw [(rn_mk_d a).1]
  exact b
theorem rn_mk_k {S : rn_N} {x : nq_N} {w : Nat} {h : Nat → Bool} : rn_k (rn_mk S x w h) (rn_n S) = nq_k x := by
  unfold rn_k
  rw [rn_mk_a.1]
theorem rn_mk_x1 {S : rn_N} {x : nq_N} {w : Nat} {h : Nat → Bool} {xs : List Nat} (hx : rn_x S xs) (hk : nq_row (nq_k x)) : rn_x (rn_mk S x w h) (rn_n S :: xs) := fun y hy => by
  rcases List.mem_cons.mp hy with e | e
  · rw [e]
    exact ⟨Nat.lt_succ_self _, by rw [rn_mk_k]; exact hk⟩
  · exact rn_mk_x hx y e
theorem rn_x_t {S : rn_N} {y : Nat} {xs : List Nat} (h : rn_x S (y :: xs)) : rn_x S xs := fun z hz => h z (List.mem_cons_of_mem _ hz)
/-- two joined -/
def rj_w (r wx wy : Nat) : Nat := min (if r = 4 then (wx + 1) * (wy + 1) else wx + wy) 1000
def rj_1 (S : rn_N) (r y x : Nat) : rn_N := rn_mk S (22 + r, x, y, 0, 0) (rj_w r (rn_w S x) (rn_w S y)) (fun _ => false)
def rj (rank : Nat) : List Nat → rn_N → List Nat → List Nat × rn_N × List Nat
  | r :: js, S, y :: x :: l => if 1 ≤ r ∧ rank ≤ r then rj rank js (rj_1 S r y x) (rn_n S :: l) else (r :: js, S, y :: x :: l)
  | [], S, l => ([], S, l)
  | js, S, [] => (js, S, [])
  | js, S, [y] => (js, S, [y])
theorem rj_at {rank r y x : Nat} {js l : List Nat} {S : rn_N} (h : 1 ≤ r ∧ rank ≤ r) : rj rank (r :: js) S (y :: x :: l) = rj rank js (rj_1 S r y x) (rn_n S :: l) := by
  show (if 1 ≤ r ∧ rank ≤ r then rj rank js (rj_1 S r y x) (rn_n S :: l) else (r :: js, S, y :: x :: l)) = _
  exact if_pos h
theorem rj_no {rank r : Nat} {js l : List Nat} {S : rn_N} (h : ¬ (1 ≤ r ∧ rank ≤ r)) : rj rank (r :: js) S l = (r :: js, S, l) := by
  match l with
  | [] => rfl
  | [y] => rfl
  | y :: x :: l =>
    show (if 1 ≤ r ∧ rank ≤ r then rj rank js (rj_1 S r y x) (rn_n S :: l) else (r :: js, S, y :: x :: l)) = _
    exact if_neg h
theorem rj_1_p {S : rn_N} {r y x : Nat} (h1 : 1 ≤ r) (h4 : r ≤ 4) : rn_p (rj_1 S r y x) (rn_n S) = jr_op r (rn_p S y) (rn_p S x) := by
  obtain ⟨a1, a2, a3, a4⟩ := rn_mk_a (S := S) (x := (22 + r, x, y, 0, 0)) (w := rj_w r (rn_w S x) (rn_w S y)) (h := fun _ => false)
  show (rn_w (rj_1 S r y x) (rn_n S), rn_t (rj_1 S r y x) (rn_n S)) = _
  unfold rj_1
  rw [a2, a4]
  have hr : r = 1 ∨ r = 2 ∨ r = 3 ∨ r = 4 := by omega
  have ec : rn_w S x + rn_w S y = rn_w S y + rn_w S x := Nat.add_comm _ _
  have ed : (rn_w S x + 1) * (rn_w S y + 1) = (rn_w S y + 1) * (rn_w S x + 1) := Nat.mul_comm _ _
  rcases hr with rfl | rfl | rfl | rfl
  · show (min (rn_w S x + rn_w S y) 1000, nt_chain (rn_t S x) (rn_t S y)) = (min (rn_w S y + rn_w S x) 1000, nt_chain (rn_t S x) (rn_t S y))
    rw [ec]
  · show (min (rn_w S x + rn_w S y) 1000, nt_fuse (rn_t S x) (rn_t S y)) = (min (rn_w S y + rn_w S x) 1000, nt_fuse (rn_t S x) (rn_t S y))
    rw [ec]
  · show (min (rn_w S x + rn_w S y) 1000, nt_or (rn_t S x) (rn_t S y)) = (min (rn_w S y + rn_w S x) 1000, nt_or (rn_t S x) (rn_t S y))
    rw [ec]
  · show (min ((rn_w S x + 1) * (rn_w S y + 1)) 1000, nt_and (rn_t S x) (rn_t S y)) = (min ((rn_w S y + 1) * (rn_w S x + 1)) 1000, nt_and (rn_t S x) (rn_t S y))
    rw [ed]
/-- what joining keeps -/
theorem rj_ok {rank : Nat} (hk : 1 ≤ rank) : ∀ {js xs : List Nat} {S : rn_N}, rn_i S → rn_x S xs → (∀ r, r ∈ js → r ≤ 4) → xs.length = pj_n js + 1 →
    rn_i (rj rank js S xs).2.1 ∧ rn_x (rj rank js S xs).2.1 (rj rank js S xs).2.2 ∧ (∀ r, r ∈ (rj rank js S xs).1 → r ≤ 4) ∧ (rj rank js S xs).2.2.length = pj_n (rj rank js S xs).1 + 1 ∧ rn_n (rj rank js S xs).2.1 + (rj rank js S xs).1.length = rn_n S + js.length ∧ (rj rank js S xs).2.2.length + rn_n S ≤ xs.length + rn_n (rj rank js S xs).2.1 ∧ rn_n S ≤ rn_n (rj rank js S xs).2.1 ∧ (∀ z, z < rn_n S → rn_p (rj rank js S xs).2.1 z = rn_p S z ∧ rn_d (rj rank js S xs).2.1 z = rn_d S z ∧ rn_h (rj rank js S xs).2.1 z = rn_h S z) ∧ jr rank js (xs.map (rn_p S)) = ((rj rank js S xs).1, (rj rank js S xs).2.2.map (rn_p (rj rank js S xs).2.1)) ∧ (∀ r l, (rj rank js S xs).1 = r :: l → r = 0 ∨ r < rank)
  | [], xs, S, hS, hx, hj, hl => by
    match xs, hl with
    | [y], _ => exact ⟨hS, hx, hj, rfl, rfl, Nat.le_refl _, Nat.le_refl _, fun z _ => ⟨rfl, rfl, rfl⟩, rfl, fun r l e => by cases e⟩
  | r :: js, xs, S, hS, hx, hj, hl => by
    by_cases c : 1 ≤ r ∧ rank ≤ r
    · have e1 : pj_n (r :: js) = 1 + pj_n js := by
        show (if r = 0 then 0 else 1) + pj_n js = _
        rw [if_neg (by omega)]
      match xs, hl with
      | [], hl => exact absurd hl (by simp)
      | [y], hl => exact absurd hl (by rw [e1]; simp only [List.length_cons, List.length_nil]; omega)
      | y :: x :: l, hl =>
        have hl : l.length + 2 = pj_n (r :: js) + 1 := hl
        have h4 := hj r List.mem_cons_self
        have hy := hx y List.mem_cons_self
        have hxx := hx x (List.mem_cons_of_mem _ List.mem_cons_self)
        have hS1 : rn_i (rj_1 S r y x) := by
          refine rn_mk_i hS (Nat.min_le_right _ _) (fun _ _ => ⟨⟨hxx.1, hxx.2⟩, fun _ => hy, fun z => ?_, fun z => ?_, fun z => ?_⟩)
          · have z : 22 + r = 42 := z
            omega
          · have z : 43 ≤ 22 + r ∧ 22 + r ≤ 44 := z
            omega
          · have z : 22 + r = 43 := z
            omega
        have hx1 : rn_x (rj_1 S r y x) (rn_n S :: l) := rn_mk_x1 (rn_x_t (rn_x_t hx)) (Or.inr (Or.inl ⟨(by show 23 ≤ 22 + r; omega), (by show 22 + r ≤ 26; omega)⟩))
        obtain ⟨a1, a2, a3, a4, a5, a6, a7, a8, a9, a10⟩ := rj_ok (rank := rank) hk (js := js) (xs := rn_n S :: l) hS1 hx1 (fun q hq => hj q (List.mem_cons_of_mem _ hq)) (by simp only [List.length_cons]; omega)
        rw [rj_at c]
        have en : rn_n (rj_1 S r y x) = rn_n S + 1 := rfl
        refine ⟨a1, a2, a3, a4, ?_, ?_, by omega, fun z hz => ?_, ?_, a10⟩
        · rw [a5, en]
          simp only [List.length_cons]
          omega
        · simp only [List.length_cons] at a6 ⊢
          omega
        · obtain ⟨b1, b2, b3⟩ := a8 z (by omega)
          obtain ⟨c1, _, c3, _⟩ := rn_mk_d (S := S) (x := (22 + r, x, y, 0, 0)) (w := rj_w r (rn_w S x) (rn_w S y)) (h := fun _ => false) hz
          exact ⟨b1.trans (rn_mk_p hz), b2.trans c1, b3.trans c3⟩
        · rw [← a9]
          show jr rank (r :: js) (rn_p S y :: rn_p S x :: l.map (rn_p S)) = jr rank js (rn_p (rj_1 S r y x) (rn_n S) :: l.map (rn_p (rj_1 S r y x)))
          rw [jr_at c.2, rj_1_p c.1 h4]
          unfold rj_1
          rw [rn_mk_map (rn_x_t (rn_x_t hx))]
    · rw [rj_no c]
      refine ⟨hS, hx, hj, hl, rfl, Nat.le_refl _, Nat.le_refl _, fun z _ => ⟨rfl, rfl, rfl⟩, ?_, fun q l e => ?_⟩
      · match xs with
        | [] => rfl
        | [y] => rfl
        | y :: x :: l =>
          show (if rank ≤ r then _ else _) = _
          rw [if_neg (by omega)]
          rfl
      · cases e
        omega
theorem cd_B_all {ts : List wt_t} {n m0 : Nat} {s : wt_q} (hl : ts.length ≤ 401) : ∀ k f x, 401 ≤ k + x.2.2.1 → cd_B ts n m0 f s x → ∃ f2, cd_B ts n m0 f2 s (cd_all ts n s) := by
  intro k
  induction k with
  | zero =>
    intro f x hk h
    by_cases hg : cd_go ts x
    · obtain ⟨f2, h2, h3, h4⟩ := cd_B_1 hl h hg
      omega
    · have := cd_B_end h hg
      exact ⟨f, this ▸ h⟩
  | succ k ih =>
    intro f x hk h
    by_cases hg : cd_go ts x
    · obtain ⟨f2, h2, h3, h4⟩ := cd_B_1 hl h hg
      exact ih f2 _ (by omega) h2
    · have := cd_B_end h hg
      exact ⟨f, this ▸ h⟩
/-- a condition takes a token or more -/
theorem cd_all_b {ts : List wt_t} {n : Nat} {s : wt_q} (hl : ts.length ≤ 401) (h : s.1 ≤ ts.length) : (cd_all ts n s).2.2.1 ≤ ts.length ∧ s.1 ≤ (cd_all ts n s).2.2.1 ∧ ((cd_all ts n s).2.2.2 = none → s.1 + 1 ≤ (cd_all ts n s).2.2.1) := by
  obtain ⟨f2, _, h2, h3, h4⟩ := cd_B_all (m0 := s.1) hl 401 _ _ (by omega) (cd_B_0 (n := n) h (Nat.le_refl _))
  exact ⟨h2, by omega, fun z => by have := (h4 z).2; omega⟩
/-- how many of the joints are braces; the first of them is one -/
def pj_z : List Nat → Nat
  | [] => 0
  | r :: js => (if r = 0 then 1 else 0) + pj_z js
def pj_b : List Nat → Prop
  | [] => True
  | r :: js => (js = [] → r = 0) ∧ pj_b js
theorem pj_b_z : ∀ {js : List Nat}, pj_b js → ¬ js = [] → 1 ≤ pj_z js
  | [], _, h => absurd rfl h
  | [r], h, _ => by
    have : r = 0 := h.1 rfl
    show 1 ≤ (if r = 0 then 1 else 0) + 0
    rw [if_pos this]
    omega
  | r :: q :: js, h, _ => by
    have := pj_b_z h.2 (by simp)
    show 1 ≤ (if r = 0 then 1 else 0) + pj_z (q :: js)
    omega
theorem pj_nz : ∀ (js : List Nat), pj_n js + pj_z js = js.length
  | [] => rfl
  | r :: js => by
    have := pj_nz js
    show (if r = 0 then 0 else 1) + pj_n js + ((if r = 0 then 1 else 0) + pj_z js) = js.length + 1
    by_cases e : r = 0
    · rw [if_pos e, if_pos e]
      omega
    · rw [if_neg e, if_neg e]
      omega
theorem rj_b {rank : Nat} : ∀ {js xs : List Nat} {S : rn_N}, pj_b js → pj_b (rj rank js S xs).1 ∧ pj_z (rj rank js S xs).1 = pj_z js
  | [], [], S, h => ⟨h, rfl⟩
  | [], [y], S, h => ⟨h, rfl⟩
  | [], y :: x :: l, S, h => ⟨h, rfl⟩
  | r :: js, [], S, h => ⟨h, rfl⟩
  | r :: js, [y], S, h => ⟨h, rfl⟩
  | r :: js, y :: x :: l, S, h => by
    by_cases c : 1 ≤ r ∧ rank ≤ r
    · rw [rj_at c]
      obtain ⟨a, b⟩ := rj_b (rank := rank) (js := js) (xs := rn_n S :: l) (S := rj_1 S r y x) h.2
      refine ⟨a, b.trans ?_⟩
      show pj_z js = (if r = 0 then 1 else 0) + pj_z js
      rw [if_neg (by omega)]
      omega
    · rw [rj_no c]
      exact ⟨h, rfl⟩
/-- a count behind an item -/
def sm_kd (ts : List wt_t) (s : wt_q) : Nat := if tk_now ts s = (Int8.ofInt 20).toInt32 then 40 else if tk_now ts s = (Int8.ofInt 21).toInt32 then 41 else if tk_now ts s = (Int8.ofInt 22).toInt32 then 42 else if tk_now ts s = (Int8.ofInt 23).toInt32 then 43 else 44
def sm_nd (ts : List wt_t) (S : rn_N) (x : Nat) (s : wt_q) : rn_N := rn_mk S (sm_kd ts s, x, 0, (tk_low ts s.1).toNatClampNeg, (tk_high ts s.1).toNatClampNeg) (rc_w ts s (rn_w S x)) (fun _ => false)
def sm_rp (ts : List wt_t) (n : Nat) (b : Bool) (S : rn_N) (x : Nat) (s : wt_q) : rn_N × Nat × wt_q :=
  if tk_now ts s = (Int8.ofInt 20).toInt32 ∨ tk_now ts s = (Int8.ofInt 21).toInt32 ∨ tk_now ts s = (Int8.ofInt 22).toInt32 ∨ (b = true ∧ (tk_now ts s = (Int8.ofInt 23).toInt32 ∨ tk_now ts s = (Int8.ofInt 24).toInt32)) then
    (if (tk_now ts s = (Int8.ofInt 22).toInt32 ∧ tk_high ts s.1 < tk_low ts s.1) ∨ (tk_now ts s = (Int8.ofInt 23).toInt32 ∧ tk_low ts s.1 = 0) then (S, x, tk_ref ts n s) else (sm_nd ts S x s, rn_n S, tk_adv ts s))
  else (S, x, s)
theorem sm_rp_1 {ts : List wt_t} {n : Nat} {b : Bool} {S : rn_N} {x : Nat} {s : wt_q} (h : ¬ rc_is ts b s) : sm_rp ts n b S x s = (S, x, s) := if_neg h
theorem sm_rp_2 {ts : List wt_t} {n : Nat} {b : Bool} {S : rn_N} {x : Nat} {s : wt_q} (h : rc_is ts b s) (h2 : rc_bad ts s) : sm_rp ts n b S x s = (S, x, tk_ref ts n s) := (if_pos h).trans (if_pos h2)
theorem sm_rp_3 {ts : List wt_t} {n : Nat} {b : Bool} {S : rn_N} {x : Nat} {s : wt_q} (h : rc_is ts b s) (h2 : ¬ rc_bad ts s) : sm_rp ts n b S x s = (sm_nd ts S x s, rn_n S, tk_adv ts s) := (if_pos h).trans (if_neg h2)
theorem tk_ad1 {ts : List wt_t} {s : wt_q} (h : ¬ tk_now ts s = Int32.ofInt 2) : s.2 = none ∧ tk_adv ts s = (s.1 + 1, none) ∧ s.1 + 1 ≤ ts.length := by
  obtain ⟨a, f⟩ := s
  unfold tk_now tk_adv at *
  cases f with
  | some z => exact absurd rfl h
  | none =>
    cases e : ts[a]? with
    | none => rw [e] at h; exact absurd rfl h
    | some t =>
      refine ⟨rfl, rfl, ?_⟩
      have := (List.getElem?_eq_some_iff.mp e).1
      exact this
theorem tk_rf1 {ts : List wt_t} {n : Nat} {s : wt_q} (h : s.2 = none) : tk_ref ts n s = (s.1, some (tk_place ts n s.1)) := by
  obtain ⟨a, f⟩ := s
  have h : f = none := h
  subst h
  rfl
theorem tk_now_f {ts : List wt_t} {s : wt_q} (h : ¬ s.2 = none) : tk_now ts s = Int32.ofInt 2 := by
  obtain ⟨a, f⟩ := s
  cases f with
  | none => exact absurd rfl h
  | some z => rfl
theorem rc_is_2 {ts : List wt_t} {b : Bool} {s : wt_q} (h : rc_is ts b s) : ¬ tk_now ts s = Int32.ofInt 2 := by
  intro e
  unfold rc_is at h
  rw [e] at h
  revert h
  cases b <;> decide
theorem rc_w_le {ts : List wt_t} {s : wt_q} {w : Nat} (hv : ∀ x, x ∈ ts → pr_vt x) (hw : w ≤ 1000) : rc_w ts s w ≤ 1000 := by
  unfold rc_w
  split
  · exact Nat.min_le_right _ _
  · split
    · rename_i h
      obtain ⟨a, b, ha, hb, e1, e2⟩ := tk_ct (s := s) hv (by rw [h]; decide)
      rw [e1, wi_onn (by omega)]
      omega
    · split
      · rename_i h
        obtain ⟨a, b, ha, hb, e1, e2⟩ := tk_ct (s := s) hv (by rw [h]; decide)
        rw [e1, wi_onn (by omega)]
        omega
      · exact hw
/-- what a count keeps -/
theorem sm_rp_ok {ts : List wt_t} {n x : Nat} {b : Bool} {S : rn_N} {s : wt_q} {xs : List Nat} (hv : ∀ y, y ∈ ts → pr_vt y) (hS : rn_i S) (hx : rn_x S (x :: xs)) (hb : b = true → rn_k S x = 60) (hs : s.1 ≤ ts.length) :
    rn_i (sm_rp ts n b S x s).1 ∧ rn_x (sm_rp ts n b S x s).1 ((sm_rp ts n b S x s).2.1 :: xs) ∧ rn_n S ≤ rn_n (sm_rp ts n b S x s).1 ∧ rn_n (sm_rp ts n b S x s).1 + s.1 ≤ rn_n S + (sm_rp ts n b S x s).2.2.1 ∧ (sm_rp ts n b S x s).2.2.1 ≤ ts.length ∧ (∀ z, z < rn_n S → rn_p (sm_rp ts n b S x s).1 z = rn_p S z ∧ rn_d (sm_rp ts n b S x s).1 z = rn_d S z ∧ rn_h (sm_rp ts n b S x s).1 z = rn_h S z) := by
  by_cases h : rc_is ts b s
  · by_cases h2 : rc_bad ts s
    · rw [sm_rp_2 h h2]
      obtain ⟨a1, a2, a3⟩ := tk_ad1 (rc_is_2 h)
      rw [tk_rf1 a1]
      exact ⟨hS, hx, Nat.le_refl _, Nat.le_refl _, hs, fun z _ => ⟨rfl, rfl, rfl⟩⟩
    · rw [sm_rp_3 h h2]
      obtain ⟨a1, a2, a3⟩ := tk_ad1 (rc_is_2 h)
      rw [a2]
      have hk : sm_kd ts s = 40 ∨ sm_kd ts s = 41 ∨ (sm_kd ts s = 42 ∧ tk_now ts s = (Int8.ofInt 22).toInt32) ∨ (b = true ∧ sm_kd ts s = 43 ∧ tk_now ts s = (Int8.ofInt 23).toInt32) ∨ (b = true ∧ sm_kd ts s = 44) := by
        unfold sm_kd
        by_cases c1 : tk_now ts s = (Int8.ofInt 20).toInt32
        · rw [if_pos c1]; exact Or.inl rfl
        rw [if_neg c1]
        by_cases c2 : tk_now ts s = (Int8.ofInt 21).toInt32
        · rw [if_pos c2]; exact Or.inr (Or.inl rfl)
        rw [if_neg c2]
        by_cases c3 : tk_now ts s = (Int8.ofInt 22).toInt32
        · rw [if_pos c3]; exact Or.inr (Or.inr (Or.inl ⟨rfl, c3⟩))
        rw [if_neg c3]
        have hb : b = true ∧ (tk_now ts s = (Int8.ofInt 23).toInt32 ∨ tk_now ts s = (Int8.ofInt 24).toInt32) := by
          rcases h with h | h | h | h
          · exact absurd h c1
          · exact absurd h c2
          · exact absurd h c3
          · exact h
        by_cases c4 : tk_now ts s = (Int8.ofInt 23).toInt32
        · rw [if_pos c4]; exact Or.inr (Or.inr (Or.inr (Or.inl ⟨hb.1, rfl, c4⟩)))
        rw [if_neg c4]
        exact Or.inr (Or.inr (Or.inr (Or.inr ⟨hb.1, rfl⟩)))
      have hx0 := hx x List.mem_cons_self
      have hrow : nq_row (sm_kd ts s) := by
        unfold nq_row
        omega
      refine ⟨rn_mk_i hS (rc_w_le hv (hS.2.2 x hx0.1)) (fun _ _ => ⟨hx0, fun z => ?_, fun z => ?_, fun z => ?_, fun z => ?_⟩), rn_mk_x1 (rn_x_t hx) hrow, Nat.le_succ _, ?_, a3, fun z hz => ?_⟩
      · have z : 23 ≤ sm_kd ts s ∧ sm_kd ts s ≤ 26 := z
        omega
      · have z : sm_kd ts s = 42 := z
        have z2 : tk_now ts s = (Int8.ofInt 22).toInt32 := by
          rcases hk with k | k | k | k | k
          · omega
          · omega
          · exact k.2
          · omega
          · omega
        obtain ⟨a, b, ha, hb, e1, e2⟩ := tk_ct (s := s) hv (by rw [z2]; decide)
        show (tk_low ts s.1).toNatClampNeg ≤ (tk_high ts s.1).toNatClampNeg
        have h3 : ¬ tk_high ts s.1 < tk_low ts s.1 := fun w => h2 (Or.inl ⟨z2, w⟩)
        rw [e1, e2, wi_lt, wi_on (by omega), wi_on (by omega)] at h3
        rw [e1, e2, wi_onn (by omega), wi_onn (by omega)]
        omega
      · have z : 43 ≤ sm_kd ts s ∧ sm_kd ts s ≤ 44 := z
        refine hb ?_
        rcases hk with k | k | k | k | k
        · omega
        · omega
        · omega
        · exact k.1
        · exact k.1
      · have z : sm_kd ts s = 43 := z
        have z2 : tk_now ts s = (Int8.ofInt 23).toInt32 := by
          rcases hk with k | k | k | k | k
          · omega
          · omega
          · omega
          · exact k.2.2
          · omega
        obtain ⟨a, b, ha, hb, e1, e2⟩ := tk_ct (s := s) hv (by rw [z2]; decide)
        show 0 < (tk_low ts s.1).toNatClampNeg
        have h3 : ¬ tk_low ts s.1 = 0 := fun w => h2 (Or.inr ⟨z2, w⟩)
        rw [e1, wi_eq, wi_on (by omega)] at h3
        rw [e1, wi_onn (by omega)]
        have h0 : (0 : Int32).toInt = 0 := rfl
        rw [h0] at h3
        omega
      · show rn_n S + 1 + s.1 ≤ rn_n S + (s.1 + 1)
        omega
      · obtain ⟨c1, _, c3, _⟩ := rn_mk_d (S := S) (x := (sm_kd ts s, x, 0, (tk_low ts s.1).toNatClampNeg, (tk_high ts s.1).toNatClampNeg)) (w := rc_w ts s (rn_w S x)) (h := fun _ => false) hz
        exact ⟨rn_mk_p hz, c1, c3⟩
  · rw [sm_rp_1 h]
    exact ⟨hS, hx, Nat.le_refl _, Nat.le_refl _, hs, fun z _ => ⟨rfl, rfl, rfl⟩⟩
