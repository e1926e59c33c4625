/-! ===== weights of nodes ===== -/
/-- the weight of a node by those of its parts -/
def rn_we (k a b wl wr : Nat) : Nat := if k = 60 then 1 else if k = 26 then min ((wl + 1) * (wr + 1)) 1000 else if k < 26 then min (wl + wr) 1000 else if k = 42 then min (ww_mx b * wl) 1000 else if k = 43 then 2 * a else if k = 44 then 2 * a + 1 else wl
def rn_y1 (S : rn_N) (c : Nat) (x : nq_N) (w : Nat) : Prop := nq_row (nq_k x) → (nq_a x < 2147483648 ∧ nq_b x < 2147483648) ∧ (nq_k x = 60 → w = 1) ∧ (¬ nq_k x = 60 → nq_l x < c → (nq_two (nq_k x) → nq_r x < c) → w = rn_we (nq_k x) (nq_a x) (nq_b x) (rn_w S (nq_l x)) (rn_w S (nq_r x)))
def rn_y (S : rn_N) : Prop := ∀ x, x < rn_n S → rn_y1 S x (rn_d S x) (rn_w S x)
theorem rn_we_c {k a b wl wr wr2 : Nat} (h : nq_row k) (h2 : nq_two k → wr = wr2) : rn_we k a b wl wr = rn_we k a b wl wr2 := by
  by_cases c : nq_two k
  · rw [h2 c]
  · unfold nq_two at c
    unfold nq_row at h
    unfold rn_we
    by_cases c60 : k = 60
    · rw [if_pos c60, if_pos c60]
    · have n1 : ¬ k = 26 := by omega
      have n2 : ¬ k < 26 := by omega
      rw [if_neg c60, if_neg c60, if_neg n1, if_neg n1, if_neg n2, if_neg n2]
theorem rn_y_mk {S : rn_N} {x0 : nq_N} {w0 : Nat} {h : Nat → Bool} (hg : rn_y S) (hx : rn_y1 S (rn_n S) x0 w0) : rn_y (rn_mk S x0 w0 h) := by
  intro y hy
  have hy : y < rn_n S + 1 := hy
  have key : ∀ (c : Nat) (x : nq_N) (w : Nat), c ≤ rn_n S → rn_y1 S c x w → rn_y1 (rn_mk S x0 w0 h) c x w := by
    intro c x w hc hq hr
    obtain ⟨a1, a2, a3⟩ := hq hr
    refine ⟨a1, a2, fun n6 hl h2 => ?_⟩
    rw [a3 n6 hl h2, (rn_mk_d (show nq_l x < rn_n S by omega)).2.1]
    exact rn_we_c hr (fun z => ((rn_mk_d (by have := h2 z; omega)).2.1).symm)
  by_cases e : y = rn_n S
  · subst e
    rw [rn_mk_a.1, rn_mk_a.2.1]
    exact key _ _ _ (Nat.le_refl _) hx
  · rw [(rn_mk_d (show y < rn_n S by omega)).1, (rn_mk_d (show y < rn_n S by omega)).2.1]
    exact key _ _ _ (by omega) (hg y (by omega))
theorem rj_1_y {S : rn_N} {r y x : Nat} (h1 : 1 ≤ r) (h4 : r ≤ 4) : rn_y1 S (rn_n S) (22 + r, x, y, 0, 0) (rj_w r (rn_w S x) (rn_w S y)) := by
  intro _
  refine ⟨⟨by show 0 < _; decide, by show 0 < _; decide⟩, fun z => ?_, fun _ _ _ => ?_⟩
  · have z : 22 + r = 60 := z
    omega
  · show rj_w r (rn_w S x) (rn_w S y) = rn_we (22 + r) 0 0 (rn_w S x) (rn_w S y)
    unfold rj_w rn_we
    by_cases c : r = 4
    · rw [if_pos c, if_neg (show ¬ 22 + r = 60 by omega), if_pos (show 22 + r = 26 by omega)]
    · rw [if_neg c, if_neg (show ¬ 22 + r = 60 by omega), if_neg (show ¬ 22 + r = 26 by omega), if_pos (show 22 + r < 26 by omega)]
theorem rn_y_rj {rank : Nat} : ∀ {js xs : List Nat} {S : rn_N}, rn_y S → (∀ r, r ∈ js → r ≤ 4) → rn_y (rj rank js S xs).2.1 ∧ ∀ r, r ∈ (rj rank js S xs).1 → r ≤ 4
  | [], [], S, h, hj => ⟨h, hj⟩
  | [], [y], S, h, hj => ⟨h, hj⟩
  | [], y :: x :: l, S, h, hj => ⟨h, hj⟩
  | r :: js, [], S, h, hj => ⟨h, hj⟩
  | r :: js, [y], S, h, hj => ⟨h, hj⟩
  | r :: js, y :: x :: l, S, h, hj => by
    by_cases c : 1 ≤ r ∧ rank ≤ r
    · rw [rj_at c]
      have h4 := hj r List.mem_cons_self
      exact rn_y_rj (S := rj_1 S r y x) (xs := rn_n S :: l) (rn_y_mk h (rj_1_y c.1 h4)) (fun q hq => hj q (List.mem_cons_of_mem _ hq))
    · rw [rj_no c]
      exact ⟨h, hj⟩
theorem wi_cl (z : Int32) : z.toNatClampNeg < 2147483648 := by
  rw [wi_nat]
  have := Int32.toInt_lt z
  omega
theorem sm_nd_g {ts : List wt_t} {b : Bool} {S : rn_N} {x : Nat} {s : wt_q} (c : rc_is ts b s) : rn_y1 S (rn_n S) (sm_kd ts s, x, 0, (tk_low ts s.1).toNatClampNeg, (tk_high ts s.1).toNatClampNeg) (rc_w ts s (rn_w S x)) := by
  intro _
  have key : ¬ sm_kd ts s = 60 ∧ rc_w ts s (rn_w S x) = rn_we (sm_kd ts s) (tk_low ts s.1).toNatClampNeg (tk_high ts s.1).toNatClampNeg (rn_w S x) (rn_w S 0) := by
    unfold sm_kd rc_w
    rcases c with c | c | c | ⟨_, c | c⟩
    · rw [c]
      exact ⟨by decide, rfl⟩
    · rw [c]
      exact ⟨by decide, rfl⟩
    · rw [c]
      exact ⟨by decide, rfl⟩
    · rw [c]
      exact ⟨by decide, rfl⟩
    · rw [c]
      exact ⟨by decide, rfl⟩
  exact ⟨⟨wi_cl _, wi_cl _⟩, fun z => (key.1 z).elim, fun _ _ _ => key.2⟩
theorem rn_y_rp {ts : List wt_t} {n x : Nat} {b : Bool} {S : rn_N} {s : wt_q} (h : rn_y S) : rn_y (sm_rp ts n b S x s).1 := by
  by_cases c : rc_is ts b s
  · by_cases c2 : rc_bad ts s
    · rw [sm_rp_2 c c2]
      exact h
    · rw [sm_rp_3 c c2]
      exact rn_y_mk h (sm_nd_g c)
  · rw [sm_rp_1 c]
    exact h
theorem rn_y_c {ts : List wt_t} {n : Nat} {S : rn_N} {s : wt_q} (h : rn_y S) : rn_y (sm_c ts n S s) := rn_y_mk h (fun _ => ⟨⟨by show 0 < _; decide, by show 0 < _; decide⟩, fun _ => rfl, fun z => (z rfl).elim⟩)
theorem rk_of_4 (k : Int32) : rk_of k ≤ 4 := by
  unfold rk_of
  repeat' split
  all_goals decide
theorem rn_y_1 {ts : List wt_t} {n b : Nat} {S : rn_N} {js xs : List Nat} {o : Nat} {s : wt_q} {it : Bool} (h : rn_y S) (hj : ∀ r, r ∈ js → r ≤ 4) : rn_y (sm_1 ts n b (S, js, xs, o, s, it)).1 ∧ ∀ r, r ∈ (sm_1 ts n b (S, js, xs, o, s, it)).2.1 → r ≤ 4 := by
  cases it with
  | true =>
    show rn_y (sm_it ts n S js xs o s).1 ∧ ∀ r, r ∈ (sm_it ts n S js xs o s).2.1 → r ≤ 4
    unfold sm_it
    split
    · split
      · refine ⟨h, fun r hr => ?_⟩
        rcases List.mem_cons.mp hr with w | w
        · omega
        · exact hj r w
      · exact ⟨h, hj⟩
    · exact ⟨rn_y_rp (rn_y_c h), hj⟩
  | false =>
    show rn_y (sm_en ts n b S js xs o s).1 ∧ ∀ r, r ∈ (sm_en ts n b S js xs o s).2.1 → r ≤ 4
    unfold sm_en
    split
    · refine ⟨(rn_y_rj h hj).1, fun r hr => ?_⟩
      rcases List.mem_cons.mp hr with w | w
      · rw [w]
        exact rk_of_4 _
      · exact (rn_y_rj h hj).2 r w
    · split
      · unfold sm_cl
        split
        · exact ⟨(rn_y_rj h hj).1, fun r hr => absurd hr (by simp)⟩
        · exact ⟨rn_y_rp (rn_y_rj h hj).1, fun r hr => (rn_y_rj h hj).2 r (List.mem_of_mem_tail hr)⟩
      · exact ⟨h, hj⟩
theorem rn_y_run {ts : List wt_t} {n b : Nat} : ∀ (f : Nat) (x : sm_S), rn_y x.1 → (∀ r, r ∈ x.2.1 → r ≤ 4) → rn_y (sm_run ts n b f x).1 := by
  intro f
  induction f with
  | zero => exact fun x h _ => h
  | succ f ih =>
    intro x h hj
    by_cases hg : sm_go x = true
    · rw [sm_run_at hg]
      obtain ⟨S, js, xs, o, s, it⟩ := x
      obtain ⟨a, b⟩ := rn_y_1 (ts := ts) (n := n) (b := b) (xs := xs) (o := o) (s := s) (it := it) h hj
      exact ih _ a b
    · rw [sm_run_no hg]
      exact h
theorem rn_y_fin {ts : List wt_t} {n z : Nat} {S : rn_N} {s : wt_q} (h : rn_y S) : rn_y (sq_fin ts n z S s).1 := by
  unfold sq_fin sq_0
  split
  · exact rn_y_run _ _ h (fun r hr => by rw [List.mem_singleton.mp hr]; decide)
  · exact rn_y_run _ _ h (fun r hr => by rw [List.mem_singleton.mp hr]; decide)
theorem rn_y_m {S : rn_N} {x : nq_N} (h : rn_y S) (hr : ¬ nq_row (nq_k x)) : rn_y (rn_m S x) := rn_y_mk h (fun z => (hr z).elim)
def ap_fk (fr : List ap_F) : Prop := ∀ f, f ∈ fr → ¬ nq_row f.1
theorem ap_fk1 {f : ap_F} {fr : List ap_F} (h : ¬ nq_row f.1) (hf : ap_fk fr) : ap_fk (f :: fr) := fun g hg => by
  rcases List.mem_cons.mp hg with w | w
  · rw [w]
    exact h
  · exact hf g w
theorem nq_no {k : Nat} (h : k < 23 ∨ (26 < k ∧ k < 40) ∨ k = 61) : ¬ nq_row k := by
  unfold nq_row
  omega
theorem rn_y_b {ts : List wt_t} {n : Nat} {S : rn_N} {fr : List ap_F} {o : Nat} {s : wt_q} {sq : List Nat} (h : rn_y S) (hf : ap_fk fr) : rn_y (ap_b ts n S fr o s sq).1 ∧ ap_fk (ap_b ts n S fr o s sq).2.1 := by
  unfold ap_b
  split
  · exact ⟨h, ap_fk1 (nq_no (by show 10 < 23 ∨ _; omega)) hf⟩
  split
  · exact ⟨h, ap_fk1 (nq_no (by show 12 < 23 ∨ _; omega)) hf⟩
  split
  · unfold ap_nv
    split
    · exact ⟨rn_y_m (rn_y_fin h) (nq_no (by show 11 < 23 ∨ _; omega)), hf⟩
    · exact ⟨h, hf⟩
  split
  · unfold ap_sq
    split
    · exact ⟨rn_y_fin h, ap_fk1 (nq_no (Or.inr (Or.inl ⟨by show 26 < 32; decide, by show 32 < 40; decide⟩))) hf⟩
    split
    · exact ⟨rn_y_fin h, ap_fk1 (nq_no (Or.inr (Or.inl ⟨by show 26 < 33; decide, by show 33 < 40; decide⟩))) hf⟩
    · exact ⟨rn_y_m (rn_y_fin h) (nq_no (Or.inr (Or.inr rfl))), hf⟩
  split
  · split
    · exact ⟨h, ap_fk1 (nq_no (Or.inr (Or.inl ⟨by show 26 < 29; decide, by show 29 < 40; decide⟩))) hf⟩
    · exact ⟨h, hf⟩
  · unfold ap_cd
    split
    · exact ⟨rn_y_c h, ap_fk1 (nq_no (Or.inr (Or.inl ⟨by show 26 < 31; decide, by show 31 < 40; decide⟩))) hf⟩
    · exact ⟨rn_y_c h, hf⟩
theorem ap_fk_t {f : ap_F} {fr : List ap_F} (h : ap_fk (f :: fr)) : ¬ nq_row f.1 ∧ ap_fk fr := ⟨h f List.mem_cons_self, fun g hg => h g (List.mem_cons_of_mem _ hg)⟩
theorem rn_y_e {ts : List wt_t} {n : Nat} {S : rn_N} {x o : Nat} {s : wt_q} {sq : List Nat} : ∀ {fr : List ap_F}, rn_y S → ap_fk fr → rn_y (ap_e ts n S x o s sq fr).1 ∧ ap_fk (ap_e ts n S x o s sq fr).2.1
  | [], h, hf => ⟨h, hf⟩
  | f :: fr, h, hf => by
    obtain ⟨h1, h2⟩ := ap_fk_t hf
    show rn_y (ap_e1 ts n S x o s sq f fr).1 ∧ ap_fk (ap_e1 ts n S x o s sq f fr).2.1
    unfold ap_e1
    split
    · exact ⟨rn_y_m h (nq_no (by show 15 < 23 ∨ _; omega)), h2⟩
    split
    · exact ⟨rn_y_m h h1, h2⟩
    split
    · exact ⟨h, ap_fk1 (nq_no (by show 15 < 23 ∨ _; omega)) h2⟩
    split
    · exact ⟨rn_y_m (rn_y_c h) (nq_no (by show 13 < 23 ∨ _; omega)), h2⟩
    split
    · exact ⟨rn_y_m (rn_y_c h) (nq_no (by show 14 < 23 ∨ _; omega)), h2⟩
    · exact ⟨h, h2⟩
theorem rn_y_ap {ts : List wt_t} {n : Nat} : ∀ (f : Nat) (y : ap_S), rn_y y.1 → ap_fk y.2.1 → rn_y (ap_run ts n f y).1 := by
  intro f
  induction f with
  | zero => exact fun y h _ => h
  | succ f ih =>
    intro y h hj
    by_cases hg : ap_go y = true
    · rw [ap_run_at hg]
      obtain ⟨S, fr, p, o, s, sq, d⟩ := y
      cases p with
      | none =>
        obtain ⟨a, b⟩ := rn_y_b (ts := ts) (n := n) (o := o) (s := s) (sq := sq) h hj
        exact ih _ a b
      | some x =>
        obtain ⟨a, b⟩ := rn_y_e (ts := ts) (n := n) (x := x) (o := o) (s := s) (sq := sq) (fr := fr) h hj
        exact ih _ a b
    · rw [ap_run_no hg]
      exact h
theorem rn_y_0 : rn_y rn_0 := fun x hx => absurd hx (Nat.not_lt_zero _)
/-- the nodes of a property that was read -/
theorem rn_y_all {ts : List wt_t} {n : Nat} : rn_y (ap_fin ts n).1 := rn_y_ap _ _ rn_y_0 (fun f hf => absurd hf (by simp))
/-- a light node has few places -/
theorem nt_mul {a b c d : Nat} (h1 : a ≤ c) (h2 : b ≤ d) : a + b + a * b ≤ (c + 1) * (d + 1) := by
  have h := Nat.mul_le_mul (Nat.succ_le_succ h1) (Nat.succ_le_succ h2)
  have e : (a + 1) * (b + 1) = a + b + a * b + 1 := by
    rw [Nat.add_mul, Nat.mul_add, Nat.one_mul, Nat.mul_one]
    omega
  have h : (a + 1) * (b + 1) ≤ (c + 1) * (d + 1) := h
  omega
theorem nt_times_le {lo hi : Nat} {A : nt_A} : nt_n (nt_times lo hi A) ≤ ww_mx hi * nt_n A := by
  unfold nt_times ww_mx
  by_cases c : hi = 0
  · rw [if_pos c, if_pos (by omega), Nat.one_mul]
    exact Nat.le_refl _
  · rw [if_neg c, if_neg (by omega), Nat.mul_comm]
    exact Nat.le_refl _
theorem rn_nt {S : rn_N} (hi : rn_i S) (hg : rn_y S) : ∀ x, x < rn_n S → nq_row (rn_k S x) → nt_n (rn_t S x) ≤ rn_w S x ∨ 1000 ≤ rn_w S x := by
  intro x
  induction x using Nat.strongRecOn with
  | ind x ih =>
    intro hx hr
    obtain ⟨h1, h2, h3⟩ := hi
    have hr' : nq_row (nq_k (rn_d S x)) := hr
    have ht := h1 x hx hr'
    obtain ⟨g1, g2, g3⟩ := hg x hx hr'
    unfold nt_op at ht
    by_cases c60 : nq_k (rn_d S x) = 60
    · rw [if_pos c60] at ht
      rw [ht, g2 c60]
      exact Or.inl (Nat.le_refl _)
    rw [if_neg c60] at ht
    obtain ⟨⟨w1, w1r⟩, w2, w3, w4, w5⟩ := h2 x hx hr' c60
    have g3 := g3 c60 w1 (fun z => (w2 z).1)
    unfold rn_we at g3
    rw [if_neg c60] at g3
    have iA := ih _ w1 (by omega) w1r
    have hrr := hr'
    unfold nq_row at hrr
    by_cases ct : nq_two (nq_k (rn_d S x))
    · have iB := ih _ (w2 ct).1 (by have := (w2 ct).1; omega) (w2 ct).2
      generalize rn_w S (nq_l (rn_d S x)) = a at *
      generalize rn_w S (nq_r (rn_d S x)) = b at *
      generalize rn_t S (nq_l (rn_d S x)) = A at *
      generalize rn_t S (nq_r (rn_d S x)) = B at *
      unfold nq_two at ct
      by_cases c26 : nq_k (rn_d S x) = 26
      · rw [if_pos c26] at g3
        rw [if_neg (by omega), if_neg (by omega), if_neg (by omega), if_pos c26] at ht
        rw [ht, g3]
        show nt_n A + nt_n B + nt_n A * nt_n B ≤ _ ∨ _
        by_cases q : nt_n A ≤ a ∧ nt_n B ≤ b
        · have := nt_mul q.1 q.2
          generalize (a + 1) * (b + 1) = z at *
          omega
        · right
          have hz : 1000 ≤ (a + 1) * (b + 1) := by
            by_cases q1 : nt_n A ≤ a
            · have : 1000 ≤ b := by
                rcases iB with z | z
                · exact absurd ⟨q1, z⟩ q
                · exact z
              calc 1000 ≤ b + 1 := by omega
                _ = 1 * (b + 1) := (Nat.one_mul _).symm
                _ ≤ (a + 1) * (b + 1) := Nat.mul_le_mul_right _ (by omega)
            · have : 1000 ≤ a := by
                rcases iA with z | z
                · exact absurd z q1
                · exact z
              calc 1000 ≤ a + 1 := by omega
                _ = (a + 1) * 1 := (Nat.mul_one _).symm
                _ ≤ (a + 1) * (b + 1) := Nat.mul_le_mul_left _ (by omega)
          omega
      · rw [if_neg c26, if_pos (by omega)] at g3
        rw [g3]
        have hn : nt_n (rn_t S x) = nt_n A + nt_n B := by
          rw [ht]
          by_cases d1 : nq_k (rn_d S x) = 23
          · rw [if_pos d1]
            rfl
          rw [if_neg d1]
          by_cases d2 : nq_k (rn_d S x) = 24
          · rw [if_pos d2]
            rfl
          rw [if_neg d2, if_pos (by omega)]
          rfl
        rw [hn]
        omega
    · unfold nq_two at ct
      have n1 : ¬ nq_k (rn_d S x) = 26 := by omega
      rw [if_neg n1, if_neg (by omega)] at g3
      rw [if_neg (by omega), if_neg (by omega), if_neg (by omega), if_neg n1] at ht
      generalize rn_w S (nq_l (rn_d S x)) = a at *
      generalize rn_t S (nq_l (rn_d S x)) = A at *
      by_cases d0 : nq_k (rn_d S x) = 40
      · rw [if_pos d0] at ht
        rw [if_neg (by omega), if_neg (by omega), if_neg (by omega)] at g3
        rw [ht, g3]
        exact iA
      rw [if_neg d0] at ht
      by_cases d1 : nq_k (rn_d S x) = 41
      · rw [if_pos d1] at ht
        rw [if_neg (by omega), if_neg (by omega), if_neg (by omega)] at g3
        rw [ht, g3]
        exact iA
      rw [if_neg d1] at ht
      by_cases d2 : nq_k (rn_d S x) = 42
      · rw [if_pos d2] at ht g3
        rw [ht, g3]
        have hm : 1 ≤ ww_mx (nq_b (rn_d S x)) := by
          unfold ww_mx
          split <;> omega
        have hn := nt_times_le (lo := nq_a (rn_d S x)) (hi := nq_b (rn_d S x)) (A := A)
        generalize ww_mx (nq_b (rn_d S x)) = m at *
        rcases iA with z | z
        · have h5 := Nat.mul_le_mul_left m z
          generalize m * a = u at *
          omega
        · have h5 := Nat.mul_le_mul hm z
          generalize m * a = u at *
          omega
      rw [if_neg d2] at ht g3
      by_cases d3 : nq_k (rn_d S x) = 43
      · rw [if_pos d3] at g3
        rw [ht, g3]
        left
        show nt_S _ _ ≤ _
        unfold nt_S
        rw [if_neg (by rw [decide_eq_false (by omega)]; decide)]
        omega
      · rw [if_neg d3, if_pos (by omega)] at g3
        rw [ht, g3]
        left
        show nt_S _ _ ≤ _
        unfold nt_S
        split <;> omega
