/-! ===== rows that were read are light ===== -/
/-- every row node is light, or no heavier than one that is still at hand -/
def rw_o (S : rn_N) (xs : List Nat) : Prop := ∀ y, y < rn_n S → nq_row (rn_k S y) → rn_w S y ≤ 40 ∨ ∃ z, z ∈ xs ∧ z < rn_n S ∧ rn_w S y ≤ rn_w S z
def rw_2 (S : rn_N) : Prop := ∀ y, y < rn_n S → rn_w S y ≤ 1000
theorem rn_mk_kk {S : rn_N} {x : nq_N} {w : Nat} {h : Nat → Bool} {j : Nat} (hj : j < rn_n S) : rn_k (rn_mk S x w h) j = rn_k S j := by
  unfold rn_k
  rw [(rn_mk_d hj).1]
theorem rw_mk {S : rn_N} {x : nq_N} {w : Nat} {h : Nat → Bool} {xs xs2 : List Nat} (hS : rw_o S xs) (h1 : ∀ z, z ∈ xs → z < rn_n S → z ∈ xs2 ∨ rn_w S z ≤ 40 ∨ (rn_n S ∈ xs2 ∧ rn_w S z ≤ w)) (h2 : nq_row (nq_k x) → w ≤ 40 ∨ rn_n S ∈ xs2) : rw_o (rn_mk S x w h) xs2 := by
  intro y hy hr
  have hy : y < rn_n S + 1 := hy
  have hn : rn_n S < rn_n (rn_mk S x w h) := Nat.lt_succ_self _
  by_cases e : y = rn_n S
  · subst e
    rw [rn_mk_k] at hr
    rw [rn_mk_a.2.1]
    rcases h2 hr with g | g
    · exact Or.inl g
    · exact Or.inr ⟨rn_n S, g, hn, by rw [rn_mk_a.2.1]; exact Nat.le_refl _⟩
  · have hy2 : y < rn_n S := by omega
    rw [rn_mk_kk hy2] at hr
    rw [(rn_mk_d hy2).2.1]
    rcases hS y hy2 hr with g | ⟨z, z1, z2, z3⟩
    · exact Or.inl g
    · rcases h1 z z1 z2 with g | g | ⟨g1, g2⟩
      · exact Or.inr ⟨z, g, Nat.lt_succ_of_lt z2, by rw [(rn_mk_d z2).2.1]; exact z3⟩
      · exact Or.inl (by omega)
      · exact Or.inr ⟨rn_n S, g1, hn, by rw [rn_mk_a.2.1]; omega⟩
theorem rw_2_mk {S : rn_N} {x : nq_N} {w : Nat} {h : Nat → Bool} (hS : rw_2 S) (hw : w ≤ 1000) : rw_2 (rn_mk S x w h) := by
  intro y hy
  have hy : y < rn_n S + 1 := hy
  by_cases e : y = rn_n S
  · subst e
    rw [rn_mk_a.2.1]
    exact hw
  · rw [(rn_mk_d (show y < rn_n S by omega)).2.1]
    exact hS y (by omega)
theorem rj_w_1 {r a b : Nat} (ha : a ≤ 1000) (hb : b ≤ 1000) : a ≤ rj_w r a b ∧ b ≤ rj_w r a b ∧ rj_w r a b ≤ 1000 := by
  unfold rj_w
  split
  · have e : (a + 1) * (b + 1) = a * b + a + b + 1 := by
      rw [Nat.add_mul, Nat.mul_add, Nat.one_mul, Nat.mul_one]
      omega
    rw [e]
    generalize a * b = z
    omega
  · omega
theorem rw_rj {rank : Nat} : ∀ {js xs : List Nat} {S : rn_N}, rw_o S xs → rw_2 S → rw_o (rj rank js S xs).2.1 (rj rank js S xs).2.2 ∧ rw_2 (rj rank js S xs).2.1
  | [], [], S, h, h2 => ⟨h, h2⟩
  | [], [y], S, h, h2 => ⟨h, h2⟩
  | [], y :: x :: l, S, h, h2 => ⟨h, h2⟩
  | r :: js, [], S, h, h2 => ⟨h, h2⟩
  | r :: js, [y], S, h, h2 => ⟨h, h2⟩
  | r :: js, y :: x :: l, S, h, h2 => by
    by_cases c : 1 ≤ r ∧ rank ≤ r
    · rw [rj_at c]
      by_cases hy : y < rn_n S ∧ x < rn_n S
      · have w := rj_w_1 (r := r) (h2 x hy.2) (h2 y hy.1)
        refine rw_rj (S := rj_1 S r y x) (xs := rn_n S :: l) (rw_mk h (fun z hz _ => ?_) (fun _ => Or.inr List.mem_cons_self)) (rw_2_mk h2 w.2.2)
        rcases List.mem_cons.mp hz with e | e
        · rw [e]
          exact Or.inr (Or.inr ⟨List.mem_cons_self, w.2.1⟩)
        rcases List.mem_cons.mp e with e | e
        · rw [e]
          exact Or.inr (Or.inr ⟨List.mem_cons_self, w.1⟩)
        · exact Or.inl (List.mem_cons_of_mem _ e)
      · have hm : ∀ a b : Nat, rj_w r a b ≤ 1000 := fun a b => by unfold rj_w; omega
        refine rw_rj (S := rj_1 S r y x) (xs := rn_n S :: l) (rw_mk h (fun z hz hzn => ?_) (fun _ => Or.inr List.mem_cons_self)) (rw_2_mk h2 (hm _ _))
        rcases List.mem_cons.mp hz with e | e
        · subst e
          refine Or.inr (Or.inr ⟨List.mem_cons_self, ?_⟩)
          have := h2 z hzn
          show rn_w S z ≤ rj_w r (rn_w S x) (rn_w S z)
          unfold rj_w
          split
          · have e : (rn_w S x + 1) * (rn_w S z + 1) = rn_w S x * rn_w S z + rn_w S x + rn_w S z + 1 := by
              rw [Nat.add_mul, Nat.mul_add, Nat.one_mul, Nat.mul_one]
              omega
            rw [e]
            generalize rn_w S x * rn_w S z = q
            omega
          · omega
        rcases List.mem_cons.mp e with e | e
        · subst e
          refine Or.inr (Or.inr ⟨List.mem_cons_self, ?_⟩)
          have := h2 z hzn
          show rn_w S z ≤ rj_w r (rn_w S z) (rn_w S y)
          unfold rj_w
          split
          · have e : (rn_w S z + 1) * (rn_w S y + 1) = rn_w S z * rn_w S y + rn_w S z + rn_w S y + 1 := by
              rw [Nat.add_mul, Nat.mul_add, Nat.one_mul, Nat.mul_one]
              omega
            rw [e]
            generalize rn_w S z * rn_w S y = q
            omega
          · omega
        · exact Or.inl (List.mem_cons_of_mem _ e)
    · rw [rj_no c]
      exact ⟨h, h2⟩
theorem rc_w_1 {ts : List wt_t} {b : Bool} {s : wt_q} {w : Nat} (c : rc_is ts b s) (hw : w ≤ 1000) (hb : b = true → w ≤ 40) : w ≤ 40 ∨ w ≤ rc_w ts s w := by
  unfold rc_w
  by_cases c22 : tk_now ts s = (Int8.ofInt 22).toInt32
  · rw [if_pos c22]
    right
    have h1 : 1 ≤ ww_mx (tk_high ts s.1).toNatClampNeg := by
      unfold ww_mx
      split <;> omega
    have h2 := Nat.mul_le_mul_right w h1
    rw [Nat.one_mul] at h2
    omega
  · rw [if_neg c22]
    by_cases c23 : tk_now ts s = (Int8.ofInt 23).toInt32
    · rcases c with c | c | c | c
      · rw [c] at c23
        exact absurd c23 (by decide)
      · rw [c] at c23
        exact absurd c23 (by decide)
      · exact absurd c c22
      · exact Or.inl (hb c.1)
    · rw [if_neg c23]
      by_cases c24 : tk_now ts s = (Int8.ofInt 24).toInt32
      · rcases c with c | c | c | c
        · rw [c] at c24
          exact absurd c24 (by decide)
        · rw [c] at c24
          exact absurd c24 (by decide)
        · exact absurd c c22
        · exact Or.inl (hb c.1)
      · rw [if_neg c24]
        exact Or.inr (Nat.le_refl _)
theorem rw_rp {ts : List wt_t} {n x : Nat} {b : Bool} {S : rn_N} {s : wt_q} {xs : List Nat} (h : rw_o S (x :: xs)) (h2 : rw_2 S) (hb : b = true → rn_w S x ≤ 40) : rw_o (sm_rp ts n b S x s).1 ((sm_rp ts n b S x s).2.1 :: xs) := by
  by_cases c : rc_is ts b s
  · by_cases c2 : rc_bad ts s
    · rw [sm_rp_2 c c2]
      exact h
    · rw [sm_rp_3 c c2]
      refine rw_mk h (fun z hz hzn => ?_) (fun _ => Or.inr List.mem_cons_self)
      rcases List.mem_cons.mp hz with e | e
      · subst e
        rcases rc_w_1 c (h2 z hzn) hb with g | g
        · exact Or.inr (Or.inl g)
        · exact Or.inr (Or.inr ⟨List.mem_cons_self, g⟩)
      · exact Or.inl (List.mem_cons_of_mem _ e)
  · rw [sm_rp_1 c]
    exact h
theorem rw_1 {ts : List wt_t} {n b : Nat} {S : rn_N} {js xs : List Nat} {o : Nat} {s : wt_q} {it : Bool} (h : rw_o S xs) (h2 : rw_2 S) : rw_o (sm_1 ts n b (S, js, xs, o, s, it)).1 (sm_1 ts n b (S, js, xs, o, s, it)).2.2.1 := by
  cases it with
  | true =>
    show rw_o (sm_it ts n S js xs o s).1 (sm_it ts n S js xs o s).2.2.1
    unfold sm_it
    split
    · split
      · exact h
      · exact h
    · have e1 : rn_w (sm_c ts n S s) (rn_n S) = 1 := rn_mk_a.2.1
      refine rw_rp (rw_mk h (fun z hz _ => Or.inl (List.mem_cons_of_mem _ hz)) (fun _ => Or.inr List.mem_cons_self)) (rw_2_mk h2 (by decide)) (fun _ => by rw [e1]; decide)
  | false =>
    show rw_o (sm_en ts n b S js xs o s).1 (sm_en ts n b S js xs o s).2.2.1
    unfold sm_en
    split
    · exact (rw_rj h h2).1
    · split
      · obtain ⟨g1, g2⟩ := rw_rj (rank := 1) (js := js) h h2
        generalize (rj 1 js S xs).1 = js1 at *
        generalize (rj 1 js S xs).2.1 = S1 at *
        generalize (rj 1 js S xs).2.2 = xs1 at *
        unfold sm_cl
        split
        · exact g1
        · refine rw_rp ?_ g2 (fun z => by cases z)
          intro y hy hr
          rcases g1 y hy hr with g | ⟨z, z1, z2, z3⟩
          · exact Or.inl g
          · refine Or.inr ⟨z, ?_, z2, z3⟩
            cases xs1 with
            | nil => exact absurd z1 (by simp)
            | cons a l => exact z1
      · exact h
theorem rw_run {ts : List wt_t} {n b z e : Nat} (hv : ∀ y, y ∈ ts → pr_vt y) (hl : ts.length ≤ 401) : ∀ (f : Nat) (S : rn_N) (js xs : List Nat) (o : Nat) (s : wt_q) (it : Bool), sm_I ts z e S js xs o s it → s.2 = none → rw_o S xs → (sm_run ts n b f (S, js, xs, o, s, it)).2.2.2.2.1.2 = none → rw_o (sm_run ts n b f (S, js, xs, o, s, it)).1 (sm_run ts n b f (S, js, xs, o, s, it)).2.2.1 := by
  intro f
  induction f with
  | zero => exact fun S js xs o s it _ _ h _ => h
  | succ f ih =>
    intro S js xs o s it hI hs h hn
    by_cases hj0 : js = []
    · rw [sm_run_no (fun w => (sm_go_iff.mp w).1 hj0)]
      exact h
    · rw [sm_run_at (sm_go_iff.mpr ⟨hj0, hs⟩)] at hn ⊢
      have hw := rw_1 (ts := ts) (n := n) (b := b) (js := js) (o := o) (s := s) (it := it) h hI.1.2.2
      generalize h2 : sm_1 ts n b (S, js, xs, o, s, it) = x at hn hw ⊢
      obtain ⟨S2, js2, xs2, o2, s2, it2⟩ := x
      by_cases hf2 : s2.2 = none
      · obtain ⟨a1, a2, a3, a4⟩ := sm_1_I hv hl hI hs hj0 h2 hf2
        exact ih S2 js2 xs2 o2 s2 it2 a1 hf2 hw hn
      · rw [sm_run_no (fun w => hf2 (sm_go_iff.mp w).2)] at hn
        exact absurd hn hf2
/-- all row nodes are light -/
def rw_a (S : rn_N) : Prop := ∀ y, y < rn_n S → nq_row (rn_k S y) → rn_w S y ≤ 40
theorem rw_a_o {S : rn_N} {xs : List Nat} (h : rw_a S) : rw_o S xs := fun y hy hr => Or.inl (h y hy hr)
theorem rw_o_a {S : rn_N} (h : rw_o S []) : rw_a S := fun y hy hr => (h y hy hr).elim id (fun ⟨z, z1, _⟩ => absurd z1 (by simp))
theorem rw_m {S : rn_N} {x : nq_N} (h : rw_a S) (hr : ¬ nq_row (nq_k x)) : rw_a (rn_m S x) := rw_o_a (rw_mk (xs := []) (rw_a_o h) (fun z hz => absurd hz (by simp)) (fun z => (hr z).elim))
theorem rw_c {ts : List wt_t} {n : Nat} {S : rn_N} {s : wt_q} (h : rw_a S) : rw_a (sm_c ts n S s) := rw_o_a (rw_mk (xs := []) (rw_a_o h) (fun z hz => absurd hz (by simp)) (fun _ => Or.inl (by decide)))
theorem rw_fin {ts : List wt_t} {n z e : Nat} {S : rn_N} {s : wt_q} (hv : ∀ y, y ∈ ts → pr_vt y) (hl : ts.length ≤ 401) (hS : rn_i S) (h : rw_a S) (hn : tk_now ts s = (Int8.ofInt 13).toInt32) (hz : z ≤ 20) (he : rn_n S + e ≤ s.1) (hf : (sq_fin ts n z S s).2.2.2.2.1.2 = none) : rw_a (sq_fin ts n z S s).1 := by
  obtain ⟨S2, y, s2, c1, c2, c3, c4, c5, c6, c7, c8⟩ := sq_fin_ok (z := z) (e := e) hv hl hS hn hz he hf
  have key : rw_o (sq_fin ts n z S s).1 (sq_fin ts n z S s).2.2.1 := by
    obtain ⟨a1, a2, a3⟩ := tk_ad1 (s := s) (ts := ts) (by rw [hn]; decide)
    unfold sq_fin sq_0 at hf ⊢
    by_cases c : z < 20
    · rw [if_pos c] at hf ⊢
      exact rw_run (z := z) (e := e) hv hl 402 S [0] [] (z + 1) (tk_adv ts s) true (sq_0_I (n := n) hS hn c he) (by rw [a2]) (rw_a_o h) hf
    · rw [if_neg c] at hf ⊢
      rw [sm_run_no (fun w => by
        have := (sm_go_iff.mp w).2
        rw [tk_rf1 a1] at this
        cases this)]
      exact rw_a_o h
  rw [c1] at key ⊢
  intro a ha hr
  rcases key a ha hr with g | ⟨q, q1, q2, q3⟩
  · exact g
  · have q1 : q ∈ [y] := q1
    rw [List.mem_singleton.mp q1] at q3
    have q3 : rn_w S2 a ≤ rn_w S2 y := q3
    show rn_w S2 a ≤ 40
    omega
theorem rw_step {ts : List wt_t} {n : Nat} {S : rn_N} {fr : List ap_F} {p : Option Nat} {o : Nat} {s : wt_q} {sq : List Nat} (hv : ∀ y, y ∈ ts → pr_vt y) (hl : ts.length ≤ 401) (h : ap_I ts S fr p o s sq) (hs : s.2 = none) (hw : rw_a S) (hf : (ap_t (ap_1 ts n (S, fr, p, o, s, sq, false))).2 = none) (hk : ap_fk fr) : rw_a (ap_1 ts n (S, fr, p, o, s, sq, false)).1 := by
  obtain ⟨i1, iq, i2, i3, i4, i5, i6, i7, i8⟩ := h
  cases p with
  | none =>
    have hf : (ap_t (ap_b ts n S fr o s sq)).2 = none := hf
    show rw_a (ap_b ts n S fr o s sq).1
    unfold ap_b at hf ⊢
    by_cases c1 : tk_now ts s = (Int8.ofInt 26).toInt32
    · rw [if_pos c1]
      exact hw
    rw [if_neg c1] at hf ⊢
    by_cases c2 : tk_now ts s = (Int8.ofInt 28).toInt32
    · rw [if_pos c2]
      exact hw
    rw [if_neg c2] at hf ⊢
    by_cases c3 : tk_now ts s = (Int8.ofInt 27).toInt32
    · rw [if_pos c3] at hf ⊢
      obtain ⟨a1, a2, a3⟩ := tk_ad1 (s := s) (ts := ts) (by rw [c3]; decide)
      have a21 : (tk_adv ts s).1 = s.1 + 1 := by rw [a2]
      unfold ap_nv at hf ⊢
      by_cases c4 : tk_now ts (tk_adv ts s) = (Int8.ofInt 13).toInt32
      · rw [if_pos c4] at hf ⊢
        exact rw_m (rw_fin (z := o) (e := fr.length) hv hl i1 hw c4 i5 (by rw [a21]; omega) hf) (nq_no (by show 11 < 23 ∨ _; omega))
      · rw [if_neg c4]
        exact hw
    rw [if_neg c3] at hf ⊢
    by_cases c4 : tk_now ts s = (Int8.ofInt 13).toInt32
    · rw [if_pos c4] at hf ⊢
      have hfin : (sq_fin ts n o S s).2.2.2.2.1.2 = none := by
        generalize sq_fin ts n o S s = r at hf ⊢
        unfold ap_sq at hf
        by_cases c5 : tk_now ts r.2.2.2.2.1 = (Int8.ofInt 18).toInt32
        · exact (tk_ad1 (ts := ts) (s := r.2.2.2.2.1) (by rw [c5]; decide)).1
        rw [if_neg c5] at hf
        by_cases c6 : tk_now ts r.2.2.2.2.1 = (Int8.ofInt 19).toInt32
        · exact (tk_ad1 (ts := ts) (s := r.2.2.2.2.1) (by rw [c6]; decide)).1
        rw [if_neg c6] at hf
        exact hf
      have g := rw_fin (z := o) (e := fr.length) hv hl i1 hw c4 i5 (by omega) hfin
      generalize sq_fin ts n o S s = r at hf g ⊢
      unfold ap_sq
      split
      · exact g
      split
      · exact g
      · exact rw_m g (nq_no (Or.inr (Or.inr rfl)))
    rw [if_neg c4] at hf ⊢
    by_cases c5 : tk_now ts s = (Int8.ofInt 15).toInt32
    · rw [if_pos c5]
      split
      · exact hw
      · exact hw
    rw [if_neg c5]
    unfold ap_cd
    split
    · exact rw_c hw
    · exact rw_c hw
  | some x =>
    show rw_a (ap_e ts n S x o s sq fr).1
    cases fr with
    | nil => exact hw
    | cons f fr =>
      obtain ⟨h1, h2⟩ := ap_fk_t hk
      show rw_a (ap_e1 ts n S x o s sq f fr).1
      unfold ap_e1
      split
      · exact rw_m hw (nq_no (by show 15 < 23 ∨ _; omega))
      split
      · exact rw_m hw h1
      split
      · exact hw
      split
      · exact rw_m (rw_c hw) (nq_no (by show 13 < 23 ∨ _; omega))
      split
      · exact rw_m (rw_c hw) (nq_no (by show 14 < 23 ∨ _; omega))
      · exact hw
theorem rw_ap {ts : List wt_t} {n : Nat} (hv : ∀ y, y ∈ ts → pr_vt y) (hl : ts.length ≤ 401) : ∀ (f : Nat) (S : rn_N) (fr : List ap_F) (p : Option Nat) (o : Nat) (s : wt_q) (sq : List Nat) (d : Bool), ap_I ts S fr p o s sq → s.2 = none → ap_fk fr → rw_a S → rn_y S → (ap_t (ap_run ts n f (S, fr, p, o, s, sq, d))).2 = none → rw_a (ap_run ts n f (S, fr, p, o, s, sq, d)).1 := by
  intro f
  induction f with
  | zero => exact fun S fr p o s sq d _ _ _ h _ _ => h
  | succ f ih =>
    intro S fr p o s sq d hI hs hk hw hy hn
    cases d with
    | true =>
      rw [ap_run_no (fun w => by cases (ap_go_iff.mp w).1)]
      exact hw
    | false =>
      rw [ap_run_at (ap_go_iff.mpr ⟨rfl, hs⟩)] at hn ⊢
      have g := rw_step (n := n) hv hl hI hs hw
      have k : ap_fk (ap_1 ts n (S, fr, p, o, s, sq, false)).2.1 ∧ rn_y (ap_1 ts n (S, fr, p, o, s, sq, false)).1 := by
        cases p with
        | none =>
          obtain ⟨a, b⟩ := rn_y_b (ts := ts) (n := n) (o := o) (s := s) (sq := sq) hy hk
          exact ⟨b, a⟩
        | some x =>
          obtain ⟨a, b⟩ := rn_y_e (ts := ts) (n := n) (x := x) (o := o) (s := s) (sq := sq) (fr := fr) hy hk
          exact ⟨b, a⟩
      generalize h2 : ap_1 ts n (S, fr, p, o, s, sq, false) = y at hn g k ⊢
      obtain ⟨S2, fr2, p2, o2, s2, sq2, d2⟩ := y
      by_cases hf2 : s2.2 = none
      · obtain ⟨a1, a2, a3, a4⟩ := ap_1_I hv hl hI hs h2 hf2
        exact ih S2 fr2 p2 o2 s2 sq2 d2 a1 hf2 k.1 (g hf2 hk) k.2 hn
      · rw [ap_run_no (fun w => hf2 (ap_go_iff.mp w).2)] at hn
        exact absurd hn hf2
/-- a property that was read has light rows alone -/
theorem rw_all {ts : List wt_t} {n : Nat} (hv : ∀ y, y ∈ ts → pr_vt y) (hl : ts.length ≤ 401) (hf : (ap_t (ap_fin ts n)).2 = none) : rw_a (ap_fin ts n).1 := rw_ap hv hl _ _ _ _ _ _ _ _ ap_I_0 rfl (fun f hf => absurd hf (by simp)) (fun y hy => absurd hy (Nat.not_lt_zero _)) rn_y_0 hf
theorem rn_w_1 {S : rn_N} (hi : rn_i S) (hg : rn_y S) : ∀ x, x < rn_n S → nq_row (rn_k S x) → 1 ≤ rn_w S x := by
  intro x
  induction x using Nat.strongRecOn with
  | ind x ih =>
    intro hx hr
    have hr' : nq_row (nq_k (rn_d S x)) := hr
    obtain ⟨g1, g2, g3⟩ := hg x hx hr'
    by_cases c60 : nq_k (rn_d S x) = 60
    · rw [g2 c60]
      exact Nat.le_refl _
    obtain ⟨⟨w1, w1r⟩, w2, w3, w4, w5⟩ := hi.2.1 x hx hr' c60
    have g3 := g3 c60 w1 (fun z => (w2 z).1)
    have iA := ih _ w1 (by omega) w1r
    unfold rn_we at g3
    rw [if_neg c60] at g3
    rw [g3]
    clear g3 g2 ih w2 w3 w4
    generalize rn_w S (nq_l (rn_d S x)) = a at *
    generalize rn_w S (nq_r (rn_d S x)) = b at *
    unfold nq_row at hr'
    by_cases c26 : nq_k (rn_d S x) = 26
    · rw [if_pos c26]
      have e : 1 ≤ (a + 1) * (b + 1) := Nat.mul_pos (Nat.succ_pos _) (Nat.succ_pos _)
      omega
    rw [if_neg c26]
    by_cases c25 : nq_k (rn_d S x) < 26
    · rw [if_pos c25]
      omega
    rw [if_neg c25]
    by_cases c42 : nq_k (rn_d S x) = 42
    · rw [if_pos c42]
      have e : 1 ≤ ww_mx (nq_b (rn_d S x)) * a := Nat.mul_pos (by unfold ww_mx; split <;> omega) iA
      omega
    rw [if_neg c42]
    by_cases c43 : nq_k (rn_d S x) = 43
    · rw [if_pos c43]
      have := w5 c43
      omega
    rw [if_neg c43]
    by_cases c44 : nq_k (rn_d S x) = 44
    · rw [if_pos c44]
      omega
    rw [if_neg c44]
    exact iA
/-- counts are small -/
theorem rn_ab {S : rn_N} (hi : rn_i S) (hg : rn_y S) (hw : rw_a S) (x : Nat) (hx : x < rn_n S) (hr : nq_row (rn_k S x)) : (rn_k S x = 42 → nq_b (rn_d S x) < 10000) ∧ (43 ≤ rn_k S x ∧ rn_k S x ≤ 44 → nq_a (rn_d S x) < 10000) := by
  have hr' : nq_row (nq_k (rn_d S x)) := hr
  obtain ⟨g1, g2, g3⟩ := hg x hx hr'
  have hw1 := hw x hx hr
  constructor
  · intro c42
    have c42 : nq_k (rn_d S x) = 42 := c42
    obtain ⟨⟨w1, w1r⟩, w2, w3, w4, w5⟩ := hi.2.1 x hx hr' (by omega)
    have g3 := g3 (by omega) w1 (fun z => (w2 z).1)
    have iA := rn_w_1 hi hg _ (show nq_l (rn_d S x) < rn_n S by omega) w1r
    unfold rn_we at g3
    rw [if_neg (by omega), if_neg (by omega), if_neg (by omega), if_pos c42] at g3
    rw [g3] at hw1
    generalize rn_w S (nq_l (rn_d S x)) = a at *
    have e : ww_mx (nq_b (rn_d S x)) * 1 ≤ ww_mx (nq_b (rn_d S x)) * a := Nat.mul_le_mul_left _ iA
    have e2 : nq_b (rn_d S x) ≤ ww_mx (nq_b (rn_d S x)) := by
      unfold ww_mx
      split <;> omega
    generalize ww_mx (nq_b (rn_d S x)) * a = q at *
    omega
  · intro c4
    have c4 : 43 ≤ nq_k (rn_d S x) ∧ nq_k (rn_d S x) ≤ 44 := c4
    obtain ⟨⟨w1, w1r⟩, w2, w3, w4, w5⟩ := hi.2.1 x hx hr' (by omega)
    have g3 := g3 (by omega) w1 (fun z => (w2 z).1)
    unfold rn_we at g3
    rw [if_neg (by omega), if_neg (by omega), if_neg (by omega), if_neg (by omega)] at g3
    by_cases c43 : nq_k (rn_d S x) = 43
    · rw [if_pos c43] at g3
      omega
    · rw [if_neg c43, if_pos (by omega)] at g3
      omega
