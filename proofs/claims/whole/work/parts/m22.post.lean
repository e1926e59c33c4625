/-! ===== nodes in post-order ===== -/
section PO
/-- lo y: the first node of the tree below y; nodes lie in post-order -/
def po_1 (S : rn_N) (lo : Nat → Nat) (y : Nat) : Prop := lo y ≤ y ∧ (rn_k S y = 60 → lo y = y) ∧ (¬ rn_k S y = 60 → lo y = lo (nq_l (rn_d S y)) ∧ nq_l (rn_d S y) < y ∧ (nq_two (rn_k S y) → nq_r (rn_d S y) + 1 = y ∧ lo (nq_r (rn_d S y)) = nq_l (rn_d S y) + 1) ∧ (¬ nq_two (rn_k S y) → nq_l (rn_d S y) + 1 = y))
def po_c (lo : Nat → Nat) : Nat → List Nat → Prop
  | _, [] => True
  | x, y :: l => lo x = y + 1 ∧ po_c lo y l
def po_x (S : rn_N) (lo : Nat → Nat) : List Nat → Prop
  | [] => True
  | x :: l => x + 1 = rn_n S ∧ po_c lo x l
def po_N (S : rn_N) (lo : Nat → Nat) : Prop := ∀ y, y < rn_n S → nq_row (rn_k S y) → po_1 S lo y
def po_S (S : rn_N) (lo : Nat → Nat) (xs : List Nat) : Prop := po_N S lo ∧ po_x S lo xs ∧ rn_x S xs
def po_u (lo : Nat → Nat) (a v : Nat) : Nat → Nat := fun i => if i = a then v else lo i
theorem po_u_at {lo : Nat → Nat} {a v : Nat} : po_u lo a v a = v := if_pos rfl
theorem po_u_no {lo : Nat → Nat} {a v i : Nat} (h : ¬ i = a) : po_u lo a v i = lo i := if_neg h
theorem po_mk {S : rn_N} {x : nq_N} {w v : Nat} {h : Nat → Bool} {lo : Nat → Nat} (hS : po_N S lo) (hn : nq_row (nq_k x) → v ≤ rn_n S ∧ (nq_k x = 60 → v = rn_n S) ∧ (¬ nq_k x = 60 → v = lo (nq_l x) ∧ nq_l x < rn_n S ∧ (nq_two (nq_k x) → nq_r x + 1 = rn_n S ∧ lo (nq_r x) = nq_l x + 1) ∧ (¬ nq_two (nq_k x) → nq_l x + 1 = rn_n S))) : po_N (rn_mk S x w h) (po_u lo (rn_n S) v) := by
  intro y hy hr
  have hy : y < rn_n S + 1 := hy
  unfold po_1
  by_cases e : y = rn_n S
  · subst e
    rw [rn_mk_k] at hr ⊢
    rw [rn_mk_a.1, po_u_at]
    obtain ⟨h1, h2, h3⟩ := hn hr
    refine ⟨h1, h2, fun z => ?_⟩
    obtain ⟨g1, g2, g3, g4⟩ := h3 z
    refine ⟨by rw [po_u_no (by omega)]; exact g1, g2, fun t => ?_, g4⟩
    obtain ⟨k1, k2⟩ := g3 t
    exact ⟨k1, by rw [po_u_no (by omega)]; exact k2⟩
  · have hy2 : y < rn_n S := by omega
    rw [rn_mk_kk hy2] at hr ⊢
    rw [(rn_mk_d hy2).1, po_u_no e]
    obtain ⟨h1, h2, h3⟩ := hS y hy2 hr
    refine ⟨h1, h2, fun z => ?_⟩
    obtain ⟨g1, g2, g3, g4⟩ := h3 z
    refine ⟨by rw [po_u_no (by omega)]; exact g1, g2, fun t => ?_, g4⟩
    obtain ⟨k1, k2⟩ := g3 t
    exact ⟨k1, by rw [po_u_no (by omega)]; exact k2⟩
theorem po_c_u {lo : Nat → Nat} {a v : Nat} : ∀ {l : List Nat} {x : Nat}, x < a → (∀ y, y ∈ l → y < a) → po_c lo x l → po_c (po_u lo a v) x l
  | [], x, _, _, _ => trivial
  | y :: l, x, hx, hl, h => by
    obtain ⟨h1, h2⟩ := h
    exact ⟨by rw [po_u_no (by omega)]; exact h1, po_c_u (hl y List.mem_cons_self) (fun z hz => hl z (List.mem_cons_of_mem _ hz)) h2⟩
theorem po_rx {S : rn_N} {x : nq_N} {w : Nat} {h : Nat → Bool} {xs : List Nat} (hx : rn_x S xs) : rn_x (rn_mk S x w h) xs := fun y hy => by
  obtain ⟨h1, h2⟩ := hx y hy
  exact ⟨Nat.lt_succ_of_lt h1, by rw [rn_mk_kk h1]; exact h2⟩
theorem po_rx1 {S : rn_N} {x : nq_N} {w : Nat} {h : Nat → Bool} {xs : List Nat} (hx : rn_x S xs) (hr : nq_row (nq_k x)) : rn_x (rn_mk S x w h) (rn_n S :: xs) := fun y hy => by
  rcases List.mem_cons.mp hy with e | e
  · rw [e]
    exact ⟨Nat.lt_succ_self _, by rw [rn_mk_k]; exact hr⟩
  · exact po_rx hx y e
theorem po_rj {rank : Nat} : ∀ {js xs : List Nat} {S : rn_N} {lo : Nat → Nat}, (∀ r, r ∈ js → r ≤ 4) → po_S S lo xs → ∃ lo2, po_S (rj rank js S xs).2.1 lo2 (rj rank js S xs).2.2
  | [], [], S, lo, _, h => ⟨lo, h⟩
  | [], [y], S, lo, _, h => ⟨lo, h⟩
  | [], y :: x :: l, S, lo, _, h => ⟨lo, h⟩
  | r :: js, [], S, lo, _, h => ⟨lo, h⟩
  | r :: js, [y], S, lo, _, h => ⟨lo, h⟩
  | r :: js, y :: x :: l, S, lo, hj, h => by
    by_cases c : 1 ≤ r ∧ rank ≤ r
    · rw [rj_at c]
      obtain ⟨h1, ⟨h2, h3, h4⟩, h5⟩ := h
      have hr4 := hj r List.mem_cons_self
      obtain ⟨y1, y2⟩ := h5 y List.mem_cons_self
      obtain ⟨x1, x2⟩ := h5 x (List.mem_cons_of_mem _ List.mem_cons_self)
      have hxl := (h1 x x1 x2).1
      have hyl := (h1 y y1 y2).1
      have hl5 : rn_x S l := rn_x_t (rn_x_t h5)
      have hk : nq_k ((22 + r, x, y, 0, 0) : nq_N) = 22 + r := rfl
      refine po_rj (S := rj_1 S r y x) (xs := rn_n S :: l) (lo := po_u lo (rn_n S) (lo x)) (fun r2 hr2 => hj r2 (List.mem_cons_of_mem _ hr2)) ⟨po_mk h1 (fun _ => ⟨by omega, fun z => by rw [hk] at z; omega, fun _ => ⟨rfl, x1, fun _ => ⟨h2, h3⟩, fun z => absurd (show nq_two (nq_k ((22 + r, x, y, 0, 0) : nq_N)) by unfold nq_two; rw [hk]; omega) z⟩⟩), ⟨rfl, ?_⟩, po_rx1 hl5 (by rw [hk]; unfold nq_row; omega)⟩
      cases l with
      | nil => trivial
      | cons a l =>
        obtain ⟨h6, h7⟩ := h4
        exact ⟨by rw [po_u_at]; exact h6, po_c_u (hl5 a List.mem_cons_self).1 (fun z hz => (hl5 z (List.mem_cons_of_mem _ hz)).1) h7⟩
    · rw [rj_no c]
      exact ⟨lo, h⟩
theorem sm_kd_b {ts : List wt_t} {s : wt_q} : 40 ≤ sm_kd ts s ∧ sm_kd ts s ≤ 44 := by
  unfold sm_kd
  split
  · omega
  split
  · omega
  split
  · omega
  split <;> omega
theorem po_rp {ts : List wt_t} {n x : Nat} {b : Bool} {S : rn_N} {s : wt_q} {xs : List Nat} {lo : Nat → Nat} (h : po_S S lo (x :: xs)) : ∃ lo2, po_S (sm_rp ts n b S x s).1 lo2 ((sm_rp ts n b S x s).2.1 :: xs) := by
  by_cases c : rc_is ts b s
  · by_cases c2 : rc_bad ts s
    · rw [sm_rp_2 c c2]
      exact ⟨lo, h⟩
    · rw [sm_rp_3 c c2]
      obtain ⟨h1, ⟨h2, h3⟩, h5⟩ := h
      obtain ⟨x1, x2⟩ := h5 x List.mem_cons_self
      have hxl := (h1 x x1 x2).1
      have hb := sm_kd_b (ts := ts) (s := s)
      have hl5 : rn_x S xs := rn_x_t h5
      have hk : nq_k ((sm_kd ts s, x, 0, (tk_low ts s.1).toNatClampNeg, (tk_high ts s.1).toNatClampNeg) : nq_N) = sm_kd ts s := rfl
      refine ⟨po_u lo (rn_n S) (lo x), po_mk h1 (fun _ => ⟨by omega, fun z => by rw [hk] at z; omega, fun _ => ⟨rfl, x1, fun z => by rw [hk] at z; unfold nq_two at z; omega, fun _ => h2⟩⟩), ⟨rfl, ?_⟩, po_rx1 hl5 (by rw [hk]; unfold nq_row; omega)⟩
      cases xs with
      | nil => trivial
      | cons a l =>
        obtain ⟨h6, h7⟩ := h3
        exact ⟨by rw [po_u_at]; exact h6, po_c_u (hl5 a List.mem_cons_self).1 (fun z hz => (hl5 z (List.mem_cons_of_mem _ hz)).1) h7⟩
  · rw [sm_rp_1 c]
    exact ⟨lo, h⟩
theorem po_cd {ts : List wt_t} {n : Nat} {S : rn_N} {s : wt_q} {xs : List Nat} {lo : Nat → Nat} (h : po_S S lo xs) : ∃ lo2, po_S (sm_c ts n S s) lo2 (rn_n S :: xs) := by
  obtain ⟨h1, h2, h5⟩ := h
  refine ⟨po_u lo (rn_n S) (rn_n S), po_mk h1 (fun _ => ⟨Nat.le_refl _, fun _ => rfl, fun z => absurd rfl z⟩), ⟨rfl, ?_⟩, po_rx1 h5 (Or.inl rfl)⟩
  cases xs with
  | nil => trivial
  | cons a l =>
    obtain ⟨h6, h7⟩ := h2
    exact ⟨by rw [po_u_at]; exact h6.symm, po_c_u (h5 a List.mem_cons_self).1 (fun z hz => (h5 z (List.mem_cons_of_mem _ hz)).1) h7⟩
theorem rj_ne {rank : Nat} : ∀ {js xs : List Nat} {S : rn_N}, ¬ xs = [] → ¬ (rj rank js S xs).2.2 = []
  | [], [], S, h => h
  | [], [y], S, h => h
  | [], y :: x :: l, S, h => h
  | r :: js, [], S, h => h
  | r :: js, [y], S, h => h
  | r :: js, y :: x :: l, S, h => by
    by_cases c : 1 ≤ r ∧ rank ≤ r
    · rw [rj_at c]
      exact rj_ne (by simp)
    · rw [rj_no c]
      exact h
theorem po_1s {ts : List wt_t} {n b : Nat} {S : rn_N} {js xs : List Nat} {o : Nat} {s : wt_q} {it : Bool} {lo : Nat → Nat} (h : po_S S lo xs) (hj : ∀ r, r ∈ js → r ≤ 4) (hx : it = false → ¬ xs = []) : ∃ lo2, po_S (sm_1 ts n b (S, js, xs, o, s, it)).1 lo2 (sm_1 ts n b (S, js, xs, o, s, it)).2.2.1 := by
  cases it with
  | true =>
    show ∃ lo2, po_S (sm_it ts n S js xs o s).1 lo2 (sm_it ts n S js xs o s).2.2.1
    unfold sm_it
    split
    · split
      · exact ⟨lo, h⟩
      · exact ⟨lo, h⟩
    · obtain ⟨lo2, h2⟩ := po_cd (ts := ts) (n := n) (s := s) h
      exact po_rp h2
  | false =>
    show ∃ lo2, po_S (sm_en ts n b S js xs o s).1 lo2 (sm_en ts n b S js xs o s).2.2.1
    unfold sm_en
    split
    · exact po_rj hj h
    · split
      · obtain ⟨lo1, g1⟩ := po_rj (rank := 1) (js := js) hj h
        have ne := rj_ne (rank := 1) (js := js) (S := S) (hx rfl)
        generalize (rj 1 js S xs).1 = js1 at *
        generalize (rj 1 js S xs).2.1 = S1 at *
        generalize (rj 1 js S xs).2.2 = xs1 at *
        unfold sm_cl
        split
        · exact ⟨lo1, g1⟩
        · cases xs1 with
          | nil => exact absurd rfl ne
          | cons a l => exact po_rp (x := a) (xs := l) g1
      · exact ⟨lo, h⟩
theorem po_run {ts : List wt_t} {n b z e : Nat} (hv : ∀ y, y ∈ ts → pr_vt y) (hl : ts.length ≤ 401) : ∀ (f : Nat) (S : rn_N) (js xs : List Nat) (o : Nat) (s : wt_q) (it : Bool), sm_I ts z e S js xs o s it → s.2 = none → (∃ lo, po_S S lo xs) → (sm_run ts n b f (S, js, xs, o, s, it)).2.2.2.2.1.2 = none → ∃ lo, po_S (sm_run ts n b f (S, js, xs, o, s, it)).1 lo (sm_run ts n b f (S, js, xs, o, s, it)).2.2.1 := by
  intro f
  induction f with
  | zero => exact fun S js xs o s it _ _ h _ => h
  | succ f ih =>
    intro S js xs o s it hI hs h hn
    by_cases hj0 : js = []
    · rw [sm_run_no (fun w => (sm_go_iff.mp w).1 hj0)]
      exact h
    · rw [sm_run_at (sm_go_iff.mpr ⟨hj0, hs⟩)] at hn ⊢
      obtain ⟨lo, h⟩ := h
      have hw := po_1s (ts := ts) (n := n) (b := b) (js := js) (o := o) (s := s) (it := it) h hI.2.2.1 (fun z1 z2 => by
        have hlen := hI.2.2.2.2.1
        rw [z1, z2] at hlen
        have hlen : 0 = pj_n js + 1 := hlen
        omega)
      generalize h2 : sm_1 ts n b (S, js, xs, o, s, it) = x at hn hw ⊢
      obtain ⟨S2, js2, xs2, o2, s2, it2⟩ := x
      by_cases hf2 : s2.2 = none
      · obtain ⟨a1, a2, a3, a4⟩ := sm_1_I hv hl hI hs hj0 h2 hf2
        exact ih S2 js2 xs2 o2 s2 it2 a1 hf2 hw hn
      · rw [sm_run_no (fun w => hf2 (sm_go_iff.mp w).2)] at hn
        exact absurd hn hf2
/-- all nodes lie in post-order -/
def po_a (S : rn_N) : Prop := ∃ lo, po_N S lo
theorem po_a_S {S : rn_N} (h : po_a S) : ∃ lo, po_S S lo [] := by
  obtain ⟨lo, h⟩ := h
  exact ⟨lo, h, trivial, fun y hy => absurd hy (by simp)⟩
theorem po_m {S : rn_N} {x : nq_N} (h : po_a S) (hr : ¬ nq_row (nq_k x)) : po_a (rn_m S x) := by
  obtain ⟨lo, h⟩ := h
  exact ⟨po_u lo (rn_n S) 0, po_mk h (fun z => (hr z).elim)⟩
theorem po_cc {ts : List wt_t} {n : Nat} {S : rn_N} {s : wt_q} (h : po_a S) : po_a (sm_c ts n S s) := by
  obtain ⟨lo, h⟩ := po_a_S h
  obtain ⟨lo2, h2⟩ := po_cd (ts := ts) (n := n) (s := s) h
  exact ⟨lo2, h2.1⟩
theorem po_fin {ts : List wt_t} {n z e : Nat} {S : rn_N} {s : wt_q} (hv : ∀ y, y ∈ ts → pr_vt y) (hl : ts.length ≤ 401) (hS : rn_i S) (h : po_a S) (hn : tk_now ts s = (Int8.ofInt 13).toInt32) (hz : z ≤ 20) (he : rn_n S + e ≤ s.1) (hf : (sq_fin ts n z S s).2.2.2.2.1.2 = none) : po_a (sq_fin ts n z S s).1 := by
  have key : ∃ lo, po_S (sq_fin ts n z S s).1 lo (sq_fin ts n z S s).2.2.1 := by
    obtain ⟨a1, a2, a3⟩ := tk_ad1 (s := s) (ts := ts) (by rw [hn]; decide)
    unfold sq_fin sq_0 at hf ⊢
    by_cases c : z < 20
    · rw [if_pos c] at hf ⊢
      exact po_run (z := z) (e := e) hv hl 402 S [0] [] (z + 1) (tk_adv ts s) true (sq_0_I (n := n) hS hn c he) (by rw [a2]) (po_a_S h) hf
    · rw [if_neg c] at hf ⊢
      rw [sm_run_no (fun w => by
        have := (sm_go_iff.mp w).2
        rw [tk_rf1 a1] at this
        cases this)]
      exact po_a_S h
  obtain ⟨lo, k⟩ := key
  exact ⟨lo, k.1⟩
theorem po_step {ts : List wt_t} {n : Nat} {S : rn_N} {fr : List ap_F} {p : Option Nat} {o : Nat} {s : wt_q} {sq : List Nat} (hv : ∀ y, y ∈ ts → pr_vt y) (hl : ts.length ≤ 401) (h : ap_I ts S fr p o s sq) (hs : s.2 = none) (hw : po_a S) (hf : (ap_t (ap_1 ts n (S, fr, p, o, s, sq, false))).2 = none) (hk : ap_fk fr) : po_a (ap_1 ts n (S, fr, p, o, s, sq, false)).1 := by
  obtain ⟨i1, iq, i2, i3, i4, i5, i6, i7, i8⟩ := h
  cases p with
  | none =>
    have hf : (ap_t (ap_b ts n S fr o s sq)).2 = none := hf
    show po_a (ap_b ts n S fr o s sq).1
    unfold ap_b at hf ⊢
    by_cases c1 : tk_now ts s = (Int8.ofInt 26).toInt32
    · rw [if_pos c1]
      exact hw
    rw [if_neg c1] at hf ⊢
    by_cases c2 : tk_now ts s = (Int8.ofInt 28).toInt32
    · rw [if_pos c2]
      exact hw
    rw [if_neg c2] at hf ⊢
    by_cases c3 : tk_now ts s = (Int8.ofInt 27).toInt32
    · rw [if_pos c3] at hf ⊢
      obtain ⟨a1, a2, a3⟩ := tk_ad1 (s := s) (ts := ts) (by rw [c3]; decide)
      have a21 : (tk_adv ts s).1 = s.1 + 1 := by rw [a2]
      unfold ap_nv at hf ⊢
      by_cases c4 : tk_now ts (tk_adv ts s) = (Int8.ofInt 13).toInt32
      · rw [if_pos c4] at hf ⊢
        exact po_m (po_fin (z := o) (e := fr.length) hv hl i1 hw c4 i5 (by rw [a21]; omega) hf) (nq_no (by show 11 < 23 ∨ _; omega))
      · rw [if_neg c4]
        exact hw
    rw [if_neg c3] at hf ⊢
    by_cases c4 : tk_now ts s = (Int8.ofInt 13).toInt32
    · rw [if_pos c4] at hf ⊢
      have hfin : (sq_fin ts n o S s).2.2.2.2.1.2 = none := by
        generalize sq_fin ts n o S s = r at hf ⊢
        unfold ap_sq at hf
        by_cases c5 : tk_now ts r.2.2.2.2.1 = (Int8.ofInt 18).toInt32
        · exact (tk_ad1 (ts := ts) (s := r.2.2.2.2.1) (by rw [c5]; decide)).1
        rw [if_neg c5] at hf
        by_cases c6 : tk_now ts r.2.2.2.2.1 = (Int8.ofInt 19).toInt32
        · exact (tk_ad1 (ts := ts) (s := r.2.2.2.2.1) (by rw [c6]; decide)).1
        rw [if_neg c6] at hf
        exact hf
      have g := po_fin (z := o) (e := fr.length) hv hl i1 hw c4 i5 (by omega) hfin
      generalize sq_fin ts n o S s = r at hf g ⊢
      unfold ap_sq
      split
      · exact g
      split
      · exact g
      · exact po_m g (nq_no (Or.inr (Or.inr rfl)))
    rw [if_neg c4] at hf ⊢
    by_cases c5 : tk_now ts s = (Int8.ofInt 15).toInt32
    · rw [if_pos c5]
      split
      · exact hw
      · exact hw
    rw [if_neg c5]
    unfold ap_cd
    split
    · exact po_cc hw
    · exact po_cc hw
  | some x =>
    show po_a (ap_e ts n S x o s sq fr).1
    cases fr with
    | nil => exact hw
    | cons f fr =>
      obtain ⟨h1, h2⟩ := ap_fk_t hk
      show po_a (ap_e1 ts n S x o s sq f fr).1
      unfold ap_e1
      split
      · exact po_m hw (nq_no (by show 15 < 23 ∨ _; omega))
      split
      · exact po_m hw h1
      split
      · exact hw
      split
      · exact po_m (po_cc hw) (nq_no (by show 13 < 23 ∨ _; omega))
      split
      · exact po_m (po_cc hw) (nq_no (by show 14 < 23 ∨ _; omega))
      · exact hw
theorem po_ap {ts : List wt_t} {n : Nat} (hv : ∀ y, y ∈ ts → pr_vt y) (hl : ts.length ≤ 401) : ∀ (f : Nat) (S : rn_N) (fr : List ap_F) (p : Option Nat) (o : Nat) (s : wt_q) (sq : List Nat) (d : Bool), ap_I ts S fr p o s sq → s.2 = none → ap_fk fr → po_a S → rn_y S → (ap_t (ap_run ts n f (S, fr, p, o, s, sq, d))).2 = none → po_a (ap_run ts n f (S, fr, p, o, s, sq, d)).1 := by
  intro f
  induction f with
  | zero => exact fun S fr p o s sq d _ _ _ h _ _ => h
  | succ f ih =>
    intro S fr p o s sq d hI hs hk hw hy hn
    cases d with
    | true =>
      rw [ap_run_no (fun w => by cases (ap_go_iff.mp w).1)]
      exact hw
    | false =>
      rw [ap_run_at (ap_go_iff.mpr ⟨rfl, hs⟩)] at hn ⊢
      have g := po_step (n := n) hv hl hI hs hw
      have k : ap_fk (ap_1 ts n (S, fr, p, o, s, sq, false)).2.1 ∧ rn_y (ap_1 ts n (S, fr, p, o, s, sq, false)).1 := by
        cases p with
        | none =>
          obtain ⟨a, b⟩ := rn_y_b (ts := ts) (n := n) (o := o) (s := s) (sq := sq) hy hk
          exact ⟨b, a⟩
        | some x =>
          obtain ⟨a, b⟩ := rn_y_e (ts := ts) (n := n) (x := x) (o := o) (s := s) (sq := sq) (fr := fr) hy hk
          exact ⟨b, a⟩
      generalize h2 : ap_1 ts n (S, fr, p, o, s, sq, false) = y at hn g k ⊢
      obtain ⟨S2, fr2, p2, o2, s2, sq2, d2⟩ := y
      by_cases hf2 : s2.2 = none
      · obtain ⟨a1, a2, a3, a4⟩ := ap_1_I hv hl hI hs h2 hf2
        exact ih S2 fr2 p2 o2 s2 sq2 d2 a1 hf2 k.1 (g hf2 hk) k.2 hn
      · rw [ap_run_no (fun w => hf2 (ap_go_iff.mp w).2)] at hn
        exact absurd hn hf2
/-- a property that was read has its rows in post-order -/
theorem po_all {ts : List wt_t} {n : Nat} (hv : ∀ y, y ∈ ts → pr_vt y) (hl : ts.length ≤ 401) (hf : (ap_t (ap_fin ts n)).2 = none) : po_a (ap_fin ts n).1 := po_ap hv hl _ _ _ _ _ _ _ _ ap_I_0 rfl (fun f hf => absurd hf (by simp)) ⟨fun _ => 0, fun y hy => absurd hy (Nat.not_lt_zero _)⟩ rn_y_0 hf
end PO
