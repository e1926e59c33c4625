/-! ===== a property being read ===== -/
/-- frames of the reference: sort, node, count -/
abbrev ap_F : Type := Nat × Nat × Nat
/-- a property being read: nodes, frames, operand, what is open, tokens, sequences, whether it is done -/
abbrev ap_S : Type := rn_N × List ap_F × Option Nat × Nat × wt_q × List Nat × Bool
def ap_t (x : ap_S) : wt_q := x.2.2.2.2.1
def rn_m (S : rn_N) (x : nq_N) : rn_N := rn_mk S x 0 (fun _ => false)
def ap_c (ts : List wt_t) (s : wt_q) : Nat := if tk_now ts (tk_adv ts s) = (Int8.ofInt 25).toInt32 then (tk_low ts (tk_adv ts s).1).toNatClampNeg else 1
def ap_cs (ts : List wt_t) (s : wt_q) : wt_q := if tk_now ts (tk_adv ts s) = (Int8.ofInt 25).toInt32 then tk_adv ts (tk_adv ts s) else tk_adv ts s
def ap_nv (ts : List wt_t) (n : Nat) (S : rn_N) (fr : List ap_F) (o : Nat) (s : wt_q) (sq : List Nat) : ap_S :=
  if tk_now ts s = (Int8.ofInt 13).toInt32 then (rn_m (sq_fin ts n o S s).1 (11, (sq_fin ts n o S s).2.2.1.headD 0, 0, 0, 0), fr, some (rn_n (sq_fin ts n o S s).1), (sq_fin ts n o S s).2.2.2.1, (sq_fin ts n o S s).2.2.2.2.1, sq ++ [(sq_fin ts n o S s).2.2.1.headD 0], false)
  else (S, fr, none, o, tk_ref ts n s, sq, false)
def ap_sq (ts : List wt_t) (fr : List ap_F) (sq : List Nat) (r : sm_S) : ap_S :=
  if tk_now ts r.2.2.2.2.1 = (Int8.ofInt 18).toInt32 then (r.1, (32, r.2.2.1.headD 0, 0) :: fr, none, r.2.2.2.1, tk_adv ts r.2.2.2.2.1, sq ++ [r.2.2.1.headD 0], false)
  else if tk_now ts r.2.2.2.2.1 = (Int8.ofInt 19).toInt32 then (r.1, (33, r.2.2.1.headD 0, 0) :: fr, none, r.2.2.2.1, tk_adv ts r.2.2.2.2.1, sq ++ [r.2.2.1.headD 0], false)
  else (rn_m r.1 (61, r.2.2.1.headD 0, 0, 0, 0), fr, some (rn_n r.1), r.2.2.2.1, r.2.2.2.2.1, sq ++ [r.2.2.1.headD 0], false)
def ap_cd (ts : List wt_t) (n : Nat) (S : rn_N) (fr : List ap_F) (o : Nat) (s : wt_q) (sq : List Nat) : ap_S :=
  if tk_now ts (cd_all ts n s).2.2 = (Int8.ofInt 17).toInt32 then (sm_c ts n S s, (31, rn_n S, 0) :: fr, none, o, tk_adv ts (cd_all ts n s).2.2, sq, false)
  else (sm_c ts n S s, fr, some (rn_n S), o, (cd_all ts n s).2.2, sq, false)
/-- a property begun -/
def ap_b (ts : List wt_t) (n : Nat) (S : rn_N) (fr : List ap_F) (o : Nat) (s : wt_q) (sq : List Nat) : ap_S :=
  if tk_now ts s = (Int8.ofInt 26).toInt32 then (S, (10, 0, 0) :: fr, none, o, tk_adv ts s, sq, false)
  else if tk_now ts s = (Int8.ofInt 28).toInt32 then (S, (12, 0, ap_c ts s) :: fr, none, o, ap_cs ts s, sq, false)
  else if tk_now ts s = (Int8.ofInt 27).toInt32 then ap_nv ts n S fr o (tk_adv ts s) sq
  else if tk_now ts s = (Int8.ofInt 13).toInt32 then ap_sq ts fr sq (sq_fin ts n o S s)
  else if tk_now ts s = (Int8.ofInt 15).toInt32 then (if o < 20 then (S, (29, 0, 0) :: fr, none, o + 1, tk_adv ts s, sq, false) else (S, fr, none, o, tk_ref ts n s, sq, false))
  else ap_cd ts n S fr o s sq
def ap_u (ts : List wt_t) (n k : Nat) (S : rn_N) (fr : List ap_F) (x o : Nat) (s : wt_q) (sq : List Nat) : ap_S :=
  (rn_m (sm_c ts n S (tk_adv ts s)) (k, x, rn_n S, 0, 0), fr, some (rn_n S + 1), o - 1, tk_take ts n ((Int8.ofInt 16).toInt32) (cd_all ts n (tk_adv ts s)).2.2, sq, false)
/-- a property ended -/
def ap_e1 (ts : List wt_t) (n : Nat) (S : rn_N) (x o : Nat) (s : wt_q) (sq : List Nat) (f : ap_F) (fr : List ap_F) : ap_S :=
  if f.1 = 15 then (rn_m S (15, f.2.1, x, 0, 0), fr, some (rn_n S), o - 1, tk_take ts n ((Int8.ofInt 16).toInt32) s, sq, false)
  else if ¬ f.1 = 29 then (rn_m S (f.1, if f.1 = 10 ∨ f.1 = 12 then x else f.2.1, x, f.2.2, 0), fr, some (rn_n S), o, s, sq, false)
  else if tk_now ts s = (Int8.ofInt 31).toInt32 then (S, (15, x, 0) :: fr, none, o, tk_adv ts s, sq, false)
  else if tk_now ts s = (Int8.ofInt 29).toInt32 then ap_u ts n 13 S fr x o s sq
  else if tk_now ts s = (Int8.ofInt 30).toInt32 ∧ rn_k S x = 60 then ap_u ts n 14 S fr x o s sq
  else (S, fr, some x, o, tk_ref ts n s, sq, false)
def ap_e (ts : List wt_t) (n : Nat) (S : rn_N) (x o : Nat) (s : wt_q) (sq : List Nat) : List ap_F → ap_S
  | [] => (S, [], some x, o, tk_take ts n (Int32.ofInt 0) s, sq, true)
  | f :: fr => ap_e1 ts n S x o s sq f fr
def ap_1 (ts : List wt_t) (n : Nat) (y : ap_S) : ap_S := match y.2.2.1 with
  | none => ap_b ts n y.1 y.2.1 y.2.2.2.1 y.2.2.2.2.1 y.2.2.2.2.2.1
  | some x => ap_e ts n y.1 x y.2.2.2.1 y.2.2.2.2.1 y.2.2.2.2.2.1 y.2.1
def ap_go (y : ap_S) : Bool := !y.2.2.2.2.2.2 && y.2.2.2.2.1.2.isNone
def ap_run (ts : List wt_t) (n : Nat) : Nat → ap_S → ap_S
  | 0, y => y
  | f + 1, y => if ap_go y = true then ap_run ts n f (ap_1 ts n y) else y
theorem ap_run_at {ts : List wt_t} {n f : Nat} {y : ap_S} (h : ap_go y = true) : ap_run ts n (f + 1) y = ap_run ts n f (ap_1 ts n y) := if_pos h
theorem ap_run_no {ts : List wt_t} {n f : Nat} {y : ap_S} (h : ¬ ap_go y = true) : ap_run ts n f y = y := by
  cases f with
  | zero => rfl
  | succ f => exact if_neg h
theorem ap_go_iff {S : rn_N} {fr : List ap_F} {p : Option Nat} {o : Nat} {s : wt_q} {sq : List Nat} {d : Bool} : ap_go (S, fr, p, o, s, sq, d) = true ↔ d = false ∧ s.2 = none := by
  unfold ap_go
  show (!d && s.2.isNone) = true ↔ _
  cases d <;> simp
/-- parens among the frames -/
def ap_o : List ap_F → Nat
  | [] => 0
  | f :: fr => (if f.1 = 29 ∨ f.1 = 15 then 1 else 0) + ap_o fr
/-- what a frame may be -/
def ap_f1 (S : rn_N) (f : ap_F) : Prop := f.2.2 ≤ 9 ∧ (f.1 = 10 ∨ f.1 = 12 ∨ f.1 = 29 ∨ (f.1 = 31 ∧ f.2.1 < rn_n S ∧ rn_k S f.2.1 = 60) ∨ ((f.1 = 32 ∨ f.1 = 33) ∧ f.2.1 < rn_n S ∧ nq_row (rn_k S f.2.1) ∧ rn_w S f.2.1 ≤ 40) ∨ (f.1 = 15 ∧ f.2.1 < rn_n S ∧ fl_prop (rn_k S f.2.1)))
def ap_fr (S : rn_N) (fr : List ap_F) : Prop := ∀ f, f ∈ fr → ap_f1 S f
/-- what a node of a property may be -/
def rn_q1 (S : rn_N) (c : Nat) (x : nq_N) : Prop := nq_k x < 100 ∧ (fl_prop (nq_k x) → (tr_L (nq_k x) → nq_l x < c ∧ fl_prop (rn_k S (nq_l x))) ∧ (tr_R (nq_k x) → nq_r x < c ∧ fl_prop (rn_k S (nq_r x))) ∧ (tr_S (nq_k x) → nq_l x < c ∧ nq_row (rn_k S (nq_l x)) ∧ rn_w S (nq_l x) ≤ 40) ∧ (nq_k x = 31 ∨ nq_k x = 14 → nq_l x < c ∧ rn_k S (nq_l x) = 60) ∧ (nq_k x = 13 ∨ nq_k x = 14 → nq_r x < c ∧ rn_k S (nq_r x) = 60) ∧ (nq_k x = 12 → nq_a x ≤ 9))
def rn_q (S : rn_N) : Prop := ∀ n, n < rn_n S → rn_q1 S n (rn_d S n)
theorem rn_E_k {S S2 : rn_N} (h : rn_E S S2) {x : Nat} (hx : x < rn_n S) : rn_k S2 x = rn_k S x ∧ rn_w S2 x = rn_w S x ∧ rn_t S2 x = rn_t S x ∧ rn_h S2 x = rn_h S x ∧ rn_d S2 x = rn_d S x := by
  obtain ⟨a1, a2, a3⟩ := h.2 x hx
  refine ⟨?_, congrArg Prod.fst a1, congrArg Prod.snd a1, a3, a2⟩
  unfold rn_k
  rw [a2]
theorem rn_q1_E {S S2 : rn_N} (h : rn_E S S2) {c : Nat} {x : nq_N} (hc : c ≤ rn_n S) (hq : rn_q1 S c x) : rn_q1 S2 c x := by
  refine ⟨hq.1, fun hf => ?_⟩
  obtain ⟨q1, q2, q3, q4, q5, q6⟩ := hq.2 hf
  refine ⟨fun z => ?_, fun z => ?_, fun z => ?_, fun z => ?_, fun z => ?_, q6⟩
  · obtain ⟨a, b⟩ := q1 z
    exact ⟨a, by rw [(rn_E_k h (Nat.lt_of_lt_of_le a hc)).1]; exact b⟩
  · obtain ⟨a, b⟩ := q2 z
    exact ⟨a, by rw [(rn_E_k h (Nat.lt_of_lt_of_le a hc)).1]; exact b⟩
  · obtain ⟨a, b, c1⟩ := q3 z
    obtain ⟨e1, e2, _⟩ := rn_E_k h (Nat.lt_of_lt_of_le a hc)
    exact ⟨a, by rw [e1]; exact b, by rw [e2]; exact c1⟩
  · obtain ⟨a, b⟩ := q4 z
    exact ⟨a, by rw [(rn_E_k h (Nat.lt_of_lt_of_le a hc)).1]; exact b⟩
  · obtain ⟨a, b⟩ := q5 z
    exact ⟨a, by rw [(rn_E_k h (Nat.lt_of_lt_of_le a hc)).1]; exact b⟩
theorem rn_q_mk {S : rn_N} {x : nq_N} {w : Nat} {h : Nat → Bool} (hq : rn_q S) (hx : rn_q1 S (rn_n S) x) : rn_q (rn_mk S x w h) := by
  intro n hn
  have hn : n < rn_n S + 1 := hn
  by_cases e : n = rn_n S
  · subst e
    rw [rn_mk_a.1]
    exact rn_q1_E rn_E_mk (Nat.le_refl _) hx
  · rw [(rn_mk_d (show n < rn_n S by omega)).1]
    exact rn_q1_E rn_E_mk (by omega) (hq n (by omega))
theorem ap_fr_E {S S2 : rn_N} (h : rn_E S S2) {fr : List ap_F} (hf : ap_fr S fr) : ap_fr S2 fr := by
  intro f hm
  obtain ⟨c9, hh⟩ := hf f hm
  have hle := h.1
  refine ⟨c9, ?_⟩
  rcases hh with g | g | g | ⟨g, a, b⟩ | ⟨g, a, b, b2⟩ | ⟨g, a, b⟩
  · exact Or.inl g
  · exact Or.inr (Or.inl g)
  · exact Or.inr (Or.inr (Or.inl g))
  · exact Or.inr (Or.inr (Or.inr (Or.inl ⟨g, by omega, by rw [(rn_E_k h a).1]; exact b⟩)))
  · exact Or.inr (Or.inr (Or.inr (Or.inr (Or.inl ⟨g, by omega, by rw [(rn_E_k h a).1]; exact b, by rw [(rn_E_k h a).2.1]; exact b2⟩))))
  · exact Or.inr (Or.inr (Or.inr (Or.inr (Or.inr ⟨g, by omega, by rw [(rn_E_k h a).1]; exact b⟩))))
/-- a row node is no node of a property, but for conditions -/
theorem nq_fl {k : Nat} (h : nq_row k) (h2 : fl_prop k) : k = 60 := by
  unfold nq_row at h
  unfold fl_prop at h2
  omega
theorem rn_q_row {S : rn_N} {c : Nat} {x : nq_N} (h : nq_row (nq_k x)) : rn_q1 S c x := by
  refine ⟨by unfold nq_row at h; omega, fun hf => ?_⟩
  have := nq_fl h hf
  unfold tr_L tr_R tr_S
  refine ⟨fun z => ?_, fun z => ?_, fun z => ?_, fun z => ?_, fun z => ?_, fun z => ?_⟩ <;> omega
theorem rn_q_rj {rank : Nat} : ∀ {js xs : List Nat} {S : rn_N}, rn_q S → (∀ r, r ∈ js → r ≤ 4) → rn_q (rj rank js S xs).2.1
  | [], [], S, h, _ => h
  | [], [y], S, h, _ => h
  | [], y :: x :: l, S, h, _ => h
  | r :: js, [], S, h, _ => h
  | r :: js, [y], S, h, _ => h
  | r :: js, y :: x :: l, S, h, hj => by
    by_cases c : 1 ≤ r ∧ rank ≤ r
    · rw [rj_at c]
      have h4 := hj r List.mem_cons_self
      exact rn_q_rj (S := rj_1 S r y x) (xs := rn_n S :: l) (rn_q_mk h (rn_q_row (Or.inr (Or.inl ⟨(by show 23 ≤ 22 + r; omega), (by show 22 + r ≤ 26; omega)⟩)))) (fun q hq => hj q (List.mem_cons_of_mem _ hq))
    · rw [rj_no c]
      exact h
theorem rn_q_rp {ts : List wt_t} {n x : Nat} {b : Bool} {S : rn_N} {s : wt_q} (h : rn_q S) : rn_q (sm_rp ts n b S x s).1 := by
  by_cases c : rc_is ts b s
  · by_cases c2 : rc_bad ts s
    · rw [sm_rp_2 c c2]
      exact h
    · rw [sm_rp_3 c c2]
      exact rn_q_mk h (rn_q_row (sm_kd_row (ts := ts) (s := s)).1)
  · rw [sm_rp_1 c]
    exact h
theorem rn_q_c {ts : List wt_t} {n : Nat} {S : rn_N} {s : wt_q} (h : rn_q S) : rn_q (sm_c ts n S s) := rn_q_mk h (rn_q_row (Or.inl rfl))
theorem rn_q_1 {ts : List wt_t} {n b : Nat} {S : rn_N} {js xs : List Nat} {o : Nat} {s : wt_q} {it : Bool} (h : rn_q S) (hj : ∀ r, r ∈ js → r ≤ 4) : rn_q (sm_1 ts n b (S, js, xs, o, s, it)).1 := by
  cases it with
  | true =>
    show rn_q (sm_it ts n S js xs o s).1
    unfold sm_it
    split
    · split
      · exact h
      · exact h
    · exact rn_q_rp (rn_q_c h)
  | false =>
    show rn_q (sm_en ts n b S js xs o s).1
    unfold sm_en
    split
    · exact rn_q_rj h hj
    · split
      · unfold sm_cl
        split
        · exact rn_q_rj h hj
        · exact rn_q_rp (rn_q_rj h hj)
      · exact h
theorem rn_q_run {ts : List wt_t} {n b z e : Nat} (hv : ∀ y, y ∈ ts → pr_vt y) (hl : ts.length ≤ 401) : ∀ (f : Nat) (S : rn_N) (js xs : List Nat) (o : Nat) (s : wt_q) (it : Bool), sm_I ts z e S js xs o s it → rn_q S → (sm_run ts n b f (S, js, xs, o, s, it)).2.2.2.2.1.2 = none → rn_q (sm_run ts n b f (S, js, xs, o, s, it)).1 := by
  intro f
  induction f with
  | zero => exact fun S js xs o s it _ hq _ => hq
  | succ f ih =>
    intro S js xs o s it hI hq hn
    by_cases hg : sm_go (S, js, xs, o, s, it) = true
    · rw [sm_run_at hg] at hn ⊢
      obtain ⟨hj0, hs⟩ := sm_go_iff.mp hg
      have q1 := rn_q_1 (ts := ts) (n := n) (b := b) (xs := xs) (o := o) (s := s) (it := it) hq hI.2.2.1
      generalize h2 : sm_1 ts n b (S, js, xs, o, s, it) = x at hn q1 ⊢
      obtain ⟨S2, js2, xs2, o2, s2, it2⟩ := x
      by_cases hf2 : s2.2 = none
      · exact ih S2 js2 xs2 o2 s2 it2 (sm_1_I hv hl hI hs hj0 h2 hf2).1 q1 hn
      · rw [sm_run_no (fun w => hf2 (sm_go_iff.mp w).2)]
        exact q1
    · rw [sm_run_no hg]
      exact hq
theorem rn_q_fin {ts : List wt_t} {n z e : Nat} {S : rn_N} {s : wt_q} (hv : ∀ y, y ∈ ts → pr_vt y) (hl : ts.length ≤ 401) (hS : rn_i S) (hq : rn_q S) (hn : tk_now ts s = (Int8.ofInt 13).toInt32) (hz : z ≤ 20) (he : rn_n S + e ≤ s.1) (hf : (sq_fin ts n z S s).2.2.2.2.1.2 = none) : rn_q (sq_fin ts n z S s).1 := by
  unfold sq_fin sq_0 at hf ⊢
  by_cases c : z < 20
  · rw [if_pos c] at hf ⊢
    exact rn_q_run hv hl 402 S [0] [] (z + 1) (tk_adv ts s) true (sq_0_I (n := n) hS hn c he) hq hf
  · obtain ⟨a1, a2, a3⟩ := tk_ad1 (s := s) (ts := ts) (by rw [hn]; decide)
    rw [if_neg c, sm_run_no (fun w => by
      have := (sm_go_iff.mp w).2
      rw [tk_rf1 a1] at this
      cases this)] at hf
    rw [tk_rf1 a1] at hf
    cases hf
def ap_I (ts : List wt_t) (S : rn_N) (fr : List ap_F) (p : Option Nat) (o : Nat) (s : wt_q) (sq : List Nat) : Prop := rn_i S ∧ rn_q S ∧ ap_fr S fr ∧ (∀ x, p = some x → x < rn_n S ∧ fl_prop (rn_k S x) ∧ (rn_k S x = 60 → x + 1 = rn_n S)) ∧ o = ap_o fr ∧ o ≤ 20 ∧ rn_n S + fr.length ≤ s.1 ∧ s.1 ≤ ts.length ∧ ∀ y, y ∈ sq → y < rn_n S ∧ nq_row (rn_k S y) ∧ rn_w S y ≤ 40
theorem ap_eq {a a2 : rn_N} {b b2 : List ap_F} {c c2 : Option Nat} {d d2 : Nat} {e e2 : wt_q} {f f2 : List Nat} {g g2 : Bool} (h : ((a, b, c, d, e, f, g) : ap_S) = (a2, b2, c2, d2, e2, f2, g2)) : a = a2 ∧ b = b2 ∧ c = c2 ∧ d = d2 ∧ e = e2 ∧ f = f2 ∧ g = g2 := by
  cases h
  exact ⟨rfl, rfl, rfl, rfl, rfl, rfl, rfl⟩
theorem tk_take_ok {ts : List wt_t} {n : Nat} {k : Int32} {s : wt_q} (h : (tk_take ts n k s).2 = none) (hk : ¬ k = Int32.ofInt 2) : s.2 = none ∧ tk_now ts s = k ∧ tk_take ts n k s = (s.1 + 1, none) ∧ s.1 + 1 ≤ ts.length := by
  by_cases hs : s.2 = none
  · by_cases c : tk_now ts s = k
    · obtain ⟨a1, a2, a3⟩ := tk_ad1 (s := s) (ts := ts) (by rw [c]; exact hk)
      exact ⟨hs, c, (if_pos c).trans a2, a3⟩
    · have e : tk_take ts n k s = tk_ref ts n s := if_neg c
      rw [e, tk_rf1 hs] at h
      cases h
  · have c : ¬ tk_now ts s = k := by
      rw [tk_now_f hs]
      exact fun z => hk z.symm
    have e : tk_take ts n k s = tk_ref ts n s := if_neg c
    rw [e] at h
    obtain ⟨a, f⟩ := s
    cases f with
    | none => exact absurd rfl hs
    | some z => exact absurd h (by intro z; cases z)
theorem sq_E {S S2 : rn_N} (hE : rn_E S S2) {sq : List Nat} (h : ∀ y, y ∈ sq → y < rn_n S ∧ nq_row (rn_k S y) ∧ rn_w S y ≤ 40) : ∀ y, y ∈ sq → y < rn_n S2 ∧ nq_row (rn_k S2 y) ∧ rn_w S2 y ≤ 40 := fun y hy => by
  obtain ⟨a, b, c⟩ := h y hy
  obtain ⟨e1, e2, _⟩ := rn_E_k hE a
  exact ⟨Nat.lt_of_lt_of_le a hE.1, by rw [e1]; exact b, by rw [e2]; exact c⟩
theorem sq_E1 {S S2 : rn_N} (hE : rn_E S S2) {sq : List Nat} {x : Nat} (h : ∀ y, y ∈ sq → y < rn_n S ∧ nq_row (rn_k S y) ∧ rn_w S y ≤ 40) (hx : x < rn_n S2 ∧ nq_row (rn_k S2 x) ∧ rn_w S2 x ≤ 40) : ∀ y, y ∈ sq ++ [x] → y < rn_n S2 ∧ nq_row (rn_k S2 y) ∧ rn_w S2 y ≤ 40 := fun y hy => by
  rcases List.mem_append.mp hy with w | w
  · exact sq_E hE h y w
  · rw [List.mem_singleton.mp w]
    exact hx
theorem rn_m_i {S : rn_N} {x : nq_N} (hS : rn_i S) (hr : ¬ nq_row (nq_k x)) : rn_i (rn_m S x) := rn_mk_i hS (by decide) (fun z => absurd z hr)
theorem ap_fr1 {S : rn_N} {fr : List ap_F} {f : ap_F} (h : ap_f1 S f) (hf : ap_fr S fr) : ap_fr S (f :: fr) := fun g hg => by
  rcases List.mem_cons.mp hg with e | e
  · rw [e]; exact h
  · exact hf g e
theorem rn_m_p {S : rn_N} {x : nq_N} (hp : fl_prop (nq_k x)) (h6 : ¬ nq_k x = 60) : ∀ z, some (rn_n S) = some z → z < rn_n (rn_m S x) ∧ fl_prop (rn_k (rn_m S x) z) ∧ (rn_k (rn_m S x) z = 60 → z + 1 = rn_n (rn_m S x)) := by
  intro z hz
  cases hz
  have e : rn_k (rn_m S x) (rn_n S) = nq_k x := rn_mk_k
  rw [e]
  exact ⟨Nat.lt_succ_self _, hp, fun z => absurd z h6⟩
/-- a step that finds no fault keeps it -/
theorem ap_1_I {ts : List wt_t} {n : Nat} {S : rn_N} {fr : List ap_F} {p : Option Nat} {o : Nat} {s : wt_q} {sq : List Nat} (hv : ∀ y, y ∈ ts → pr_vt y) (hl : ts.length ≤ 401) (h : ap_I ts S fr p o s sq) (hs : s.2 = none) {S2 : rn_N} {fr2 : List ap_F} {p2 : Option Nat} {o2 : Nat} {s2 : wt_q} {sq2 : List Nat} {d2 : Bool} (h2 : ap_1 ts n (S, fr, p, o, s, sq, false) = (S2, fr2, p2, o2, s2, sq2, d2)) (hf : s2.2 = none) : ap_I ts S2 fr2 p2 o2 s2 sq2 ∧ rn_E S S2 ∧ (d2 = false → 3 * (402 - s2.1) + fr2.length < 3 * (402 - s.1) + fr.length) ∧ s.1 ≤ s2.1 := by
  obtain ⟨i1, iq, i2, i3, i4, i5, i6, i7, i8⟩ := h
  cases p with
  | none =>
    have h2 : ap_b ts n S fr o s sq = (S2, fr2, p2, o2, s2, sq2, d2) := h2
    have np : ∀ x, (none : Option Nat) = some x → x < rn_n S ∧ fl_prop (rn_k S x) ∧ (rn_k S x = 60 → x + 1 = rn_n S) := fun x hx => by cases hx
    have npS : ∀ (S : rn_N) x, (none : Option Nat) = some x → x < rn_n S ∧ fl_prop (rn_k S x) ∧ (rn_k S x = 60 → x + 1 = rn_n S) := fun _ x hx => by cases hx
    unfold ap_b at h2
    by_cases c1 : tk_now ts s = (Int8.ofInt 26).toInt32
    · rw [if_pos c1] at h2
      obtain ⟨rfl, rfl, rfl, rfl, rfl, rfl, rfl⟩ := ap_eq h2
      obtain ⟨a1, a2, a3⟩ := tk_ad1 (s := s) (ts := ts) (by rw [c1]; decide)
      rw [a2]
      refine ⟨⟨i1, iq, ap_fr1 ⟨show (0 : Nat) ≤ 9 by decide, Or.inl rfl⟩ i2, np, ?_, i5, ?_, a3, i8⟩, rn_E_id _, fun _ => ?_, Nat.le_succ _⟩
      · show o = 0 + ap_o fr
        omega
      · show rn_n S + (fr.length + 1) ≤ s.1 + 1
        omega
      · show 3 * (402 - (s.1 + 1)) + (fr.length + 1) < _
        omega
    rw [if_neg c1] at h2
    by_cases c2 : tk_now ts s = (Int8.ofInt 28).toInt32
    · rw [if_pos c2] at h2
      obtain ⟨rfl, rfl, rfl, rfl, rfl, rfl, rfl⟩ := ap_eq h2
      obtain ⟨a1, a2, a3⟩ := tk_ad1 (s := s) (ts := ts) (by rw [c2]; decide)
      have hc : ap_c ts s ≤ 9 := by
        unfold ap_c
        split
        · rename_i c25
          obtain ⟨a, b, ha, hb, e1, e2⟩ := tk_ct (s := tk_adv ts s) hv (by rw [c25]; decide)
          rw [e1, wi_onn (by omega)]
          omega
        · decide
      have hcs : s.1 + 1 ≤ (ap_cs ts s).1 ∧ (ap_cs ts s).1 ≤ ts.length := by
        unfold ap_cs
        split
        · rename_i c25
          obtain ⟨b1, b2, b3⟩ := tk_ad1 (s := tk_adv ts s) (ts := ts) (by rw [c25]; decide)
          rw [b2]
          rw [a2] at b3 ⊢
          exact ⟨Nat.le_succ _, b3⟩
        · rw [a2]
          exact ⟨Nat.le_refl _, a3⟩
      refine ⟨⟨i1, iq, ap_fr1 ⟨hc, Or.inr (Or.inl rfl)⟩ i2, np, ?_, i5, ?_, hcs.2, i8⟩, rn_E_id _, fun _ => ?_, by omega⟩
      · show o = 0 + ap_o fr
        omega
      · show rn_n S + (fr.length + 1) ≤ (ap_cs ts s).1
        omega
      · show 3 * (402 - (ap_cs ts s).1) + (fr.length + 1) < _
        omega
    rw [if_neg c2] at h2
    by_cases c3 : tk_now ts s = (Int8.ofInt 27).toInt32
    · rw [if_pos c3] at h2
      obtain ⟨a1, a2, a3⟩ := tk_ad1 (s := s) (ts := ts) (by rw [c3]; decide)
      have a21 : (tk_adv ts s).1 = s.1 + 1 := by rw [a2]
      have a22 : (tk_adv ts s).2 = none := by rw [a2]
      unfold ap_nv at h2
      by_cases c4 : tk_now ts (tk_adv ts s) = (Int8.ofInt 13).toInt32
      · rw [if_pos c4] at h2
        obtain ⟨rfl, rfl, rfl, rfl, rfl, rfl, rfl⟩ := ap_eq h2
        obtain ⟨S3, y, s3, b1, b2, b3, b4, b5, b6, b7, b8, b9, b10⟩ := sq_fin_ok (z := o) (e := fr.length) hv hl i1 c4 i5 (by rw [a21]; omega) hf
        have bq := rn_q_fin (z := o) (e := fr.length) hv hl i1 iq c4 i5 (by rw [a21]; omega) hf
        rw [b1] at bq ⊢
        have hrow : ¬ nq_row 11 := by unfold nq_row; omega
        have bE := rn_E_tr b6 (rn_E_mk (x := (11, y, 0, 0, 0)) (w := 0) (h := fun _ => false))
        obtain ⟨e1, e2, _⟩ := rn_E_k (rn_E_mk (S := S3) (x := (11, y, 0, 0, 0)) (w := 0) (h := fun _ => false)) b4
        refine ⟨⟨rn_m_i b3 hrow, rn_q_mk bq ⟨show (11 : Nat) < 100 by decide, fun _ => ⟨fun z => ?_, fun z => ?_, fun z => ⟨b4, b5, b7⟩, fun z => ?_, fun z => ?_, fun z => ?_⟩⟩, ap_fr_E bE i2, rn_m_p (Or.inr (Or.inr (Or.inr ⟨show (10 : Nat) ≤ 11 by decide, show (11 : Nat) ≤ 15 by decide⟩))) (show ¬ (11 : Nat) = 60 by decide), i4, i5, ?_, b10, sq_E1 bE i8 ⟨Nat.lt_succ_of_lt b4, ?_, ?_⟩⟩, bE, fun _ => ?_, by show s.1 ≤ s3.1; omega⟩
        · have z : (11 : Nat) = 10 ∨ (11 : Nat) = 12 ∨ (11 : Nat) = 13 ∨ (11 : Nat) = 15 := z
          omega
        · have z : (31 ≤ 11 ∧ 11 ≤ 33) ∨ (11 : Nat) = 15 := z
          omega
        · have z : (11 : Nat) = 31 ∨ (11 : Nat) = 14 := z
          omega
        · have z : (11 : Nat) = 13 ∨ (11 : Nat) = 14 := z
          omega
        · have z : (11 : Nat) = 12 := z
          omega
        · show rn_n S3 + 1 + fr.length ≤ s3.1
          omega
        · show nq_row (rn_k (rn_m S3 (11, y, 0, 0, 0)) y)
          unfold rn_m
          rw [e1]
          exact b5
        · show rn_w (rn_m S3 (11, y, 0, 0, 0)) y ≤ 40
          unfold rn_m
          rw [e2]
          exact b7
        · show 3 * (402 - s3.1) + fr.length < _
          omega
      · rw [if_neg c4] at h2
        obtain ⟨rfl, rfl, rfl, rfl, rfl, rfl, rfl⟩ := ap_eq h2
        rw [tk_rf1 a22] at hf
        cases hf
    rw [if_neg c3] at h2
    by_cases c4 : tk_now ts s = (Int8.ofInt 13).toInt32
    · rw [if_pos c4] at h2
      by_cases hfin : (sq_fin ts n o S s).2.2.2.2.1.2 = none
      · obtain ⟨S3, y, s3, b1, b2, b3, b4, b5, b6, b7, b8, b9, b10⟩ := sq_fin_ok (z := o) (e := fr.length) hv hl i1 c4 i5 (by omega) hfin
        have bq := rn_q_fin (z := o) (e := fr.length) hv hl i1 iq c4 i5 (by omega) hfin
        rw [b1] at h2 bq
        unfold ap_sq at h2
        dsimp only [List.headD] at h2
        by_cases c5 : tk_now ts s3 = (Int8.ofInt 18).toInt32
        · rw [if_pos c5] at h2
          obtain ⟨rfl, rfl, rfl, rfl, rfl, rfl, rfl⟩ := ap_eq h2
          obtain ⟨a1, a2, a3⟩ := tk_ad1 (s := s3) (ts := ts) (by rw [c5]; decide)
          rw [a2]
          refine ⟨⟨b3, bq, ap_fr1 ⟨show (0 : Nat) ≤ 9 by decide, Or.inr (Or.inr (Or.inr (Or.inr (Or.inl ⟨Or.inl rfl, b4, b5, b7⟩))))⟩ (ap_fr_E b6 i2), npS _, ?_, i5, ?_, a3, sq_E1 b6 i8 ⟨b4, b5, b7⟩⟩, b6, fun _ => ?_, by show s.1 ≤ s3.1 + 1; omega⟩
          · show o = 0 + ap_o fr
            omega
          · show rn_n S3 + (fr.length + 1) ≤ s3.1 + 1
            omega
          · show 3 * (402 - (s3.1 + 1)) + (fr.length + 1) < _
            omega
        rw [if_neg c5] at h2
        by_cases c6 : tk_now ts s3 = (Int8.ofInt 19).toInt32
        · rw [if_pos c6] at h2
          obtain ⟨rfl, rfl, rfl, rfl, rfl, rfl, rfl⟩ := ap_eq h2
          obtain ⟨a1, a2, a3⟩ := tk_ad1 (s := s3) (ts := ts) (by rw [c6]; decide)
          rw [a2]
          refine ⟨⟨b3, bq, ap_fr1 ⟨show (0 : Nat) ≤ 9 by decide, Or.inr (Or.inr (Or.inr (Or.inr (Or.inl ⟨Or.inr rfl, b4, b5, b7⟩))))⟩ (ap_fr_E b6 i2), npS _, ?_, i5, ?_, a3, sq_E1 b6 i8 ⟨b4, b5, b7⟩⟩, b6, fun _ => ?_, by show s.1 ≤ s3.1 + 1; omega⟩
          · show o = 0 + ap_o fr
            omega
          · show rn_n S3 + (fr.length + 1) ≤ s3.1 + 1
            omega
          · show 3 * (402 - (s3.1 + 1)) + (fr.length + 1) < _
            omega
        rw [if_neg c6] at h2
        obtain ⟨rfl, rfl, rfl, rfl, rfl, rfl, rfl⟩ := ap_eq h2
        have hrow : ¬ nq_row 61 := by unfold nq_row; omega
        have bE := rn_E_tr b6 (rn_E_mk (x := (61, y, 0, 0, 0)) (w := 0) (h := fun _ => false))
        obtain ⟨e1, e2, _⟩ := rn_E_k (rn_E_mk (S := S3) (x := (61, y, 0, 0, 0)) (w := 0) (h := fun _ => false)) b4
        refine ⟨⟨rn_m_i b3 hrow, rn_q_mk bq ⟨show (61 : Nat) < 100 by decide, fun _ => ⟨fun z => ?_, fun z => ?_, fun z => ⟨b4, b5, b7⟩, fun z => ?_, fun z => ?_, fun z => ?_⟩⟩, ap_fr_E bE i2, rn_m_p (Or.inr (Or.inl rfl)) (show ¬ (61 : Nat) = 60 by decide), i4, i5, ?_, b10, sq_E1 bE i8 ⟨Nat.lt_succ_of_lt b4, ?_, ?_⟩⟩, bE, fun _ => ?_, by omega⟩
        · have z : (61 : Nat) = 10 ∨ (61 : Nat) = 12 ∨ (61 : Nat) = 13 ∨ (61 : Nat) = 15 := z
          omega
        · have z : (31 ≤ 61 ∧ 61 ≤ 33) ∨ (61 : Nat) = 15 := z
          omega
        · have z : (61 : Nat) = 31 ∨ (61 : Nat) = 14 := z
          omega
        · have z : (61 : Nat) = 13 ∨ (61 : Nat) = 14 := z
          omega
        · have z : (61 : Nat) = 12 := z
          omega
        · show rn_n S3 + 1 + fr.length ≤ s3.1
          omega
        · show nq_row (rn_k (rn_m S3 (61, y, 0, 0, 0)) y)
          unfold rn_m
          rw [e1]
          exact b5
        · show rn_w (rn_m S3 (61, y, 0, 0, 0)) y ≤ 40
          unfold rn_m
          rw [e2]
          exact b7
        · omega
      · unfold ap_sq at h2
        rw [tk_now_f hfin, if_neg (by decide), if_neg (by decide)] at h2
        obtain ⟨rfl, rfl, rfl, rfl, rfl, rfl, rfl⟩ := ap_eq h2
        exact absurd hf hfin
    rw [if_neg c4] at h2
    by_cases c5 : tk_now ts s = (Int8.ofInt 15).toInt32
    · rw [if_pos c5] at h2
      by_cases co : o < 20
      · rw [if_pos co] at h2
        obtain ⟨rfl, rfl, rfl, rfl, rfl, rfl, rfl⟩ := ap_eq h2
        obtain ⟨a1, a2, a3⟩ := tk_ad1 (s := s) (ts := ts) (by rw [c5]; decide)
        rw [a2]
        refine ⟨⟨i1, iq, ap_fr1 ⟨show (0 : Nat) ≤ 9 by decide, Or.inr (Or.inr (Or.inl rfl))⟩ i2, np, ?_, by omega, ?_, a3, i8⟩, rn_E_id _, fun _ => ?_, Nat.le_succ _⟩
        · show o + 1 = 1 + ap_o fr
          omega
        · show rn_n S + (fr.length + 1) ≤ s.1 + 1
          omega
        · show 3 * (402 - (s.1 + 1)) + (fr.length + 1) < _
          omega
      · rw [if_neg co] at h2
        obtain ⟨rfl, rfl, rfl, rfl, rfl, rfl, rfl⟩ := ap_eq h2
        rw [tk_rf1 hs] at hf
        cases hf
    rw [if_neg c5] at h2
    obtain ⟨d1, d2', d3⟩ := cd_all_b (n := n) hl i7
    have k1 : rn_i (sm_c ts n S s) := rn_mk_i i1 (by decide) (fun _ w => absurd rfl w)
    have kE : rn_E S (sm_c ts n S s) := rn_E_mk
    have k3 : rn_k (sm_c ts n S s) (rn_n S) = 60 := rn_mk_k
    have kn : rn_n (sm_c ts n S s) = rn_n S + 1 := rfl
    unfold ap_cd at h2
    by_cases c6 : tk_now ts (cd_all ts n s).2.2 = (Int8.ofInt 17).toInt32
    · rw [if_pos c6] at h2
      obtain ⟨rfl, rfl, rfl, rfl, rfl, rfl, rfl⟩ := ap_eq h2
      obtain ⟨a1, a2, a3⟩ := tk_ad1 (s := (cd_all ts n s).2.2) (ts := ts) (by rw [c6]; decide)
      have d3 := d3 a1
      rw [a2]
      refine ⟨⟨k1, rn_q_c iq, ap_fr1 ⟨show (0 : Nat) ≤ 9 by decide, Or.inr (Or.inr (Or.inr (Or.inl ⟨rfl, by show rn_n S < _; omega, k3⟩)))⟩ (ap_fr_E kE i2), npS _, ?_, i5, ?_, a3, sq_E kE i8⟩, kE, fun _ => ?_, by show s.1 ≤ (cd_all ts n s).2.2.1 + 1; omega⟩
      · show o = 0 + ap_o fr
        omega
      · show rn_n S + 1 + (fr.length + 1) ≤ (cd_all ts n s).2.2.1 + 1
        omega
      · show 3 * (402 - ((cd_all ts n s).2.2.1 + 1)) + (fr.length + 1) < _
        omega
    · rw [if_neg c6] at h2
      obtain ⟨rfl, rfl, rfl, rfl, rfl, rfl, rfl⟩ := ap_eq h2
      have d3 := d3 hf
      refine ⟨⟨k1, rn_q_c iq, ap_fr_E kE i2, fun x hx => ?_, i4, i5, by omega, d1, sq_E kE i8⟩, kE, fun _ => by omega, by omega⟩
      cases hx
      exact ⟨Nat.lt_succ_self _, by rw [k3]; exact Or.inl rfl, fun _ => rfl⟩
  | some x =>
    have h2 : ap_e ts n S x o s sq fr = (S2, fr2, p2, o2, s2, sq2, d2) := h2
    obtain ⟨hx1, hx2, hx3⟩ := i3 x rfl
    cases fr with
    | nil =>
      have h2 : (S, ([] : List ap_F), some x, o, tk_take ts n (Int32.ofInt 0) s, sq, true) = (S2, fr2, p2, o2, s2, sq2, d2) := h2
      obtain ⟨rfl, rfl, rfl, rfl, rfl, rfl, rfl⟩ := ap_eq h2
      obtain ⟨_, _, a2, a3⟩ := tk_take_ok hf (by decide)
      rw [a2]
      exact ⟨⟨i1, iq, i2, i3, i4, i5, Nat.le_succ_of_le i6, a3, i8⟩, rn_E_id _, (fun z => by cases z), Nat.le_succ _⟩
    | cons f fr =>
      have hfr : ap_fr S fr := fun g hg => i2 g (List.mem_cons_of_mem _ hg)
      obtain ⟨hf9, hf1⟩ := i2 f List.mem_cons_self
      have eo : ap_o (f :: fr) = (if f.1 = 29 ∨ f.1 = 15 then 1 else 0) + ap_o fr := rfl
      simp only [List.length_cons] at i6
      have h2 : ap_e1 ts n S x o s sq f fr = (S2, fr2, p2, o2, s2, sq2, d2) := h2
      unfold ap_e1 at h2
      by_cases c1 : f.1 = 15
      · rw [if_pos c1] at h2
        obtain ⟨rfl, rfl, rfl, rfl, rfl, rfl, rfl⟩ := ap_eq h2
        obtain ⟨_, _, a2, a3⟩ := tk_take_ok hf (by decide)
        rw [a2]
        rw [if_pos (Or.inr c1)] at eo
        have hy : f.2.1 < rn_n S ∧ fl_prop (rn_k S f.2.1) := by
          rcases hf1 with g | g | g | g | g | g
          · omega
          · omega
          · omega
          · omega
          · omega
          · exact g.2
        have hrow : ¬ nq_row 15 := by unfold nq_row; omega
        have bE : rn_E S (rn_m S (15, f.2.1, x, 0, 0)) := rn_E_mk
        refine ⟨⟨rn_m_i i1 hrow, rn_q_mk iq ⟨show (15 : Nat) < 100 by decide, fun _ => ⟨fun z => hy, fun z => ⟨hx1, hx2⟩, fun z => ?_, fun z => ?_, fun z => ?_, fun z => ?_⟩⟩, ap_fr_E bE hfr, rn_m_p (Or.inr (Or.inr (Or.inr ⟨show (10 : Nat) ≤ 15 by decide, show (15 : Nat) ≤ 15 by decide⟩))) (show ¬ (15 : Nat) = 60 by decide), by omega, by omega, ?_, a3, sq_E bE i8⟩, bE, fun _ => ?_, Nat.le_succ _⟩
        · have z : (15 : Nat) = 61 ∨ (15 : Nat) = 32 ∨ (15 : Nat) = 33 ∨ (15 : Nat) = 11 := z
          omega
        · have z : (15 : Nat) = 31 ∨ (15 : Nat) = 14 := z
          omega
        · have z : (15 : Nat) = 13 ∨ (15 : Nat) = 14 := z
          omega
        · have z : (15 : Nat) = 12 := z
          omega
        · show rn_n S + 1 + fr.length ≤ s.1 + 1
          omega
        · show 3 * (402 - (s.1 + 1)) + fr.length < _
          simp only [List.length_cons]
          omega
      rw [if_neg c1] at h2
      by_cases c2 : f.1 = 29
      · rw [if_neg (fun z => z c2)] at h2
        rw [if_pos (Or.inl c2)] at eo
        by_cases c3 : tk_now ts s = (Int8.ofInt 31).toInt32
        · rw [if_pos c3] at h2
          obtain ⟨rfl, rfl, rfl, rfl, rfl, rfl, rfl⟩ := ap_eq h2
          obtain ⟨a1, a2, a3⟩ := tk_ad1 (s := s) (ts := ts) (by rw [c3]; decide)
          rw [a2]
          refine ⟨⟨i1, iq, ap_fr1 ⟨show (0 : Nat) ≤ 9 by decide, Or.inr (Or.inr (Or.inr (Or.inr (Or.inr ⟨rfl, hx1, hx2⟩))))⟩ hfr, (fun z hz => by cases hz), ?_, i5, ?_, a3, i8⟩, rn_E_id _, fun _ => ?_, Nat.le_succ _⟩
          · show o = 1 + ap_o fr
            omega
          · show rn_n S + (fr.length + 1) ≤ s.1 + 1
            omega
          · show 3 * (402 - (s.1 + 1)) + (fr.length + 1) < _
            simp only [List.length_cons]
            omega
        rw [if_neg c3] at h2
        have un : ∀ k, (k = 13 ∨ (k = 14 ∧ rn_k S x = 60)) → ¬ tk_now ts s = Int32.ofInt 2 → ap_u ts n k S fr x o s sq = (S2, fr2, p2, o2, s2, sq2, d2) → ap_I ts S2 fr2 p2 o2 s2 sq2 ∧ rn_E S S2 ∧ (d2 = false → 3 * (402 - s2.1) + fr2.length < 3 * (402 - s.1) + (f :: fr).length) ∧ s.1 ≤ s2.1 := by
          intro k hk hn2 h2
          unfold ap_u at h2
          obtain ⟨rfl, rfl, rfl, rfl, rfl, rfl, rfl⟩ := ap_eq h2
          obtain ⟨b1, b2, b3, b4⟩ := tk_take_ok hf (by decide)
          obtain ⟨a1, a2, a3⟩ := tk_ad1 hn2
          have a21 : (tk_adv ts s).1 = s.1 + 1 := by rw [a2]
          obtain ⟨d1, d2', d3⟩ := cd_all_b (n := n) (s := tk_adv ts s) hl (by rw [a21]; exact a3)
          have d3 := d3 b1
          rw [a21] at d3
          rw [b3]
          have k1 : rn_i (sm_c ts n S (tk_adv ts s)) := rn_mk_i i1 (by decide) (fun _ w => absurd rfl w)
          have kE : rn_E S (sm_c ts n S (tk_adv ts s)) := rn_E_mk
          have k3 : rn_k (sm_c ts n S (tk_adv ts s)) (rn_n S) = 60 := rn_mk_k
          have kn : rn_n (sm_c ts n S (tk_adv ts s)) = rn_n S + 1 := rfl
          obtain ⟨kx, _⟩ := rn_E_k kE hx1
          have hrow : ¬ nq_row k := by unfold nq_row; omega
          have bE := rn_E_tr kE (rn_E_mk (x := (k, x, rn_n S, 0, 0)) (w := 0) (h := fun _ => false))
          have kk : nq_k (k, x, rn_n S, 0, 0) = k := rfl
          refine ⟨⟨rn_m_i k1 hrow, rn_q_mk (rn_q_c iq) ⟨by show k < 100; omega, fun _ => ⟨fun z => ⟨by show x < _; omega, by show fl_prop (rn_k _ x); rw [kx]; exact hx2⟩, fun z => ?_, fun z => ?_, fun z => ⟨by show x < _; omega, ?_⟩, fun z => ⟨by show rn_n S < _; omega, k3⟩, fun z => ?_⟩⟩, ap_fr_E bE hfr, ?_, by omega, by omega, ?_, b4, sq_E bE i8⟩, bE, fun _ => ?_, by show s.1 ≤ (cd_all ts n (tk_adv ts s)).2.2.1 + 1; omega⟩
          · have z : (31 ≤ k ∧ k ≤ 33) ∨ k = 15 := z
            omega
          · have z : k = 61 ∨ k = 32 ∨ k = 33 ∨ k = 11 := z
            omega
          · have z : k = 31 ∨ k = 14 := z
            show rn_k _ x = 60
            rw [kx]
            rcases hk with w | w
            · omega
            · exact w.2
          · have z : k = 12 := z
            omega
          · exact rn_m_p (S := sm_c ts n S (tk_adv ts s)) (x := (k, x, rn_n S, 0, 0)) (Or.inr (Or.inr (Or.inr ⟨by show 10 ≤ k; omega, by show k ≤ 15; omega⟩))) (by show ¬ k = 60; omega)
          · show rn_n S + 1 + 1 + fr.length ≤ (cd_all ts n (tk_adv ts s)).2.2.1 + 1
            omega
          · show 3 * (402 - ((cd_all ts n (tk_adv ts s)).2.2.1 + 1)) + fr.length < _
            simp only [List.length_cons]
            omega
        by_cases c4 : tk_now ts s = (Int8.ofInt 29).toInt32
        · rw [if_pos c4] at h2
          exact un 13 (Or.inl rfl) (by rw [c4]; decide) h2
        rw [if_neg c4] at h2
        by_cases c5 : tk_now ts s = (Int8.ofInt 30).toInt32 ∧ rn_k S x = 60
        · rw [if_pos c5] at h2
          exact un 14 (Or.inr ⟨rfl, c5.2⟩) (by rw [c5.1]; decide) h2
        rw [if_neg c5] at h2
        obtain ⟨rfl, rfl, rfl, rfl, rfl, rfl, rfl⟩ := ap_eq h2
        rw [tk_rf1 hs] at hf
        cases hf
      · rw [if_pos c2] at h2
        obtain ⟨rfl, rfl, rfl, rfl, rfl, rfl, rfl⟩ := ap_eq h2
        rw [if_neg (by omega)] at eo
        generalize hlx : (if f.1 = 10 ∨ f.1 = 12 then x else f.2.1) = lx
        have hrow : ¬ nq_row f.1 := by unfold nq_row; omega
        have bE : rn_E S (rn_m S (f.1, lx, x, f.2.2, 0)) := rn_E_mk
        have hpr : fl_prop f.1 := by
          unfold fl_prop
          omega
        refine ⟨⟨rn_m_i i1 hrow, rn_q_mk iq ⟨by show f.1 < 100; omega, fun _ => ⟨fun z => ?_, fun z => ⟨hx1, hx2⟩, fun z => ?_, fun z => ?_, fun z => ?_, fun z => hf9⟩⟩, ap_fr_E bE hfr, rn_m_p hpr (by show ¬ f.1 = 60; omega), by omega, by omega, ?_, i7, sq_E bE i8⟩, bE, fun _ => ?_, Nat.le_refl _⟩
        · have z : f.1 = 10 ∨ f.1 = 12 ∨ f.1 = 13 ∨ f.1 = 15 := z
          have e : lx = x := by
            rw [← hlx]
            exact if_pos (by omega)
          show lx < rn_n S ∧ fl_prop (rn_k S lx)
          rw [e]
          exact ⟨hx1, hx2⟩
        · have z : f.1 = 61 ∨ f.1 = 32 ∨ f.1 = 33 ∨ f.1 = 11 := z
          have e : lx = f.2.1 := by
            rw [← hlx]
            exact if_neg (by omega)
          show lx < rn_n S ∧ nq_row (rn_k S lx) ∧ rn_w S lx ≤ 40
          rw [e]
          rcases hf1 with g | g | g | g | g | g
          · omega
          · omega
          · omega
          · omega
          · exact g.2
          · omega
        · have z : f.1 = 31 ∨ f.1 = 14 := z
          have e : lx = f.2.1 := by
            rw [← hlx]
            exact if_neg (by omega)
          show lx < rn_n S ∧ rn_k S lx = 60
          rw [e]
          rcases hf1 with g | g | g | g | g | g
          · omega
          · omega
          · omega
          · exact g.2
          · omega
          · omega
        · have z : f.1 = 13 ∨ f.1 = 14 := z
          omega
        · show rn_n S + 1 + fr.length ≤ s.1
          omega
        · show 3 * (402 - s.1) + fr.length < _
          simp only [List.length_cons]
          omega
theorem ap_1_d {ts : List wt_t} {n : Nat} {S : rn_N} {fr : List ap_F} {p : Option Nat} {o : Nat} {s : wt_q} {sq : List Nat} {S2 : rn_N} {fr2 : List ap_F} {p2 : Option Nat} {o2 : Nat} {s2 : wt_q} {sq2 : List Nat} {d2 : Bool} (h2 : ap_1 ts n (S, fr, p, o, s, sq, false) = (S2, fr2, p2, o2, s2, sq2, d2)) : d2 = true → fr2 = [] ∧ ∃ x, p2 = some x := by
  cases p with
  | none =>
    have h2 : ap_b ts n S fr o s sq = (S2, fr2, p2, o2, s2, sq2, d2) := h2
    intro hd
    have : (ap_b ts n S fr o s sq).2.2.2.2.2.2 = false := by
      unfold ap_b ap_nv ap_sq ap_cd
      repeat' split
      all_goals rfl
    rw [h2] at this
    have this : d2 = false := this
    rw [hd] at this
    cases this
  | some x =>
    have h2 : ap_e ts n S x o s sq fr = (S2, fr2, p2, o2, s2, sq2, d2) := h2
    intro hd
    cases fr with
    | nil =>
      have h2 : (S, ([] : List ap_F), some x, o, tk_take ts n (Int32.ofInt 0) s, sq, true) = (S2, fr2, p2, o2, s2, sq2, d2) := h2
      obtain ⟨rfl, rfl, rfl, rfl, rfl, rfl, rfl⟩ := ap_eq h2
      exact ⟨rfl, x, rfl⟩
    | cons f fr =>
      have h2 : ap_e1 ts n S x o s sq f fr = (S2, fr2, p2, o2, s2, sq2, d2) := h2
      have : (ap_e1 ts n S x o s sq f fr).2.2.2.2.2.2 = false := by
        unfold ap_e1 ap_u
        repeat' split
        all_goals rfl
      rw [h2] at this
      have this : d2 = false := this
      rw [hd] at this
      cases this
/-- a property read to its end without a fault -/
theorem ap_run_ok {ts : List wt_t} {n : Nat} (hv : ∀ y, y ∈ ts → pr_vt y) (hl : ts.length ≤ 401) : ∀ (f : Nat) (S : rn_N) (fr : List ap_F) (p : Option Nat) (o : Nat) (s : wt_q) (sq : List Nat) (d : Bool), ap_I ts S fr p o s sq → s.2 = none → (d = false → 3 * (402 - s.1) + fr.length < f) → (d = true → fr = [] ∧ ∃ x, p = some x) → (ap_t (ap_run ts n f (S, fr, p, o, s, sq, d))).2 = none → ∃ (S2 : rn_N) (x o2 : Nat) (s2 : wt_q) (sq2 : List Nat), ap_run ts n f (S, fr, p, o, s, sq, d) = (S2, [], some x, o2, s2, sq2, true) ∧ ap_I ts S2 [] (some x) o2 s2 sq2 ∧ s2.2 = none := by
  intro f
  induction f with
  | zero =>
    intro S fr p o s sq d hI hs hf hd hn
    cases d with
    | false => exact absurd (hf rfl) (by omega)
    | true =>
      obtain ⟨rfl, x, rfl⟩ := hd rfl
      exact ⟨S, x, o, s, sq, rfl, hI, hs⟩
  | succ f ih =>
    intro S fr p o s sq d hI hs hf hd hn
    cases d with
    | true =>
      obtain ⟨rfl, x, rfl⟩ := hd rfl
      rw [ap_run_no (fun w => by cases (ap_go_iff.mp w).1)]
      exact ⟨S, x, o, s, sq, rfl, hI, hs⟩
    | false =>
      rw [ap_run_at (ap_go_iff.mpr ⟨rfl, hs⟩)] at hn ⊢
      generalize h2 : ap_1 ts n (S, fr, p, o, s, sq, false) = y at hn ⊢
      obtain ⟨S2, fr2, p2, o2, s2, sq2, d2⟩ := y
      by_cases hf2 : s2.2 = none
      · obtain ⟨a1, a2, a3, a4⟩ := ap_1_I hv hl hI hs h2 hf2
        have := hf rfl
        exact ih S2 fr2 p2 o2 s2 sq2 d2 a1 hf2 (fun z => by have := a3 z; omega) (ap_1_d h2) hn
      · rw [ap_run_no (fun w => hf2 (ap_go_iff.mp w).2)] at hn
        exact absurd hn hf2
def ap_fin (ts : List wt_t) (n : Nat) : ap_S := ap_run ts n 3000 (rn_0, [], none, 0, (0, none), [], false)
theorem ap_I_0 {ts : List wt_t} : ap_I ts rn_0 [] none 0 (0, none) [] := ⟨rn_i_0, fun x hx => absurd hx (Nat.not_lt_zero _), fun f hf => absurd hf (by simp), (fun x hx => by cases hx), rfl, by decide, Nat.le_refl _, Nat.zero_le _, fun y hy => absurd hy (by simp)⟩
/-- a step: what follows of it for the end -/
theorem ap_step {ts : List wt_t} {n f : Nat} {S : rn_N} {fr : List ap_F} {p : Option Nat} {o : Nat} {s : wt_q} {sq : List Nat} {fin : ap_S} (hv : ∀ y, y ∈ ts → pr_vt y) (hl : ts.length ≤ 401) (h : ap_I ts S fr p o s sq) (hs : s.2 = none) (hf : ap_run ts n f (S, fr, p, o, s, sq, false) = fin) (hb : 3 * (402 - s.1) + fr.length < f) {S2 : rn_N} {fr2 : List ap_F} {p2 : Option Nat} {o2 : Nat} {s2 : wt_q} {sq2 : List Nat} {d2 : Bool} (h2 : ap_1 ts n (S, fr, p, o, s, sq, false) = (S2, fr2, p2, o2, s2, sq2, d2)) : (¬ s2.2 = none → (ap_t fin).2 = s2.2) ∧ (s2.2 = none → ∃ f2, ap_run ts n f2 (S2, fr2, p2, o2, s2, sq2, d2) = fin ∧ (d2 = false → 3 * (402 - s2.1) + fr2.length < f2) ∧ ap_I ts S2 fr2 p2 o2 s2 sq2 ∧ rn_E S S2 ∧ s.1 ≤ s2.1 ∧ (d2 = false → 3 * (402 - s2.1) + fr2.length < 3 * (402 - s.1) + fr.length)) := by
  obtain ⟨f2, rfl⟩ : ∃ f2, f = f2 + 1 := ⟨f - 1, by omega⟩
  have e1 : ap_run ts n f2 (S2, fr2, p2, o2, s2, sq2, d2) = fin := by
    rw [← h2, ← ap_run_at (ap_go_iff.mpr ⟨rfl, hs⟩)]
    exact hf
  refine ⟨fun w => ?_, fun w => ?_⟩
  · rw [ap_run_no (fun z => w (ap_go_iff.mp z).2)] at e1
    rw [← e1]
    rfl
  · obtain ⟨a1, a2, a3, a4⟩ := ap_1_I hv hl h hs h2 w
    exact ⟨f2, e1, fun z => by have := a3 z; omega, a1, a2, a4, a3⟩
/-- how many tokens a scan makes -/
theorem wt_lex_len {st : Nat → Option wt_t × Nat} {n : Nat} : ∀ f p, (wt_lex st n f p).length ≤ f + 1 := by
  intro f
  induction f with
  | zero => exact fun p => Nat.le_refl _
  | succ f ih =>
    intro p
    unfold wt_lex
    split
    · split
      · rename_i t p2 _
        have := ih p2
        simp only [List.length_cons]
        omega
      · rename_i p2 _
        have := ih p2
        omega
    · simp
