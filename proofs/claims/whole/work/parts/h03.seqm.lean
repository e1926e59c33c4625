/-! ===== a sequence being read ===== -/
theorem sm_k20 : ((Int8.ofInt 20).toInt32).toInt = 20 ∧ ((Int8.ofInt 21).toInt32).toInt = 21 ∧ ((Int8.ofInt 22).toInt32).toInt = 22 ∧ ((Int8.ofInt 23).toInt32).toInt = 23 ∧ ((Int8.ofInt 24).toInt32).toInt = 24 := ⟨rfl, rfl, rfl, rfl, rfl⟩
/-- the class's repetition is a count of the nodes -/
theorem rp_sm {ts : List wt_t} {n x : Nat} {S : rn_N} {s : wt_q} {mo : Option (Nat → Bool)} (hv : ∀ y, y ∈ ts → pr_vt y) (hm : ∀ m, mo = some m → rn_h S x = m) (h34 : mo = none → ¬ (tk_now ts s = (Int8.ofInt 23).toInt32 ∨ tk_now ts s = (Int8.ofInt 24).toInt32)) :
    rp ts n mo s (rn_p S x) = (rn_p (sm_rp ts n mo.isSome S x s).1 (sm_rp ts n mo.isSome S x s).2.1, (sm_rp ts n mo.isSome S x s).2.2) := by
  obtain ⟨k20, k21, k22, k23, k24⟩ := sm_k20
  have hp : ∀ s, rn_p (sm_nd ts S x s) (rn_n S) = (rc_w ts s (rn_w S x), nt_op (sm_kd ts s, x, 0, (tk_low ts s.1).toNatClampNeg, (tk_high ts s.1).toNatClampNeg) (fun _ => false) (rn_h S x) (rn_t S x) (rn_t S 0)) := by
    intro s
    obtain ⟨a1, a2, a3, a4⟩ := rn_mk_a (S := S) (x := (sm_kd ts s, x, 0, (tk_low ts s.1).toNatClampNeg, (tk_high ts s.1).toNatClampNeg)) (w := rc_w ts s (rn_w S x)) (h := fun _ => false)
    show (rn_w (sm_nd ts S x s) (rn_n S), rn_t (sm_nd ts S x s) (rn_n S)) = _
    unfold sm_nd
    rw [a2, a4]
    rfl
  by_cases c0 : tk_now ts s = (Int8.ofInt 20).toInt32
  · have h1 : rc_is ts mo.isSome s := Or.inl c0
    have h2 : ¬ rc_bad ts s := by
      unfold rc_bad
      rw [c0]
      rintro (z | z)
      · exact absurd z.1 (by decide)
      · exact absurd z.1 (by decide)
    rw [sm_rp_3 h1 h2, hp]
    unfold rp rc_w sm_kd
    rw [c0, k20, if_pos rfl, if_pos rfl, if_neg (by decide), if_neg (by decide), if_neg (by decide)]
    rfl
  by_cases c1 : tk_now ts s = (Int8.ofInt 21).toInt32
  · have h1 : rc_is ts mo.isSome s := Or.inr (Or.inl c1)
    have h2 : ¬ rc_bad ts s := by
      unfold rc_bad
      rw [c1]
      rintro (z | z)
      · exact absurd z.1 (by decide)
      · exact absurd z.1 (by decide)
    rw [sm_rp_3 h1 h2, hp]
    unfold rp rc_w sm_kd
    rw [c1, k21, if_neg (by decide), if_pos rfl, if_neg (by decide), if_pos rfl, if_neg (by decide), if_neg (by decide), if_neg (by decide)]
    rfl
  by_cases c2 : tk_now ts s = (Int8.ofInt 22).toInt32
  · have h1 : rc_is ts mo.isSome s := Or.inr (Or.inr (Or.inl c2))
    obtain ⟨a, b, ha, hb, e1, e2⟩ := tk_ct (s := s) hv (by rw [c2]; decide)
    have hlt : tk_high ts s.1 < tk_low ts s.1 ↔ b < a := by
      rw [e1, e2, wi_lt, wi_on (by omega), wi_on (by omega)]
      omega
    by_cases h2 : rc_bad ts s
    · have h3 : b < a := by
        rcases h2 with z | z
        · exact hlt.mp z.2
        · exact absurd (c2.symm.trans z.1) (by decide)
      rw [sm_rp_2 h1 h2]
      unfold rp
      rw [c2, k22, if_neg (by decide), if_neg (by decide), if_pos rfl, e1, e2, wi_onn (by omega), wi_onn (by omega), if_pos h3]
    · have h3 : ¬ b < a := fun z => h2 (Or.inl ⟨c2, hlt.mpr z⟩)
      rw [sm_rp_3 h1 h2, hp]
      unfold rp rc_w sm_kd
      rw [c2, k22, if_neg (by decide), if_neg (by decide), if_pos rfl, if_neg (show ¬ (Int8.ofInt 22).toInt32 = (Int8.ofInt 20).toInt32 by decide), if_neg (show ¬ (Int8.ofInt 22).toInt32 = (Int8.ofInt 21).toInt32 by decide), if_pos rfl, if_pos rfl, e1, e2, wi_onn (by omega), wi_onn (by omega), if_neg h3]
      show ((min (rn_w S x * ww_mx b) 1000, nt_times a b (rn_t S x)), tk_adv ts s) = ((min (ww_mx b * rn_w S x) 1000, nt_times a b (rn_t S x)), tk_adv ts s)
      rw [Nat.mul_comm]
  by_cases c3 : tk_now ts s = (Int8.ofInt 23).toInt32
  · cases mo with
    | none => exact absurd (Or.inl c3) (h34 rfl)
    | some m =>
      have h1 : rc_is ts (some m).isSome s := Or.inr (Or.inr (Or.inr ⟨rfl, Or.inl c3⟩))
      obtain ⟨a, b, ha, hb, e1, e2⟩ := tk_ct (s := s) hv (by rw [c3]; decide)
      have h0 : (0 : Int32).toInt = 0 := rfl
      have hlt : tk_low ts s.1 = 0 ↔ a = 0 := by
        rw [e1, wi_eq, wi_on (by omega), h0]
        omega
      have em := hm m rfl
      by_cases h2 : rc_bad ts s
      · have h3 : a = 0 := by
          rcases h2 with z | z
          · exact absurd (c3.symm.trans z.1) (by decide)
          · exact hlt.mp z.2
        rw [sm_rp_2 h1 h2]
        unfold rp
        rw [c3, k23, if_neg (by decide), if_neg (by decide), if_neg (by decide), if_pos rfl, e1, wi_onn (by omega)]
        show (if a = 0 then _ else _) = _
        rw [if_pos h3]
      · have h3 : ¬ a = 0 := fun z => h2 (Or.inr ⟨c3, hlt.mpr z⟩)
        rw [sm_rp_3 h1 h2, hp]
        unfold rp rc_w sm_kd
        rw [c3, k23, if_neg (by decide), if_neg (by decide), if_neg (by decide), if_pos rfl, if_neg (show ¬ (Int8.ofInt 23).toInt32 = (Int8.ofInt 22).toInt32 by decide), if_pos rfl, if_neg (show ¬ (Int8.ofInt 23).toInt32 = (Int8.ofInt 20).toInt32 by decide), if_neg (show ¬ (Int8.ofInt 23).toInt32 = (Int8.ofInt 21).toInt32 by decide), e1, wi_onn (by omega)]
        show (if a = 0 then _ else _) = _
        rw [if_neg h3, em]
        rfl
  by_cases c4 : tk_now ts s = (Int8.ofInt 24).toInt32
  · cases mo with
    | none => exact absurd (Or.inr c4) (h34 rfl)
    | some m =>
      have h1 : rc_is ts (some m).isSome s := Or.inr (Or.inr (Or.inr ⟨rfl, Or.inr c4⟩))
      have em := hm m rfl
      have h2 : ¬ rc_bad ts s := by
        unfold rc_bad
        rw [c4]
        rintro (z | z)
        · exact absurd z.1 (by decide)
        · exact absurd z.1 (by decide)
      rw [sm_rp_3 h1 h2, hp]
      unfold rp rc_w sm_kd
      rw [c4, k24, if_neg (by decide), if_neg (by decide), if_neg (by decide), if_neg (by decide), if_pos rfl, if_neg (show ¬ (Int8.ofInt 24).toInt32 = (Int8.ofInt 22).toInt32 by decide), if_neg (show ¬ (Int8.ofInt 24).toInt32 = (Int8.ofInt 23).toInt32 by decide), if_pos rfl, if_neg (show ¬ (Int8.ofInt 24).toInt32 = (Int8.ofInt 20).toInt32 by decide), if_neg (show ¬ (Int8.ofInt 24).toInt32 = (Int8.ofInt 21).toInt32 by decide), em]
      rfl
  have h1 : ¬ rc_is ts mo.isSome s := by
    rintro (z | z | z | z)
    · exact c0 z
    · exact c1 z
    · exact c2 z
    · rcases z.2 with z | z
      · exact c3 z
      · exact c4 z
  rw [sm_rp_1 h1]
  unfold rp
  rw [if_neg (fun z => c0 (wi_eq.mpr (z.trans k20.symm))), if_neg (fun z => c1 (wi_eq.mpr (z.trans k21.symm))), if_neg (fun z => c2 (wi_eq.mpr (z.trans k22.symm))), if_neg (fun z => c3 (wi_eq.mpr (z.trans k23.symm))), if_neg (fun z => c4 (wi_eq.mpr (z.trans k24.symm)))]
theorem rp_34 {ts : List wt_t} {n : Nat} {s : wt_q} {x : Nat × nt_A} (h : tk_now ts s = (Int8.ofInt 23).toInt32 ∨ tk_now ts s = (Int8.ofInt 24).toInt32) : rp ts n none s x = (x, tk_ref ts n s) := by
  unfold rp
  rcases h with h | h
  · rw [h]; rfl
  · rw [h]; rfl
/-- a sequence being read: nodes, joints, operands, what is open, tokens, whether an item is wanted -/
abbrev sm_S : Type := rn_N × List Nat × List Nat × Nat × wt_q × Bool
def sm_c (ts : List wt_t) (n : Nat) (S : rn_N) (s : wt_q) : rn_N := rn_mk S (60, 0, 0, 0, 0) 1 (cd_h (cd_all ts n s))
def sm_it (ts : List wt_t) (n : Nat) (S : rn_N) (js xs : List Nat) (o : Nat) (s : wt_q) : sm_S :=
  if tk_now ts s = (Int8.ofInt 13).toInt32 then (if o < 20 then (S, 0 :: js, xs, o + 1, tk_adv ts s, true) else (S, js, xs, o, tk_ref ts n s, true))
  else ((sm_rp ts n true (sm_c ts n S s) (rn_n S) (cd_all ts n s).2.2).1, js, (sm_rp ts n true (sm_c ts n S s) (rn_n S) (cd_all ts n s).2.2).2.1 :: xs, o, (sm_rp ts n true (sm_c ts n S s) (rn_n S) (cd_all ts n s).2.2).2.2, false)
def sm_cl (ts : List wt_t) (n b o : Nat) (s : wt_q) (js : List Nat) (S : rn_N) (xs : List Nat) : sm_S :=
  if js.tail = [] then (S, [], xs, o - 1, (if 40 < rn_w S (xs.headD 0) then tk_adv ts (tk_refAt b s) else tk_adv ts s), false)
  else ((sm_rp ts n false S (xs.headD 0) (tk_adv ts s)).1, js.tail, (sm_rp ts n false S (xs.headD 0) (tk_adv ts s)).2.1 :: xs.tail, o - 1, (sm_rp ts n false S (xs.headD 0) (tk_adv ts s)).2.2, false)
def sm_en (ts : List wt_t) (n b : Nat) (S : rn_N) (js xs : List Nat) (o : Nat) (s : wt_q) : sm_S :=
  if 0 < rk_of (tk_now ts s) then ((rj (rk_of (tk_now ts s)) js S xs).2.1, rk_of (tk_now ts s) :: (rj (rk_of (tk_now ts s)) js S xs).1, (rj (rk_of (tk_now ts s)) js S xs).2.2, o, tk_adv ts s, true)
  else if tk_now ts s = (Int8.ofInt 14).toInt32 then sm_cl ts n b o s (rj 1 js S xs).1 (rj 1 js S xs).2.1 (rj 1 js S xs).2.2
  else (S, js, xs, o, tk_ref ts n s, false)
def sm_1 (ts : List wt_t) (n b : Nat) (x : sm_S) : sm_S := if x.2.2.2.2.2 = true then sm_it ts n x.1 x.2.1 x.2.2.1 x.2.2.2.1 x.2.2.2.2.1 else sm_en ts n b x.1 x.2.1 x.2.2.1 x.2.2.2.1 x.2.2.2.2.1
def sm_go (x : sm_S) : Bool := !x.2.1.isEmpty && x.2.2.2.2.1.2.isNone
def sm_run (ts : List wt_t) (n b : Nat) : Nat → sm_S → sm_S
  | 0, x => x
  | f + 1, x => if sm_go x = true then sm_run ts n b f (sm_1 ts n b x) else x
theorem sm_run_at {ts : List wt_t} {n b f : Nat} {x : sm_S} (h : sm_go x = true) : sm_run ts n b (f + 1) x = sm_run ts n b f (sm_1 ts n b x) := if_pos h
theorem sm_run_no {ts : List wt_t} {n b f : Nat} {x : sm_S} (h : ¬ sm_go x = true) : sm_run ts n b f x = x := by
  cases f with
  | zero => rfl
  | succ f => exact if_neg h
theorem sm_go_iff {S : rn_N} {js xs : List Nat} {o : Nat} {s : wt_q} {it : Bool} : sm_go (S, js, xs, o, s, it) = true ↔ ¬ js = [] ∧ s.2 = none := by
  unfold sm_go
  show (!js.isEmpty && s.2.isNone) = true ↔ _
  cases js with
  | nil => simp
  | cons r js => simp
/-- what holds of it; z braces open outside, e nodes and frames kept apart -/
def sm_I (ts : List wt_t) (z e : Nat) (S : rn_N) (js xs : List Nat) (o : Nat) (s : wt_q) (it : Bool) : Prop := rn_i S ∧ rn_x S xs ∧ (∀ r, r ∈ js → r ≤ 4) ∧ pj_b js ∧ xs.length = pj_n js + (if it = true then 0 else 1) ∧ xs.length ≤ rn_n S ∧ o = pj_z js + z ∧ o ≤ 20 ∧ rn_n S + js.length + e ≤ s.1 ∧ s.1 ≤ ts.length
theorem sm_c_p {ts : List wt_t} {n : Nat} {S : rn_N} {s : wt_q} : rn_p (sm_c ts n S s) (rn_n S) = (1, nt_cond (cd_h (cd_all ts n s))) ∧ rn_h (sm_c ts n S s) (rn_n S) = cd_h (cd_all ts n s) := by
  obtain ⟨a1, a2, a3, a4⟩ := rn_mk_a (S := S) (x := (60, 0, 0, 0, 0)) (w := 1) (h := cd_h (cd_all ts n s))
  refine ⟨?_, a3⟩
  show (rn_w (sm_c ts n S s) (rn_n S), rn_t (sm_c ts n S s) (rn_n S)) = _
  unfold sm_c
  rw [a2, a4]
  rfl
/-- nodes that stood before stand still -/
def rn_E (S S2 : rn_N) : Prop := rn_n S ≤ rn_n S2 ∧ ∀ z, z < rn_n S → rn_p S2 z = rn_p S z ∧ rn_d S2 z = rn_d S z ∧ rn_h S2 z = rn_h S z
theorem rn_E_id (S : rn_N) : rn_E S S := ⟨Nat.le_refl _, fun _ _ => ⟨rfl, rfl, rfl⟩⟩
theorem rn_E_tr {S S2 S3 : rn_N} (h : rn_E S S2) (h2 : rn_E S2 S3) : rn_E S S3 := ⟨Nat.le_trans h.1 h2.1, fun z hz => by
  obtain ⟨a1, a2, a3⟩ := h.2 z hz
  obtain ⟨b1, b2, b3⟩ := h2.2 z (Nat.lt_of_lt_of_le hz h.1)
  exact ⟨b1.trans a1, b2.trans a2, b3.trans a3⟩⟩
theorem rn_E_mk {S : rn_N} {x : nq_N} {w : Nat} {h : Nat → Bool} : rn_E S (rn_mk S x w h) := ⟨Nat.le_succ _, fun _ hz => ⟨rn_mk_p hz, (rn_mk_d hz).1, (rn_mk_d hz).2.2.1⟩⟩
theorem sm_eq {a a2 : rn_N} {b b2 c c2 : List Nat} {d d2 : Nat} {e e2 : wt_q} {f f2 : Bool} (h : ((a, b, c, d, e, f) : sm_S) = (a2, b2, c2, d2, e2, f2)) : a = a2 ∧ b = b2 ∧ c = c2 ∧ d = d2 ∧ e = e2 ∧ f = f2 := by
  cases h
  exact ⟨rfl, rfl, rfl, rfl, rfl, rfl⟩
/-- a turn that finds no fault keeps it, and takes a token or more -/
theorem sm_1_I {ts : List wt_t} {n b z e : Nat} {S : rn_N} {js xs : List Nat} {o : Nat} {s : wt_q} {it : Bool} (hv : ∀ y, y ∈ ts → pr_vt y) (hl : ts.length ≤ 401) (h : sm_I ts z e S js xs o s it) (hs : s.2 = none) (hj : ¬ js = []) {S2 : rn_N} {js2 xs2 : List Nat} {o2 : Nat} {s2 : wt_q} {it2 : Bool} (h2 : sm_1 ts n b (S, js, xs, o, s, it) = (S2, js2, xs2, o2, s2, it2)) (hf : s2.2 = none) : sm_I ts z e S2 js2 xs2 o2 s2 it2 ∧ s.1 + 1 ≤ s2.1 ∧ rn_E S S2 ∧ (js2 = [] → it2 = false ∧ rn_w S2 (xs2.headD 0) ≤ 40 ∧ rn_n S2 + e + 2 ≤ s2.1) := by
  obtain ⟨i1, i2, i3, i4, i5, i6, i7, i8, i9, i10⟩ := h
  have hz := pj_b_z i4 hj
  cases it with
  | true =>
    have h2 : sm_it ts n S js xs o s = (S2, js2, xs2, o2, s2, it2) := h2
    have i5 : xs.length = pj_n js := i5
    unfold sm_it at h2
    by_cases c : tk_now ts s = (Int8.ofInt 13).toInt32
    · rw [if_pos c] at h2
      obtain ⟨a1, a2, a3⟩ := tk_ad1 (s := s) (ts := ts) (by rw [c]; decide)
      by_cases c2 : o < 20
      · rw [if_pos c2] at h2
        obtain ⟨rfl, rfl, rfl, rfl, rfl, rfl⟩ := sm_eq h2
        rw [a2]
        refine ⟨⟨i1, i2, fun r hr => ?_, ⟨fun hh => rfl, i4⟩, ?_, i6, ?_, by omega, ?_, a3⟩, Nat.le_refl _, rn_E_id _, fun w => by cases w⟩
        · rcases List.mem_cons.mp hr with w | w
          · omega
          · exact i3 r w
        · show xs.length = (0 + pj_n js) + 0
          omega
        · show o + 1 = (1 + pj_z js) + z
          omega
        · show rn_n S + (js.length + 1) + e ≤ s.1 + 1
          omega
      · rw [if_neg c2] at h2
        obtain ⟨rfl, rfl, rfl, rfl, rfl, rfl⟩ := sm_eq h2
        rw [tk_rf1 hs] at hf
        cases hf
    · rw [if_neg c] at h2
      obtain ⟨c1, c2, c3⟩ := cd_all_b (n := n) hl i10
      have k1 : rn_i (sm_c ts n S s) := rn_mk_i i1 (by decide) (fun _ w => absurd rfl w)
      have k2 : rn_x (sm_c ts n S s) (rn_n S :: xs) := rn_mk_x1 i2 (Or.inl rfl)
      have k3 : rn_k (sm_c ts n S s) (rn_n S) = 60 := rn_mk_k
      obtain ⟨b1, b2, b3, b4, b5, b6⟩ := sm_rp_ok (n := n) (b := true) (s := (cd_all ts n s).2.2) hv k1 k2 (fun _ => k3) c1
      have en : rn_n (sm_c ts n S s) = rn_n S + 1 := rfl
      have hn : (cd_all ts n s).2.2.2 = none := by
        by_cases hn : (cd_all ts n s).2.2.2 = none
        · exact hn
        · rw [sm_rp_1 (fun w => rc_is_2 w (tk_now_f hn))] at h2
          obtain ⟨rfl, rfl, rfl, rfl, rfl, rfl⟩ := sm_eq h2
          exact absurd hf hn
      have c3 := c3 hn
      generalize hr : sm_rp ts n true (sm_c ts n S s) (rn_n S) (cd_all ts n s).2.2 = r at h2 b1 b2 b3 b4 b5 b6
      obtain ⟨r1, r2, r3⟩ := r
      dsimp only at h2
      obtain ⟨rfl, rfl, rfl, rfl, rfl, rfl⟩ := sm_eq h2
      dsimp only at b1 b2 b3 b4 b5 b6
      refine ⟨⟨b1, b2, i3, i4, ?_, ?_, i7, i8, ?_, b5⟩, by omega, rn_E_tr rn_E_mk ⟨b3, b6⟩, fun w => absurd w hj⟩
      · show xs.length + 1 = pj_n js + 1
        omega
      · show xs.length + 1 ≤ rn_n r1
        omega
      · omega
  | false =>
    have h2 : sm_en ts n b S js xs o s = (S2, js2, xs2, o2, s2, it2) := h2
    have i5 : xs.length = pj_n js + 1 := i5
    unfold sm_en at h2
    by_cases c : 0 < rk_of (tk_now ts s)
    · rw [if_pos c] at h2
      obtain ⟨a1, a2, a3⟩ := tk_ad1 (s := s) (ts := ts) (fun w => by rw [w] at c; exact absurd c (by decide))
      have hk4 : rk_of (tk_now ts s) ≤ 4 := by
        unfold rk_of
        repeat' split
        all_goals omega
      obtain ⟨b1, b2, b3, b4, b5, b6, b7, b8, b9, b10⟩ := rj_ok (rank := rk_of (tk_now ts s)) (by omega) i1 i2 i3 i5
      obtain ⟨d1, d2⟩ := rj_b (rank := rk_of (tk_now ts s)) (xs := xs) (S := S) i4
      generalize rk_of (tk_now ts s) = rk at *
      generalize hr : rj rk js S xs = r at h2 b1 b2 b3 b4 b5 b6 b7 b8 b9 b10 d1 d2
      obtain ⟨r1, r2, r3⟩ := r
      dsimp only at h2
      obtain ⟨rfl, rfl, rfl, rfl, rfl, rfl⟩ := sm_eq h2
      dsimp only at b1 b2 b3 b4 b5 b6 b7 b8 b9 b10 d1 d2
      rw [a2]
      have hne : ¬ r1 = [] := fun w => by rw [w] at d2; have : pj_z [] = 0 := rfl; omega
      refine ⟨⟨b1, b2, fun q hq => ?_, ⟨fun w => absurd w hne, d1⟩, ?_, by omega, ?_, i8, ?_, a3⟩, Nat.le_refl _, ⟨b7, b8⟩, fun w => by cases w⟩
      · rcases List.mem_cons.mp hq with w | w
        · omega
        · exact b3 q w
      · show r3.length = (if rk = 0 then 0 else 1) + pj_n r1 + 0
        rw [if_neg (by omega)]
        omega
      · show o = (if rk = 0 then 1 else 0) + pj_z r1 + z
        rw [if_neg (by omega)]
        omega
      · show rn_n r2 + (r1.length + 1) + e ≤ s.1 + 1
        omega
    · rw [if_neg c] at h2
      by_cases c2 : tk_now ts s = (Int8.ofInt 14).toInt32
      · rw [if_pos c2] at h2
        obtain ⟨a1, a2, a3⟩ := tk_ad1 (s := s) (ts := ts) (by rw [c2]; decide)
        obtain ⟨b1, b2, b3, b4, b5, b6, b7, b8, b9, b10⟩ := rj_ok (rank := 1) (by omega) i1 i2 i3 i5
        obtain ⟨d1, d2⟩ := rj_b (rank := 1) (xs := xs) (S := S) i4
        generalize hr : rj 1 js S xs = r at h2 b1 b2 b3 b4 b5 b6 b7 b8 b9 b10 d1 d2
        obtain ⟨r1, r2, r3⟩ := r
        dsimp only at h2 b1 b2 b3 b4 b5 b6 b7 b8 b9 b10 d1 d2
        cases r1 with
        | nil => have : pj_z [] = 0 := rfl; omega
        | cons q r1 =>
          have hq : q = 0 := by
            have := b10 q r1 rfl
            omega
          subst hq
          cases r3 with
          | nil => simp at b4
          | cons y r3 =>
            unfold sm_cl at h2
            have e1 : pj_n (0 :: r1) = 0 + pj_n r1 := rfl
            have e2 : pj_z (0 :: r1) = 1 + pj_z r1 := rfl
            have e3 : (0 :: r1).tail = r1 := rfl
            have e4 : (y :: r3).headD 0 = y := rfl
            have e5 : (y :: r3).tail = r3 := rfl
            rw [e3, e4, e5] at h2
            simp only [List.length_cons] at b4 b5 b6
            by_cases c3 : r1 = []
            · rw [if_pos c3] at h2
              obtain ⟨rfl, rfl, rfl, rfl, rfl, rfl⟩ := sm_eq h2
              subst c3
              have e6 : pj_n [] = 0 := rfl
              have e7 : pj_z [] = 0 := rfl
              by_cases c4 : 40 < rn_w r2 y
              · rw [if_pos c4] at hf
                have : tk_adv ts (tk_refAt b s) = (s.1, some b) := by
                  obtain ⟨a, f⟩ := s
                  have hs : f = none := hs
                  subst hs
                  rfl
                rw [this] at hf
                cases hf
              · rw [if_neg c4, a2]
                refine ⟨⟨b1, b2, fun q hq => absurd hq (by simp), trivial, ?_, ?_, ?_, by omega, ?_, a3⟩, Nat.le_refl _, ⟨b7, b8⟩, fun _ => ⟨rfl, Nat.le_of_not_lt c4, by simp only [List.length_nil] at b5; show rn_n r2 + e + 2 ≤ s.1 + 1; omega⟩⟩
                · show r3.length + 1 = 0 + 1
                  omega
                · show r3.length + 1 ≤ rn_n r2
                  omega
                · show o - 1 = 0 + z
                  omega
                · show rn_n r2 + 0 + e ≤ s.1 + 1
                  simp only [List.length_nil] at b5
                  omega
            · rw [if_neg c3] at h2
              obtain ⟨f1, f2, f3, f4, f5, f6⟩ := sm_rp_ok (n := n) (b := false) (s := tk_adv ts s) hv b1 b2 (fun w => by cases w) (by rw [a2]; exact a3)
              generalize hr2 : sm_rp ts n false r2 y (tk_adv ts s) = t at h2 f1 f2 f3 f4 f5 f6
              obtain ⟨t1, t2, t3⟩ := t
              dsimp only at h2
              obtain ⟨rfl, rfl, rfl, rfl, rfl, rfl⟩ := sm_eq h2
              dsimp only at f1 f2 f3 f4 f5 f6
              rw [a2] at f4
              dsimp only at f4
              refine ⟨⟨f1, f2, fun q hq => b3 q (List.mem_cons_of_mem _ hq), d1.2, ?_, ?_, ?_, by omega, ?_, f5⟩, by omega, rn_E_tr ⟨b7, b8⟩ ⟨f3, f6⟩, fun w => absurd w c3⟩
              · show r3.length + 1 = pj_n r1 + 1
                omega
              · show r3.length + 1 ≤ rn_n t1
                omega
              · omega
              · omega
      · rw [if_neg c2] at h2
        obtain ⟨rfl, rfl, rfl, rfl, rfl, rfl⟩ := sm_eq h2
        rw [tk_rf1 hs] at hf
        cases hf
/-- a sequence read to its end without a fault -/
theorem sm_run_ok {ts : List wt_t} {n b z e : Nat} (hv : ∀ y, y ∈ ts → pr_vt y) (hl : ts.length ≤ 401) : ∀ (f : Nat) (S : rn_N) (js xs : List Nat) (o : Nat) (s : wt_q) (it : Bool), sm_I ts z e S js xs o s it → s.2 = none → 402 ≤ f + s.1 → (js = [] → it = false ∧ rn_w S (xs.headD 0) ≤ 40 ∧ rn_n S + e + 2 ≤ s.1) → (sm_run ts n b f (S, js, xs, o, s, it)).2.2.2.2.1.2 = none → ∃ (S2 : rn_N) (y o2 : Nat) (s2 : wt_q), sm_run ts n b f (S, js, xs, o, s, it) = (S2, [], [y], o2, s2, false) ∧ s2.2 = none ∧ sm_I ts z e S2 [] [y] o2 s2 false ∧ rn_E S S2 ∧ rn_w S2 y ≤ 40 ∧ rn_n S2 + e + 2 ≤ s2.1 ∧ s.1 ≤ s2.1 := by
  intro f
  induction f with
  | zero =>
    intro S js xs o s it hI hs hf hj hn
    have := hI.2.2.2.2.2.2.2.2.2
    omega
  | succ f ih =>
    intro S js xs o s it hI hs hf hj hn
    by_cases hj0 : js = []
    · rw [sm_run_no (fun w => (sm_go_iff.mp w).1 hj0)]
      subst hj0
      obtain ⟨rfl, hw, hsl⟩ := hj rfl
      have i5 : xs.length = 0 + 1 := hI.2.2.2.2.1
      obtain ⟨y, rfl⟩ := List.length_eq_one_iff.mp i5
      exact ⟨S, y, o, s, rfl, hs, hI, rn_E_id S, hw, hsl, Nat.le_refl _⟩
    · rw [sm_run_at (sm_go_iff.mpr ⟨hj0, hs⟩)] at hn ⊢
      generalize h2 : sm_1 ts n b (S, js, xs, o, s, it) = x at hn ⊢
      obtain ⟨S2, js2, xs2, o2, s2, it2⟩ := x
      by_cases hf2 : s2.2 = none
      · obtain ⟨a1, a2, a3, a4⟩ := sm_1_I hv hl hI hs hj0 h2 hf2
        obtain ⟨S3, y, o3, s3, c1, c2, c3, c4, c5, c6, c7⟩ := ih S2 js2 xs2 o2 s2 it2 a1 hf2 (by omega) a4 hn
        exact ⟨S3, y, o3, s3, c1, c2, c3, rn_E_tr a3 c4, c5, c6, by omega⟩
      · rw [sm_run_no (fun w => hf2 (sm_go_iff.mp w).2)] at hn
        exact absurd hn hf2
