/-! ===== nodes that count ===== -/
section UN
/-- tokens that count -/
def un_b (k : Int32) : Prop := k = (Int8.ofInt 20).toInt32 ∨ k = (Int8.ofInt 21).toInt32 ∨ k = (Int8.ofInt 22).toInt32 ∨ k = (Int8.ofInt 23).toInt32 ∨ k = (Int8.ofInt 24).toInt32
def un_1 (k : Int32) : Nat := if k = (Int8.ofInt 20).toInt32 ∨ k = (Int8.ofInt 21).toInt32 ∨ k = (Int8.ofInt 22).toInt32 ∨ k = (Int8.ofInt 23).toInt32 ∨ k = (Int8.ofInt 24).toInt32 then 1 else 0
theorem un_1_le (k : Int32) : un_1 k ≤ 1 := by
  unfold un_1
  split <;> omega
def un (ts : List wt_t) : Nat → Nat
  | 0 => 0
  | i + 1 => un ts i + (match ts[i]? with | some x => un_1 x.1 | none => 0)
theorem un_mono {ts : List wt_t} {i : Nat} : ∀ d : Nat, un ts i ≤ un ts (i + d)
  | 0 => Nat.le_refl _
  | d + 1 => Nat.le_trans (un_mono d) (Nat.le_add_right _ _)
theorem un_le {ts : List wt_t} {i j : Nat} (h : i ≤ j) : un ts i ≤ un ts j := by
  have := un_mono (ts := ts) (i := i) (j - i)
  rw [show i + (j - i) = j by omega] at this
  exact this
theorem un_id {ts : List wt_t} : ∀ i : Nat, un ts i ≤ i
  | 0 => Nat.le_refl _
  | i + 1 => by
    have := un_id (ts := ts) i
    show un ts i + (match ts[i]? with | some x => un_1 x.1 | none => 0) ≤ i + 1
    split
    · rename_i x _
      have := un_1_le x.1
      omega
    · omega
theorem un_cons {x : wt_t} {ts : List wt_t} : ∀ i, un (x :: ts) (i + 1) = un_1 x.1 + un ts i
  | 0 => by
    show 0 + un_1 x.1 = un_1 x.1 + 0
    omega
  | i + 1 => by
    have ih := un_cons (x := x) (ts := ts) i
    show un (x :: ts) (i + 1) + (match (x :: ts)[i + 1]? with | some y => un_1 y.1 | none => 0) = un_1 x.1 + (un ts i + (match ts[i]? with | some y => un_1 y.1 | none => 0))
    rw [ih, List.getElem?_cons_succ]
    omega
theorem un_adv {ts : List wt_t} {s : wt_q} (h : un_b (tk_now ts s)) : un ts s.1 + 1 ≤ un ts (tk_adv ts s).1 := by
  have h2 : ¬ tk_now ts s = Int32.ofInt 2 := by
    intro z
    rw [z] at h
    unfold un_b at h
    exact absurd h (by decide)
  obtain ⟨a1, a2, a3⟩ := tk_ad1 h2
  rw [a2]
  obtain ⟨a, f⟩ := s
  have a1 : f = none := a1
  subst a1
  have e : ts[a]? = some ts[a] := List.getElem?_eq_getElem a3
  have hn : tk_now ts (a, none) = ts[a].1 := by
    unfold tk_now
    rw [e]
  rw [hn] at h
  show un ts a + 1 ≤ un ts a + (match ts[a]? with | some x => un_1 x.1 | none => 0)
  rw [e]
  show un ts a + 1 ≤ un ts a + un_1 ts[a].1
  unfold un_1
  unfold un_b at h
  rw [if_pos h]
  omega
theorem tk_ref_u {ts : List wt_t} {n : Nat} {s : wt_q} : (tk_ref ts n s).1 = s.1 := by
  obtain ⟨a, f⟩ := s
  cases f <;> rfl
theorem tk_adv_u {ts : List wt_t} {s : wt_q} : s.1 ≤ (tk_adv ts s).1 := by
  by_cases h : tk_now ts s = Int32.ofInt 2
  · obtain ⟨a, f⟩ := s
    unfold tk_adv
    cases f with
    | some z => exact Nat.le_refl _
    | none =>
      show a ≤ _
      first
        | exact Nat.le_succ _
        | exact Nat.le_refl _
        | (split <;> first | exact Nat.le_succ _ | exact Nat.le_refl _)
  · rw [(tk_ad1 h).2.1]
    exact Nat.le_succ _
/-- tokens that count are three signs long at least -/
def ug (n p : Nat) (r : Option wt_t × Nat) : Prop := p < r.2 ∧ r.2 ≤ n ∧ ∀ x, r.1 = some x → p + (1 + 2 * un_1 x.1) ≤ r.2
theorem un_pr_k {x : Int} {k : Int32} (h : pr_k x = some k) : un_1 k = 0 := by
  unfold pr_k at h
  repeat' split at h
  all_goals first | (cases h; rfl) | cases h
theorem un_st {t : Nat → Int32} {n p : Nat} (ht : wt_tx t n) (hp : p < n) : ug n p (pr_st t n p) := by
  have hb : ug n p (pr_b n p) := ⟨hp, Nat.le_refl _, fun x hx => by cases hx; exact hp⟩
  have h1 : ∀ k z, 1 + 2 * un_1 k ≤ z → p + z ≤ n → ug n p (pr_t k p z) := fun k z hk hz => ⟨by show p < p + z; omega, hz, fun x hx => by cases hx; show p + (1 + 2 * un_1 k) ≤ p + z; omega⟩
  have hr : ∀ w, wt_rd t p w = true → (∀ c, c ∈ w → 0 < c ∧ c < 128) → p + w.length ≤ n := fun w hw hc => rd_len ht hp hc hw
  have c93 : ∀ q, t q = (Int8.ofInt 93).toInt32 → q < n := fun q hq => tx_lt ht (by rw [hq]; decide)
  have hc : ∀ k a, 1 ≤ a → ug n p (pr_cnt t n k p a) := fun k a hk => by
    unfold pr_cnt
    split
    · rename_i hh
      have := c93 _ hh.2
      refine ⟨by show p < p + (a + 2); omega, by show p + (a + 2) ≤ n; omega, fun x hx => ?_⟩
      cases hx
      show p + (1 + 2 * un_1 k) ≤ p + (a + 2)
      have := un_1_le k
      omega
    · exact hb
  unfold pr_st
  split
  · exact ⟨Nat.lt_succ_self _, hp, fun x hx => by cases hx⟩
  split
  · split
    · rename_i hh
      exact h1 _ _ (by decide) (hr _ hh (by decide))
    · exact h1 _ _ (by decide) hp
  split
  · split
    · rename_i hh
      exact h1 _ _ (by decide) (hr _ hh (by decide))
    · exact hb
  split
  · unfold pr_brk
    split
    · rename_i hh
      exact h1 _ _ (by decide) (hr _ hh (by decide))
    split
    · rename_i hh
      exact h1 _ _ (by decide) (hr _ hh (by decide))
    split
    · split
      · unfold pr_rng
        split
        · rename_i hh
          have := c93 _ hh.2.2
          refine ⟨by show p < p + 7; omega, by show p + 7 ≤ n; omega, fun x hx => ?_⟩
          cases hx
          have e := un_1_le ((Int8.ofInt 22).toInt32)
          show p + (1 + 2 * un_1 ((Int8.ofInt 22).toInt32)) ≤ p + 7
          omega
        · exact hb
      · exact hc _ _ (by decide)
    split
    · exact hc _ _ (by decide)
    split
    · exact hc _ _ (by decide)
    · exact hc _ _ (by decide)
  split
  · unfold pr_bar
    split
    · rename_i hh
      exact h1 _ _ (by decide) (hr _ hh (by decide))
    split
    · rename_i hh
      exact h1 _ _ (by decide) (hr _ hh (by decide))
    split
    · rename_i hh
      exact h1 _ _ (by decide) (hr _ hh (by decide))
    · exact h1 _ _ (by decide) hp
  split
  · rename_i hk
    exact h1 _ _ (by rw [un_pr_k hk]; exact Nat.le_refl _) hp
  split
  · rename_i hs
    obtain ⟨x, p2, e1, e2, e3, e4, e5, e6, e7⟩ := pr_word_k ht hs rfl hp
    have hw := wt_wl_1 hs
    unfold pr_word
    split
    · refine ⟨by show p < p + wt_wl t p 400; omega, e4, fun x hx => ?_⟩
      cases hx
      show p + (1 + 2 * un_1 (Int32.ofInt 3)) ≤ p + wt_wl t p 400
      have e : un_1 (Int32.ofInt 3) = 0 := rfl
      omega
    split
    · exact hb
    · refine h1 _ _ ?_ e4
      have hz : un_1 (pr_wk t p (wt_wl t p 400)) = 0 := by
        unfold pr_wk
        repeat' split
        all_goals rfl
      rw [hz]
      omega
  · exact hb
theorem un_lex {t : Nat → Int32} {n : Nat} (ht : wt_tx t n) : ∀ f p, p ≤ n → ∀ i, i ≤ (wt_lex (pr_st t n) n f p).length → p + (i + 2 * un (wt_lex (pr_st t n) n f p) i) ≤ n + 1 := by
  have last : ∀ p, p ≤ n → ∀ i, i ≤ [((Int32.ofInt 0, n, Int32.ofInt 0, Int32.ofInt 0, 0) : wt_t)].length → p + (i + 2 * un [((Int32.ofInt 0, n, Int32.ofInt 0, Int32.ofInt 0, 0) : wt_t)] i) ≤ n + 1 := by
    intro p hp i hi
    cases i with
    | zero =>
      show p + (0 + 2 * 0) ≤ n + 1
      omega
    | succ i =>
      have hi : i + 1 ≤ 1 := hi
      have : i = 0 := by omega
      subst this
      rw [un_cons]
      show p + (0 + 1 + 2 * (0 + 0)) ≤ n + 1
      omega
  intro f
  induction f with
  | zero => exact fun p hp => last p hp
  | succ f ih =>
    intro p hp i hi
    unfold wt_lex at hi ⊢
    by_cases c : p < n
    · rw [if_pos c] at hi ⊢
      obtain ⟨g1, g2, g3⟩ := un_st ht c
      generalize hst : pr_st t n p = r at hi g1 g2 g3 ⊢
      obtain ⟨x, p2⟩ := r
      cases x with
      | none =>
        have := ih p2 g2 i hi
        have g1 : p < p2 := g1
        show p + (i + 2 * un (wt_lex (pr_st t n) n f p2) i) ≤ n + 1
        omega
      | some x =>
        have g3 : p + (1 + 2 * un_1 x.1) ≤ p2 := g3 x rfl
        show p + (i + 2 * un (x :: wt_lex (pr_st t n) n f p2) i) ≤ n + 1
        cases i with
        | zero =>
          show p + (0 + 2 * 0) ≤ n + 1
          omega
        | succ i =>
          have hi : i + 1 ≤ (wt_lex (pr_st t n) n f p2).length + 1 := hi
          have := ih p2 g2 i (by omega)
          rw [un_cons]
          omega
    · rw [if_neg c] at hi ⊢
      exact last p hp i hi
/-- nodes that count -/
def uk (k : Nat) : Bool := decide (40 ≤ k ∧ k ≤ 44)
def uc (S : rn_N) (a : Nat) : Nat := cn_c (fun y => uk (rn_k S y)) a
def uC (S : rn_N) : Nat := uc S (rn_n S)
theorem uc_1 (S : rn_N) (a : Nat) : uc S (a + 1) = uc S a + (if uk (rn_k S a) = true then 1 else 0) := rfl
theorem uc_c {S S2 : rn_N} : ∀ a, (∀ y, y < a → rn_k S2 y = rn_k S y) → uc S2 a = uc S a
  | 0, _ => rfl
  | a + 1, h => by
    rw [uc_1, uc_1, uc_c a (fun y hy => h y (by omega)), h a (by omega)]
theorem uC_mk {S : rn_N} {x : nq_N} {w : Nat} {h : Nat → Bool} : uC (rn_mk S x w h) = uC S + (if uk (nq_k x) = true then 1 else 0) := by
  show uc (rn_mk S x w h) (rn_n S + 1) = _
  rw [uc_1, uc_c (rn_n S) (fun y hy => rn_mk_kk hy), rn_mk_k]
  rfl
theorem uC_mk0 {S : rn_N} {x : nq_N} {w : Nat} {h : Nat → Bool} (hx : uk (nq_k x) = false) : uC (rn_mk S x w h) = uC S := by
  rw [uC_mk, hx]
  rfl
theorem uC_rj {rank : Nat} : ∀ {js xs : List Nat} {S : rn_N}, (∀ r, r ∈ js → r ≤ 4) → uC (rj rank js S xs).2.1 = uC S
  | [], [], S, _ => rfl
  | [], [y], S, _ => rfl
  | [], y :: x :: l, S, _ => rfl
  | r :: js, [], S, _ => rfl
  | r :: js, [y], S, _ => rfl
  | r :: js, y :: x :: l, S, hj => by
    by_cases c : 1 ≤ r ∧ rank ≤ r
    · rw [rj_at c, uC_rj (S := rj_1 S r y x) (xs := rn_n S :: l) (fun r2 hr2 => hj r2 (List.mem_cons_of_mem _ hr2))]
      have hr4 := hj r List.mem_cons_self
      refine uC_mk0 (decide_eq_false ?_)
      show ¬ (40 ≤ 22 + r ∧ 22 + r ≤ 44)
      omega
    · rw [rj_no c]
theorem uC_rp {ts : List wt_t} {n x : Nat} {b : Bool} {S : rn_N} {s : wt_q} (h : uC S ≤ un ts s.1) : uC (sm_rp ts n b S x s).1 ≤ un ts (sm_rp ts n b S x s).2.2.1 := by
  by_cases c : rc_is ts b s
  · by_cases c2 : rc_bad ts s
    · rw [sm_rp_2 c c2]
      show uC S ≤ un ts (tk_ref ts n s).1
      rw [tk_ref_u]
      exact h
    · rw [sm_rp_3 c c2]
      show uC (sm_nd ts S x s) ≤ un ts (tk_adv ts s).1
      have h1 : un_b (tk_now ts s) := by
        unfold un_b
        rcases c with c | c | c | ⟨_, c | c⟩
        · exact Or.inl c
        · exact Or.inr (Or.inl c)
        · exact Or.inr (Or.inr (Or.inl c))
        · exact Or.inr (Or.inr (Or.inr (Or.inl c)))
        · exact Or.inr (Or.inr (Or.inr (Or.inr c)))
      have h2 := un_adv h1
      unfold sm_nd
      rw [uC_mk]
      have : (if uk (nq_k ((sm_kd ts s, x, 0, (tk_low ts s.1).toNatClampNeg, (tk_high ts s.1).toNatClampNeg) : nq_N)) = true then 1 else 0) ≤ 1 := by
        split <;> omega
      omega
  · rw [sm_rp_1 c]
    exact h
theorem uC_1 {ts : List wt_t} {n b : Nat} {S : rn_N} {js xs : List Nat} {o : Nat} {s : wt_q} {it : Bool} (hl : ts.length ≤ 401) (hs : s.1 ≤ ts.length) (hj : ∀ r, r ∈ js → r ≤ 4) (h : uC S ≤ un ts s.1) : uC (sm_1 ts n b (S, js, xs, o, s, it)).1 ≤ un ts (sm_1 ts n b (S, js, xs, o, s, it)).2.2.2.2.1.1 := by
  have ha : un ts s.1 ≤ un ts (tk_adv ts s).1 := un_le tk_adv_u
  cases it with
  | true =>
    show uC (sm_it ts n S js xs o s).1 ≤ un ts (sm_it ts n S js xs o s).2.2.2.2.1.1
    unfold sm_it
    split
    · split
      · show uC S ≤ un ts (tk_adv ts s).1
        omega
      · show uC S ≤ un ts (tk_ref ts n s).1
        rw [tk_ref_u]
        exact h
    · show uC (sm_rp ts n true (sm_c ts n S s) (rn_n S) (cd_all ts n s).2.2).1 ≤ un ts (sm_rp ts n true (sm_c ts n S s) (rn_n S) (cd_all ts n s).2.2).2.2.1
      refine uC_rp ?_
      have h1 : uC (sm_c ts n S s) = uC S := uC_mk0 rfl
      rw [h1]
      exact Nat.le_trans h (un_le (cd_all_b hl hs).2.1)
  | false =>
    show uC (sm_en ts n b S js xs o s).1 ≤ un ts (sm_en ts n b S js xs o s).2.2.2.2.1.1
    unfold sm_en
    split
    · show uC (rj (rk_of (tk_now ts s)) js S xs).2.1 ≤ un ts (tk_adv ts s).1
      rw [uC_rj hj]
      omega
    · split
      · have e1 : uC (rj 1 js S xs).2.1 = uC S := uC_rj hj
        generalize (rj 1 js S xs).1 = js1 at *
        generalize (rj 1 js S xs).2.1 = S1 at *
        generalize (rj 1 js S xs).2.2 = xs1 at *
        unfold sm_cl
        split
        · show uC S1 ≤ un ts (if 40 < rn_w S1 (xs1.headD 0) then tk_adv ts (tk_refAt b s) else tk_adv ts s).1
          split
          · refine Nat.le_trans (show uC S1 ≤ un ts s.1 by omega) (un_le ?_)
            have e : (tk_refAt b s).1 = s.1 := by
              obtain ⟨a, f⟩ := s
              cases f <;> rfl
            have := tk_adv_u (ts := ts) (s := tk_refAt b s)
            omega
          · omega
        · show uC (sm_rp ts n false S1 (xs1.headD 0) (tk_adv ts s)).1 ≤ un ts (sm_rp ts n false S1 (xs1.headD 0) (tk_adv ts s)).2.2.1
          exact uC_rp (by omega)
      · show uC S ≤ un ts (tk_ref ts n s).1
        rw [tk_ref_u]
        exact h
theorem uC_run {ts : List wt_t} {n b z e : Nat} (hv : ∀ y, y ∈ ts → pr_vt y) (hl : ts.length ≤ 401) : ∀ (f : Nat) (S : rn_N) (js xs : List Nat) (o : Nat) (s : wt_q) (it : Bool), sm_I ts z e S js xs o s it → s.2 = none → uC S ≤ un ts s.1 → (sm_run ts n b f (S, js, xs, o, s, it)).2.2.2.2.1.2 = none → uC (sm_run ts n b f (S, js, xs, o, s, it)).1 ≤ un ts (sm_run ts n b f (S, js, xs, o, s, it)).2.2.2.2.1.1 := by
  intro f
  induction f with
  | zero => exact fun S js xs o s it _ _ h _ => h
  | succ f ih =>
    intro S js xs o s it hI hs h hn
    by_cases hj0 : js = []
    · rw [sm_run_no (fun w => (sm_go_iff.mp w).1 hj0)]
      exact h
    · rw [sm_run_at (sm_go_iff.mpr ⟨hj0, hs⟩)] at hn ⊢
      have hw := uC_1 (n := n) (b := b) (js := js) (xs := xs) (o := o) (it := it) hl hI.2.2.2.2.2.2.2.2.2 hI.2.2.1 h
      generalize h2 : sm_1 ts n b (S, js, xs, o, s, it) = x at hn hw ⊢
      obtain ⟨S2, js2, xs2, o2, s2, it2⟩ := x
      by_cases hf2 : s2.2 = none
      · obtain ⟨a1, a2, a3, a4⟩ := sm_1_I hv hl hI hs hj0 h2 hf2
        exact ih S2 js2 xs2 o2 s2 it2 a1 hf2 hw hn
      · rw [sm_run_no (fun w => hf2 (sm_go_iff.mp w).2)] at hn
        exact absurd hn hf2
theorem uC_fin {ts : List wt_t} {n z e : Nat} {S : rn_N} {s : wt_q} (hv : ∀ y, y ∈ ts → pr_vt y) (hl : ts.length ≤ 401) (hS : rn_i S) (h : uC S ≤ un ts s.1) (hn : tk_now ts s = (Int8.ofInt 13).toInt32) (hz : z ≤ 20) (he : rn_n S + e ≤ s.1) (hf : (sq_fin ts n z S s).2.2.2.2.1.2 = none) : uC (sq_fin ts n z S s).1 ≤ un ts (sq_fin ts n z S s).2.2.2.2.1.1 := by
  obtain ⟨a1, a2, a3⟩ := tk_ad1 (s := s) (ts := ts) (by rw [hn]; decide)
  unfold sq_fin sq_0 at hf ⊢
  by_cases c : z < 20
  · rw [if_pos c] at hf ⊢
    exact uC_run (z := z) (e := e) hv hl 402 S [0] [] (z + 1) (tk_adv ts s) true (sq_0_I (n := n) hS hn c he) (by rw [a2]) (Nat.le_trans h (un_le tk_adv_u)) hf
  · rw [if_neg c] at hf
    rw [sm_run_no (fun w => by
      have := (sm_go_iff.mp w).2
      rw [tk_rf1 a1] at this
      cases this)] at hf
    have hf : (tk_ref ts n s).2 = none := hf
    rw [tk_rf1 a1] at hf
    cases hf
theorem uC_m {S : rn_N} {x : nq_N} (hr : ¬ nq_row (nq_k x)) : uC (rn_m S x) = uC S := uC_mk0 (decide_eq_false (fun z => hr (Or.inr (Or.inr z))))
theorem uC_c {ts : List wt_t} {n : Nat} {S : rn_N} {s : wt_q} : uC (sm_c ts n S s) = uC S := uC_mk0 rfl
theorem uC_step {ts : List wt_t} {n : Nat} {S : rn_N} {fr : List ap_F} {p : Option Nat} {o : Nat} {s : wt_q} {sq : List Nat} (hv : ∀ y, y ∈ ts → pr_vt y) (hl : ts.length ≤ 401) (h : ap_I ts S fr p o s sq) (hs : s.2 = none) (hw : uC S ≤ un ts s.1) (hf : (ap_t (ap_1 ts n (S, fr, p, o, s, sq, false))).2 = none) (hk : ap_fk fr) : uC (ap_1 ts n (S, fr, p, o, s, sq, false)).1 ≤ un ts (ap_t (ap_1 ts n (S, fr, p, o, s, sq, false))).1 := by
  have hle : s.1 ≤ (ap_t (ap_1 ts n (S, fr, p, o, s, sq, false))).1 := by
    generalize h2 : ap_1 ts n (S, fr, p, o, s, sq, false) = y at hf ⊢
    obtain ⟨S2, fr2, p2, o2, s2, sq2, d2⟩ := y
    exact (ap_1_I hv hl h hs h2 hf).2.2.2
  have hu := un_le (ts := ts) hle
  obtain ⟨i1, iq, i2, i3, i4, i5, i6, i7, i8⟩ := h
  cases p with
  | none =>
    have hf : (ap_t (ap_b ts n S fr o s sq)).2 = none := hf
    have hu : un ts s.1 ≤ un ts (ap_t (ap_b ts n S fr o s sq)).1 := hu
    show uC (ap_b ts n S fr o s sq).1 ≤ un ts (ap_t (ap_b ts n S fr o s sq)).1
    have key : ∀ S2, uC S2 = uC S → uC S2 ≤ un ts (ap_t (ap_b ts n S fr o s sq)).1 := fun S2 e => by omega
    by_cases c1 : tk_now ts s = (Int8.ofInt 26).toInt32
    · refine key _ ?_
      unfold ap_b
      rw [if_pos c1]
    by_cases c2 : tk_now ts s = (Int8.ofInt 28).toInt32
    · refine key _ ?_
      unfold ap_b
      rw [if_neg c1, if_pos c2]
    by_cases c3 : tk_now ts s = (Int8.ofInt 27).toInt32
    · have e0 : ap_b ts n S fr o s sq = ap_nv ts n S fr o (tk_adv ts s) sq := by
        unfold ap_b
        rw [if_neg c1, if_neg c2, if_pos c3]
      rw [e0] at hf key ⊢
      obtain ⟨a1, a2, a3⟩ := tk_ad1 (s := s) (ts := ts) (by rw [c3]; decide)
      have a21 : (tk_adv ts s).1 = s.1 + 1 := by rw [a2]
      by_cases c4 : tk_now ts (tk_adv ts s) = (Int8.ofInt 13).toInt32
      · unfold ap_nv at hf ⊢
        rw [if_pos c4] at hf ⊢
        have g := uC_fin (z := o) (e := fr.length) hv hl i1 (Nat.le_trans hw (un_le tk_adv_u)) c4 i5 (by rw [a21]; omega) hf
        show uC (rn_m (sq_fin ts n o S (tk_adv ts s)).1 _) ≤ un ts (sq_fin ts n o S (tk_adv ts s)).2.2.2.2.1.1
        rw [uC_m (nq_no (by show 11 < 23 ∨ _; omega))]
        exact g
      · refine key _ ?_
        unfold ap_nv
        rw [if_neg c4]
    by_cases c4 : tk_now ts s = (Int8.ofInt 13).toInt32
    · have e0 : ap_b ts n S fr o s sq = ap_sq ts fr sq (sq_fin ts n o S s) := by
        unfold ap_b
        rw [if_neg c1, if_neg c2, if_neg c3, if_pos c4]
      rw [e0] at hf ⊢
      have hfin : (sq_fin ts n o S s).2.2.2.2.1.2 = none := by
        generalize sq_fin ts n o S s = r at hf ⊢
        unfold ap_sq at hf
        by_cases c5 : tk_now ts r.2.2.2.2.1 = (Int8.ofInt 18).toInt32
        · exact (tk_ad1 (ts := ts) (s := r.2.2.2.2.1) (by rw [c5]; decide)).1
        rw [if_neg c5] at hf
        by_cases c6 : tk_now ts r.2.2.2.2.1 = (Int8.ofInt 19).toInt32
        · exact (tk_ad1 (ts := ts) (s := r.2.2.2.2.1) (by rw [c6]; decide)).1
        rw [if_neg c6] at hf
        exact hf
      have g := uC_fin (z := o) (e := fr.length) hv hl i1 hw c4 i5 (by omega) hfin
      generalize sq_fin ts n o S s = r at g ⊢
      have ga : uC r.1 ≤ un ts (tk_adv ts r.2.2.2.2.1).1 := Nat.le_trans g (un_le tk_adv_u)
      unfold ap_sq
      split
      · exact ga
      split
      · exact ga
      · show uC (rn_m r.1 _) ≤ un ts r.2.2.2.2.1.1
        rw [uC_m (nq_no (Or.inr (Or.inr rfl)))]
        exact g
    by_cases c5 : tk_now ts s = (Int8.ofInt 15).toInt32
    · refine key _ ?_
      unfold ap_b
      rw [if_neg c1, if_neg c2, if_neg c3, if_neg c4, if_pos c5]
      split
      · rfl
      · rfl
    · refine key _ ?_
      unfold ap_b
      rw [if_neg c1, if_neg c2, if_neg c3, if_neg c4, if_neg c5]
      unfold ap_cd
      split
      · exact uC_c
      · exact uC_c
  | some x =>
    have hu : un ts s.1 ≤ un ts (ap_t (ap_e ts n S x o s sq fr)).1 := hu
    show uC (ap_e ts n S x o s sq fr).1 ≤ un ts (ap_t (ap_e ts n S x o s sq fr)).1
    have key : uC (ap_e ts n S x o s sq fr).1 = uC S := by
      cases fr with
      | nil => rfl
      | cons f fr =>
        obtain ⟨h1, h2⟩ := ap_fk_t hk
        show uC (ap_e1 ts n S x o s sq f fr).1 = uC S
        unfold ap_e1
        split
        · exact uC_m (nq_no (by show 15 < 23 ∨ _; omega))
        split
        · exact uC_m h1
        split
        · rfl
        split
        · exact (uC_m (nq_no (by show 13 < 23 ∨ _; omega))).trans uC_c
        split
        · exact (uC_m (nq_no (by show 14 < 23 ∨ _; omega))).trans uC_c
        · rfl
    omega
theorem uC_ap {ts : List wt_t} {n : Nat} (hv : ∀ y, y ∈ ts → pr_vt y) (hl : ts.length ≤ 401) : ∀ (f : Nat) (S : rn_N) (fr : List ap_F) (p : Option Nat) (o : Nat) (s : wt_q) (sq : List Nat) (d : Bool), ap_I ts S fr p o s sq → s.2 = none → ap_fk fr → uC S ≤ un ts s.1 → rn_y S → (ap_t (ap_run ts n f (S, fr, p, o, s, sq, d))).2 = none → ∃ i, i ≤ ts.length ∧ uC (ap_run ts n f (S, fr, p, o, s, sq, d)).1 ≤ un ts i := by
  intro f
  induction f with
  | zero => exact fun S fr p o s sq d hI _ _ h _ _ => ⟨s.1, hI.2.2.2.2.2.2.2.1, h⟩
  | succ f ih =>
    intro S fr p o s sq d hI hs hk hw hy hn
    cases d with
    | true =>
      rw [ap_run_no (fun w => by cases (ap_go_iff.mp w).1)]
      exact ⟨s.1, hI.2.2.2.2.2.2.2.1, hw⟩
    | false =>
      rw [ap_run_at (ap_go_iff.mpr ⟨rfl, hs⟩)] at hn ⊢
      have g := uC_step (n := n) hv hl hI hs hw
      have k : ap_fk (ap_1 ts n (S, fr, p, o, s, sq, false)).2.1 ∧ rn_y (ap_1 ts n (S, fr, p, o, s, sq, false)).1 := by
        cases p with
        | none =>
          obtain ⟨a, b⟩ := rn_y_b (ts := ts) (n := n) (o := o) (s := s) (sq := sq) hy hk
          exact ⟨b, a⟩
        | some x =>
          obtain ⟨a, b⟩ := rn_y_e (ts := ts) (n := n) (x := x) (o := o) (s := s) (sq := sq) (fr := fr) hy hk
          exact ⟨b, a⟩
      generalize h2 : ap_1 ts n (S, fr, p, o, s, sq, false) = y at hn g k ⊢
      obtain ⟨S2, fr2, p2, o2, s2, sq2, d2⟩ := y
      by_cases hf2 : s2.2 = none
      · obtain ⟨a1, a2, a3, a4⟩ := ap_1_I hv hl hI hs h2 hf2
        exact ih S2 fr2 p2 o2 s2 sq2 d2 a1 hf2 k.1 (g hf2 hk) k.2 hn
      · rw [ap_run_no (fun w => hf2 (ap_go_iff.mp w).2)] at hn
        exact absurd hn hf2
theorem uC_all {ts : List wt_t} {n : Nat} (hv : ∀ y, y ∈ ts → pr_vt y) (hl : ts.length ≤ 401) (hf : (ap_t (ap_fin ts n)).2 = none) : ∃ i, i ≤ ts.length ∧ uC (ap_fin ts n).1 ≤ un ts i := uC_ap hv hl _ _ _ _ _ _ _ _ ap_I_0 rfl (fun f hf => absurd hf (by simp)) (Nat.zero_le _) rn_y_0 hf
theorem uC_few {t : Nat → Int32} {n : Nat} (ht : wt_tx t n) (hn : n ≤ 400) (hv : ∀ y, y ∈ rd_ts t n → pr_vt y) (hl : (rd_ts t n).length ≤ 401) (hf : (ap_t (ap_fin (rd_ts t n) n)).2 = none) : uC (ap_fin (rd_ts t n) n).1 ≤ 133 := by
  obtain ⟨i, h1, h2⟩ := uC_all hv hl hf
  have h3 : 0 + (i + 2 * un (rd_ts t n) i) ≤ n + 1 := un_lex ht (n - 0) 0 (Nat.zero_le _) i h1
  have h4 := un_id (ts := rd_ts t n) i
  omega
end UN
