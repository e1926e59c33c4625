/-! ===== how the reference holds nodes ===== -/
/-- how the reference holds a node -/
def pn_1 (I : Nat → Nat → Int32) (S : rn_N) (m0 x : Nat) : Prop := I 462 x = Int32.ofNat (rn_k S x) ∧ I 467 x = Int32.ofNat (rn_w S x) ∧ (rn_k S x = 60 → ∃ f g, I 463 x = Int32.ofNat f ∧ I 464 x = Int32.ofNat g ∧ f ≤ g ∧ g ≤ m0 ∧ ∀ u, u < 64 → (rn_h S x u = true ↔ ∃ c, f ≤ c ∧ c < g ∧ ce_h (I 468 c) (Int32.ofNat u))) ∧ (¬ rn_k S x = 60 → I 463 x = Int32.ofNat (nq_l (rn_d S x)) ∧ I 464 x = Int32.ofNat (nq_r (rn_d S x)) ∧ ((42 ≤ rn_k S x ∧ rn_k S x ≤ 44) ∨ rn_k S x = 12 → I 465 x = Int32.ofNat (nq_a (rn_d S x))) ∧ (rn_k S x = 42 → I 466 x = Int32.ofNat (nq_b (rn_d S x))))
def pn_M (I : Nat → Nat → Int32) (S : rn_N) (m0 : Nat) : Prop := I 460 16 = Int32.ofNat (rn_n S) ∧ I 460 18 = Int32.ofNat m0 ∧ ∀ x, x < rn_n S → pn_1 I S m0 x
theorem pn_1_c {I J : Nat → Nat → Int32} {S S2 : rn_N} {m0 m1 x : Nat} (h : pn_1 I S m0 x) (hm : m0 ≤ m1) (h1 : ∀ c, 462 ≤ c → c ≤ 467 → J c x = I c x) (h2 : ∀ j, j < m0 → J 468 j = I 468 j) (hd : rn_d S2 x = rn_d S x) (hw : rn_w S2 x = rn_w S x) (hh : rn_h S2 x = rn_h S x) : pn_1 J S2 m1 x := by
  have hk : rn_k S2 x = rn_k S x := by
    unfold rn_k
    rw [hd]
  obtain ⟨a1, a2, a3, a4⟩ := h
  unfold pn_1
  rw [h1 462 (by omega) (by omega), h1 463 (by omega) (by omega), h1 464 (by omega) (by omega), h1 465 (by omega) (by omega), h1 466 (by omega) (by omega), h1 467 (by omega) (by omega), hk, hd, hw, hh]
  refine ⟨a1, a2, fun z => ?_, a4⟩
  obtain ⟨f, g, b1, b2, b3, b4, b5⟩ := a3 z
  refine ⟨f, g, b1, b2, b3, by omega, fun u hu => (b5 u hu).trans ?_⟩
  constructor
  · rintro ⟨c, c1, c2, c3⟩
    exact ⟨c, c1, c2, by rw [h2 c (by omega)]; exact c3⟩
  · rintro ⟨c, c1, c2, c3⟩
    exact ⟨c, c1, c2, by rw [h2 c (by omega)] at c3; exact c3⟩
theorem pn_M_c {I J : Nat → Nat → Int32} {S : rn_N} {m0 : Nat} (h : pn_M I S m0) (hJ : ∀ c j, (c = 460 ∧ (j = 16 ∨ j = 18)) ∨ (462 ≤ c ∧ c ≤ 468) → J c j = I c j) : pn_M J S m0 := ⟨by rw [hJ _ _ (by omega)]; exact h.1, by rw [hJ _ _ (by omega)]; exact h.2.1, fun x hx => pn_1_c (h.2.2 x hx) (Nat.le_refl _) (fun c a b => hJ c x (by omega)) (fun j _ => hJ _ j (by omega)) rfl rfl rfl⟩
/-- a node more -/
theorem pn_M_mk {I : Nat → Nat → Int32} {S : rn_N} {m0 w : Nat} {x : nq_N} {h : Nat → Bool} {a b : Int32} (hM : pn_M I S m0) (hk : ¬ nq_k x = 60) (ha : (42 ≤ nq_k x ∧ nq_k x ≤ 44) ∨ nq_k x = 12 → a = Int32.ofNat (nq_a x)) (hb : nq_k x = 42 → b = Int32.ofNat (nq_b x)) : pn_M (wv_u (pm_mk I (rn_n S) (Int32.ofNat (nq_k x)) (Int32.ofNat (nq_l x)) (Int32.ofNat (nq_r x)) a b) 467 (rn_n S) (Int32.ofNat w)) (rn_mk S x w h) m0 := by
  obtain ⟨h1, h2, h3⟩ := hM
  refine ⟨?_, ?_, fun y hy => ?_⟩
  · rw [wv_u_no _ _ (by omega)]
    unfold pm_mk
    exact wv_u_at _ _ _ _
  · rw [wv_u_no _ _ (by omega), pm_mk_no (by omega) (by omega)]
    exact h2
  · have hy : y < rn_n S + 1 := hy
    by_cases e : y = rn_n S
    · subst e
      obtain ⟨a1, a2, a3, a4⟩ := rn_mk_a (S := S) (x := x) (w := w) (h := h)
      have k1 : rn_k (rn_mk S x w h) (rn_n S) = nq_k x := rn_mk_k
      unfold pn_1
      rw [k1, a1, a2]
      have g : ∀ c, 462 ≤ c → c ≤ 466 → wv_u (pm_mk I (rn_n S) (Int32.ofNat (nq_k x)) (Int32.ofNat (nq_l x)) (Int32.ofNat (nq_r x)) a b) 467 (rn_n S) (Int32.ofNat w) c (rn_n S) = pm_mk I (rn_n S) (Int32.ofNat (nq_k x)) (Int32.ofNat (nq_l x)) (Int32.ofNat (nq_r x)) a b c (rn_n S) := fun c c1 c2 => wv_u_no _ _ (by omega)
      have v2 : pm_mk I (rn_n S) (Int32.ofNat (nq_k x)) (Int32.ofNat (nq_l x)) (Int32.ofNat (nq_r x)) a b 462 (rn_n S) = Int32.ofNat (nq_k x) := by
        unfold pm_mk
        rw [wv_u_no _ _ (by omega), wv_u_no _ _ (by omega), wv_u_no _ _ (by omega), wv_u_no _ _ (by omega), wv_u_no _ _ (by omega), wv_u_no _ _ (by omega)]
        exact wv_u_at _ _ _ _
      have v3 : pm_mk I (rn_n S) (Int32.ofNat (nq_k x)) (Int32.ofNat (nq_l x)) (Int32.ofNat (nq_r x)) a b 463 (rn_n S) = Int32.ofNat (nq_l x) := by
        unfold pm_mk
        rw [wv_u_no _ _ (by omega), wv_u_no _ _ (by omega), wv_u_no _ _ (by omega), wv_u_no _ _ (by omega), wv_u_no _ _ (by omega)]
        exact wv_u_at _ _ _ _
      have v4 : pm_mk I (rn_n S) (Int32.ofNat (nq_k x)) (Int32.ofNat (nq_l x)) (Int32.ofNat (nq_r x)) a b 464 (rn_n S) = Int32.ofNat (nq_r x) := by
        unfold pm_mk
        rw [wv_u_no _ _ (by omega), wv_u_no _ _ (by omega), wv_u_no _ _ (by omega), wv_u_no _ _ (by omega)]
        exact wv_u_at _ _ _ _
      have v5 : pm_mk I (rn_n S) (Int32.ofNat (nq_k x)) (Int32.ofNat (nq_l x)) (Int32.ofNat (nq_r x)) a b 465 (rn_n S) = a := by
        unfold pm_mk
        rw [wv_u_no _ _ (by omega), wv_u_no _ _ (by omega), wv_u_no _ _ (by omega)]
        exact wv_u_at _ _ _ _
      have v6 : pm_mk I (rn_n S) (Int32.ofNat (nq_k x)) (Int32.ofNat (nq_l x)) (Int32.ofNat (nq_r x)) a b 466 (rn_n S) = b := by
        unfold pm_mk
        rw [wv_u_no _ _ (by omega), wv_u_no _ _ (by omega)]
        exact wv_u_at _ _ _ _
      rw [g 462 (by omega) (by omega), g 463 (by omega) (by omega), g 464 (by omega) (by omega), g 465 (by omega) (by omega), g 466 (by omega) (by omega), v2, v3, v4, v5, v6]
      exact ⟨rfl, wv_u_at _ _ _ _, fun z => absurd z hk, fun _ => ⟨rfl, rfl, ha, hb⟩⟩
    · have hy2 : y < rn_n S := by omega
      obtain ⟨a1, a2, a3, a4⟩ := rn_mk_d (S := S) (x := x) (w := w) (h := h) hy2
      exact pn_1_c (h3 y hy2) (Nat.le_refl _) (fun c c1 c2 => by rw [wv_u_no _ _ (by omega), pm_mk_no (by omega) (by omega)]) (fun j _ => by rw [wv_u_no _ _ (by omega), pm_mk_no (by omega) (by omega)]) a1 a2 a3
/-- a condition more -/
theorem pn_M_cd {I J : Nat → Nat → Int32} {S : rn_N} {m0 n : Nat} {ts : List wt_t} {s : wt_q} (hM : pn_M I S m0) (h18 : J 460 18 = Int32.ofNat (m0 + (cd_all ts n s).1.length + 1)) (hcc : pm_cc J m0 ((cd_all ts n s).1 ++ [(cd_all ts n s).2.1])) (hF : pm_FC m0 I J) : pn_M (wv_u (pm_mk J (rn_n S) (Int8.ofInt 60).toInt32 (Int32.ofNat m0) (Int32.ofNat (m0 + (cd_all ts n s).1.length + 1)) (Int32.ofInt 0) (Int32.ofInt 0)) 467 (rn_n S) (Int32.ofInt 1)) (sm_c ts n S s) (m0 + (cd_all ts n s).1.length + 1) := by
  obtain ⟨h1, h2, h3⟩ := hM
  refine ⟨?_, ?_, fun y hy => ?_⟩
  · rw [wv_u_no _ _ (by omega)]
    unfold pm_mk
    exact wv_u_at _ _ _ _
  · rw [wv_u_no _ _ (by omega), pm_mk_no (by omega) (by omega)]
    exact h18
  · have hy : y < rn_n S + 1 := hy
    by_cases e : y = rn_n S
    · subst e
      obtain ⟨a1, a2, a3, a4⟩ := rn_mk_a (S := S) (x := (60, 0, 0, 0, 0)) (w := 1) (h := cd_h (cd_all ts n s))
      have k1 : rn_k (sm_c ts n S s) (rn_n S) = 60 := rn_mk_k
      unfold pn_1
      rw [k1]
      refine ⟨?_, ?_, fun _ => ⟨m0, m0 + (cd_all ts n s).1.length + 1, ?_, ?_, by omega, Nat.le_refl _, fun u hu => ?_⟩, fun z => absurd rfl z⟩
      · rw [wv_u_no _ _ (by omega)]
        unfold pm_mk
        rw [wv_u_no _ _ (by omega), wv_u_no _ _ (by omega), wv_u_no _ _ (by omega), wv_u_no _ _ (by omega), wv_u_no _ _ (by omega), wv_u_no _ _ (by omega)]
        exact wv_u_at _ _ _ _
      · rw [wv_u_at]
        unfold sm_c
        rw [a2]
        rfl
      · rw [wv_u_no _ _ (by omega)]
        unfold pm_mk
        rw [wv_u_no _ _ (by omega), wv_u_no _ _ (by omega), wv_u_no _ _ (by omega), wv_u_no _ _ (by omega), wv_u_no _ _ (by omega)]
        exact wv_u_at _ _ _ _
      · rw [wv_u_no _ _ (by omega)]
        unfold pm_mk
        rw [wv_u_no _ _ (by omega), wv_u_no _ _ (by omega), wv_u_no _ _ (by omega), wv_u_no _ _ (by omega)]
        exact wv_u_at _ _ _ _
      · have eh : rn_h (sm_c ts n S s) (rn_n S) = cd_h (cd_all ts n s) := a3
        rw [eh]
        unfold cd_h
        rw [List.any_eq_true]
        constructor
        · rintro ⟨c, c1, c2⟩
          obtain ⟨i, i1, i2⟩ := List.getElem_of_mem c1
          have i3 : ((cd_all ts n s).1 ++ [(cd_all ts n s).2.1])[i]? = some c := by
            rw [List.getElem?_eq_getElem i1, i2]
          have i1 : i < (cd_all ts n s).1.length + 1 := by
            simpa using i1
          refine ⟨m0 + i, by omega, by omega, ?_⟩
          rw [wv_u_no _ _ (by omega), pm_mk_no (by omega) (by omega), hcc i c i3]
          exact (cd_p_ok hu).mp c2
        · rintro ⟨c, c1, c2, c3⟩
          have hi : c - m0 < ((cd_all ts n s).1 ++ [(cd_all ts n s).2.1]).length := by
            simp only [List.length_append, List.length_cons, List.length_nil]
            omega
          refine ⟨((cd_all ts n s).1 ++ [(cd_all ts n s).2.1])[c - m0], List.getElem_mem hi, ?_⟩
          rw [wv_u_no _ _ (by omega), pm_mk_no (by omega) (by omega), show c = m0 + (c - m0) by omega, hcc (c - m0) _ (List.getElem?_eq_getElem hi)] at c3
          exact (cd_p_ok hu).mpr c3
    · have hy2 : y < rn_n S := by omega
      obtain ⟨a1, a2, a3, a4⟩ := rn_mk_d (S := S) (x := (60, 0, 0, 0, 0)) (w := 1) (h := cd_h (cd_all ts n s)) hy2
      exact pn_1_c (h3 y hy2) (by omega) (fun c c1 c2 => by rw [wv_u_no _ _ (by omega), pm_mk_no (by omega) (by omega)]; exact hF _ _ (by omega) (by omega) (by omega)) (fun j hj => by rw [wv_u_no _ _ (by omega), pm_mk_no (by omega) (by omega)]; exact hF _ _ (by omega) (by omega) (by omega)) a1 a2 a3
theorem pm_Z_f {t : Nat → Int32} {ts : List wt_t} {n : Nat} {s s2 : wt_q} {I : Nat → Nat → Int32} (h : pm_Z t ts n s I) (hs : ¬ s.2 = none) (h2 : s2.2 = s.2) : pm_Z t ts n s2 I := by
  obtain ⟨a, b, c, d⟩ := h
  exact ⟨a, by rw [h2]; exact b, fun z hz => c z (h2 ▸ hz), fun z => absurd (h2 ▸ z) hs⟩
theorem pm_badAt {t : Nat → Int32} {ts : List wt_t} {n b : Nat} {s : wt_q} {I : Nat → Nat → Int32} (h : pm_Z t ts n s I) (hs : s.2 = none) (hb : b ≤ 400) : pm_Z t ts n (tk_refAt b s) (wp_bad (Int32.ofNat b) I) := by
  have h8 : I 460 8 = wt_f none := by rw [← hs]; exact h.2.1
  have e1 : tk_refAt b s = (s.1, some b) := by
    unfold tk_refAt
    rw [hs]
  rw [e1]
  obtain ⟨⟨e5, a1, a2⟩, _⟩ := h
  refine ⟨⟨e5, by rw [wp_bad_no (by omega)]; exact a1, a2⟩, ?_, fun z hz => by cases hz; exact hb, fun z => by cases z⟩
  rw [wp_bad_8 (by rw [h8]; decide)]
  rfl
theorem cd_all_bad {ts : List wt_t} {n : Nat} {s : wt_q} (hs : s.2 = none) (h : ¬ pr_bc (tk_now ts s)) : (cd_all ts n s).2.2 = tk_ref ts n s := by
  unfold pr_bc at h
  have hn : lt_nt ts s = false := by
    unfold lt_nt
    exact decide_eq_false (fun z => h (Or.inr (Or.inr (Or.inr z))))
  have e1 : lt_s1 ts s = s := by
    unfold lt_s1
    rw [hn]
    rfl
  have e2 : lt ts n s = (none, tk_ref ts n s) := by
    unfold lt
    rw [e1, if_neg (show ¬ tk_now ts s = Int32.ofInt 3 from fun z => h (Or.inl z)), if_neg (show ¬ tk_now ts s = Int32.ofInt 5 from fun z => h (Or.inr (Or.inr (Or.inl z)))), if_neg (show ¬ tk_now ts s = Int32.ofInt 4 from fun z => h (Or.inr (Or.inl z)))]
  have e3 : cd_all ts n s = cd_0 ts n s := by
    unfold cd_all
    refine cd_no ?_
    unfold cd_go cd_0
    rw [e2]
    have : tk_now ts (tk_ref ts n s) = Int32.ofInt 2 := tk_now_f (by rw [tk_rf1 hs]; exact fun z => by cases z)
    show ¬ (tk_now ts (tk_ref ts n s) = _ ∨ tk_now ts (tk_ref ts n s) = _)
    rw [this]
    decide
  rw [e3]
  unfold cd_0
  rw [e2]
theorem rk_mo {t : Nat → Int32} {ts : List wt_t} {n : Nat} {s : wt_q} {I : Nat → Nat → Int32} (hT : pm_T ts n) (h : pm_Z t ts n s I) (hs : s.2 = none) : rk_m (I 460 3) = rk_of (tk_now ts s) := by
  have k9 := pm_kind hT h hs pr_kc_9
  have k10 := pm_kind hT h hs pr_kc_10
  have k11 := pm_kind hT h hs pr_kc_11
  have k12 := pm_kind hT h hs pr_kc_12
  have e9 : ((Int8.ofInt 9).toInt32).toInt = 9 := rfl
  have e10 : ((Int8.ofInt 10).toInt32).toInt = 10 := rfl
  have e11 : ((Int8.ofInt 11).toInt32).toInt = 11 := rfl
  have e12 : ((Int8.ofInt 12).toInt32).toInt = 12 := rfl
  rw [wi_eq (a := tk_now ts s), e9] at k9
  rw [wi_eq (a := tk_now ts s), e10] at k10
  rw [wi_eq (a := tk_now ts s), e11] at k11
  rw [wi_eq (a := tk_now ts s), e12] at k12
  unfold rk_m rk_of
  by_cases c1 : (tk_now ts s).toInt = 9
  · rw [if_pos c1, if_pos (k9.mpr c1)]
  rw [if_neg c1, if_neg (fun z => c1 (k9.mp z))]
  by_cases c2 : (tk_now ts s).toInt = 10
  · rw [if_pos c2, if_pos (k10.mpr c2)]
  rw [if_neg c2, if_neg (fun z => c2 (k10.mp z))]
  by_cases c3 : (tk_now ts s).toInt = 11
  · rw [if_pos c3, if_pos (k11.mpr c3)]
  rw [if_neg c3, if_neg (fun z => c3 (k11.mp z))]
  by_cases c4 : (tk_now ts s).toInt = 12
  · rw [if_pos c4, if_pos (k12.mpr c4)]
  rw [if_neg c4, if_neg (fun z => c4 (k12.mp z))]
/-- a joint as the reference writes it -/
def sq_op (r : Nat) : Int32 := Int32.ofNat (if r = 0 then 27 else 22 + r)
theorem sq_op_rk : ∀ r : Fin 5, rk_m (sq_op r.1) = r.1 ∧ (sq_op r.1 = (Int8.ofInt 27).toInt32 ↔ r.1 = 0) := by decide
theorem sq_op_tok {t : Nat → Int32} {ts : List wt_t} {n : Nat} {s : wt_q} {I : Nat → Nat → Int32} (hT : pm_T ts n) (h : pm_Z t ts n s I) (hs : s.2 = none) (hr : 0 < rk_of (tk_now ts s)) : I 460 3 = sq_op (rk_of (tk_now ts s)) := by
  have hm := rk_mo hT h hs
  rw [← hm] at hr ⊢
  unfold rk_m at hr ⊢
  by_cases c1 : I 460 3 = (Int8.ofInt 23).toInt32
  · rw [if_pos c1, c1]; rfl
  rw [if_neg c1] at hr ⊢
  by_cases c2 : I 460 3 = (Int8.ofInt 24).toInt32
  · rw [if_pos c2, c2]; rfl
  rw [if_neg c2] at hr ⊢
  by_cases c3 : I 460 3 = (Int8.ofInt 25).toInt32
  · rw [if_pos c3, c3]; rfl
  rw [if_neg c3] at hr ⊢
  by_cases c4 : I 460 3 = (Int8.ofInt 26).toInt32
  · rw [if_pos c4, c4]; rfl
  rw [if_neg c4] at hr
  exact absurd hr (by decide)
def pm_js (I : Nat → Nat → Int32) : List Nat → Prop
  | [] => True
  | r :: js => I 485 js.length = sq_op r ∧ pm_js I js
def pm_xs (I : Nat → Nat → Int32) : List Nat → Prop
  | [] => True
  | y :: l => I 484 l.length = Int32.ofNat y ∧ pm_xs I l
theorem pm_js_c {I J : Nat → Nat → Int32} : ∀ {js : List Nat}, pm_js I js → (∀ k, k < js.length → J 485 k = I 485 k) → pm_js J js
  | [], _, _ => trivial
  | r :: js, h, hJ => ⟨by rw [hJ _ (Nat.lt_succ_self _)]; exact h.1, pm_js_c h.2 (fun k hk => hJ k (Nat.lt_succ_of_lt hk))⟩
theorem pm_xs_c {I J : Nat → Nat → Int32} : ∀ {xs : List Nat}, pm_xs I xs → (∀ k, k < xs.length → J 484 k = I 484 k) → pm_xs J xs
  | [], _, _ => trivial
  | r :: xs, h, hJ => ⟨by rw [hJ _ (Nat.lt_succ_self _)]; exact h.1, pm_xs_c h.2 (fun k hk => hJ k (Nat.lt_succ_of_lt hk))⟩
/-- what reading a sequence leaves alone -/
def pm_FS (I I1 : Nat → Nat → Int32) : Prop := ∀ c j, ¬ (c = 460 ∧ ((3 ≤ j ∧ j ≤ 9) ∨ j = 16 ∨ j = 18 ∨ j = 20)) → ¬ (462 ≤ c ∧ c ≤ 468) → ¬ (c = 484 ∨ c = 485) → I1 c j = I c j
/-- a sequence under way, without a fault; with one -/
def qs_A (t : Nat → Int32) (ts : List wt_t) (n z e : Nat) (S0 : rn_N) (I : Nat → Nat → Int32) (S : rn_N) (js xs : List Nat) (o : Nat) (s : wt_q) (it : Bool) (m1 : Nat) : Prop := s.2 = none ∧ pm_Z t ts n s I ∧ sm_I ts z e S js xs o s it ∧ rn_E S0 S ∧ pn_M I S m1 ∧ m1 ≤ s.1 ∧ pm_js I js ∧ pm_xs I xs ∧ I 460 9 = Int32.ofNat o
def qs_B (t : Nat → Int32) (ts : List wt_t) (n : Nat) (fin : sm_S) (I : Nat → Nat → Int32) : Prop := ∃ s : wt_q, ¬ s.2 = none ∧ pm_Z t ts n s I ∧ fin.2.2.2.2.1.2 = s.2
def sq_0 (ts : List wt_t) (n z : Nat) (S : rn_N) (s : wt_q) : sm_S := if z < 20 then (S, [0], [], z + 1, tk_adv ts s, true) else (S, [0], [], z + 1, tk_ref ts n s, true)
def sq_fin (ts : List wt_t) (n z : Nat) (S : rn_N) (s : wt_q) : sm_S := sm_run ts n (tk_place ts n s.1) 402 (sq_0 ts n z S s)
/-- a turn: what follows of it for the end -/
theorem sq_step {ts : List wt_t} {n b z e f : Nat} {S : rn_N} {js xs : List Nat} {o : Nat} {s : wt_q} {it : Bool} {fin : sm_S} (hv : ∀ y, y ∈ ts → pr_vt y) (hl : ts.length ≤ 401) (h : sm_I ts z e S js xs o s it) (hs : s.2 = none) (hj : ¬ js = []) (hf : sm_run ts n b f (S, js, xs, o, s, it) = fin) (hb : 402 ≤ f + s.1) {S2 : rn_N} {js2 xs2 : List Nat} {o2 : Nat} {s2 : wt_q} {it2 : Bool} (h2 : sm_1 ts n b (S, js, xs, o, s, it) = (S2, js2, xs2, o2, s2, it2)) : (¬ s2.2 = none → fin.2.2.2.2.1.2 = s2.2) ∧ (s2.2 = none → ∃ f2, sm_run ts n b f2 (S2, js2, xs2, o2, s2, it2) = fin ∧ 402 ≤ f2 + s2.1 ∧ sm_I ts z e S2 js2 xs2 o2 s2 it2 ∧ s.1 + 1 ≤ s2.1 ∧ rn_E S S2 ∧ (js2 = [] → it2 = false ∧ rn_w S2 (xs2.headD 0) ≤ 40 ∧ rn_n S2 + e + 2 ≤ s2.1)) := by
  have hlen : s.1 ≤ ts.length := h.2.2.2.2.2.2.2.2.2
  obtain ⟨f2, rfl⟩ : ∃ f2, f = f2 + 1 := ⟨f - 1, by omega⟩
  have e1 : sm_run ts n b f2 (S2, js2, xs2, o2, s2, it2) = fin := by
    rw [← h2, ← sm_run_at (sm_go_iff.mpr ⟨hj, hs⟩)]
    exact hf
  refine ⟨fun w => ?_, fun w => ?_⟩
  · rw [sm_run_no (fun z => w (sm_go_iff.mp z).2)] at e1
    rw [← e1]
  · obtain ⟨a1, a2, a3, a4⟩ := sm_1_I hv hl h hs hj h2 w
    exact ⟨f2, e1, by omega, a1, a2, a3, a4⟩
theorem sq_op_w : ∀ r : Fin 5, sq_op r.1 = (Int8.ofInt 26).toInt32 ↔ r.1 = 4 := by decide
theorem rj_1_I {ts : List wt_t} {z e r y x o : Nat} {S : rn_N} {jt l : List Nat} {s : wt_q} (h : sm_I ts z e S (r :: jt) (y :: x :: l) o s false) (h1 : 1 ≤ r) : sm_I ts z e (rj_1 S r y x) jt (rn_n S :: l) o s false ∧ pj_z jt = pj_z (r :: jt) := by
  obtain ⟨i1, i2, i3, i4, i5, i6, i7, i8, i9, i10⟩ := h
  have h4 := i3 r List.mem_cons_self
  have hy := i2 y List.mem_cons_self
  have hxx := i2 x (List.mem_cons_of_mem _ List.mem_cons_self)
  have e1 : pj_n (r :: jt) = 1 + pj_n jt := by
    show (if r = 0 then 0 else 1) + pj_n jt = _
    rw [if_neg (by omega)]
  have e2 : pj_z (r :: jt) = 0 + pj_z jt := by
    show (if r = 0 then 1 else 0) + pj_z jt = _
    rw [if_neg (by omega)]
  have hS1 : rn_i (rj_1 S r y x) := by
    refine rn_mk_i i1 (Nat.min_le_right _ _) (fun _ _ => ⟨⟨hxx.1, hxx.2⟩, fun _ => hy, fun z => ?_, fun z => ?_, fun z => ?_⟩)
    · have z : 22 + r = 42 := z
      omega
    · have z : 43 ≤ 22 + r ∧ 22 + r ≤ 44 := z
      omega
    · have z : 22 + r = 43 := z
      omega
  have hx1 : rn_x (rj_1 S r y x) (rn_n S :: l) := rn_mk_x1 (rn_x_t (rn_x_t i2)) (Or.inr (Or.inl ⟨(by show 23 ≤ 22 + r; omega), (by show 22 + r ≤ 26; omega)⟩))
  have en : rn_n (rj_1 S r y x) = rn_n S + 1 := rfl
  simp only [List.length_cons] at i5 i6 i9
  have i5 : l.length + 1 + 1 = pj_n (r :: jt) + 1 := i5
  refine ⟨⟨hS1, hx1, fun q hq => i3 q (List.mem_cons_of_mem _ hq), i4.2, ?_, ?_, by omega, i8, ?_, i10⟩, by omega⟩
  · show l.length + 1 = pj_n jt + 1
    omega
  · show l.length + 1 ≤ rn_n S + 1
    omega
  · omega
theorem sq_0_I {ts : List wt_t} {n z e : Nat} {S : rn_N} {s : wt_q} (hS : rn_i S) (hn : tk_now ts s = (Int8.ofInt 13).toInt32) (hz : z < 20) (he : rn_n S + e ≤ s.1) : sm_I ts z e S [0] [] (z + 1) (tk_adv ts s) true := by
  obtain ⟨a1, a2, a3⟩ := tk_ad1 (s := s) (ts := ts) (by rw [hn]; decide)
  rw [a2]
  refine ⟨hS, fun y hy => absurd hy (by simp), fun r hr => ?_, ⟨fun _ => rfl, trivial⟩, rfl, Nat.zero_le _, ?_, by omega, ?_, a3⟩
  · have : r = 0 := by simpa using hr
    omega
  · show z + 1 = (1 + 0) + z
    omega
  · show rn_n S + 1 + e ≤ s.1 + 1
    omega
theorem sq_fin_ok {ts : List wt_t} {n z e : Nat} {S : rn_N} {s : wt_q} (hv : ∀ y, y ∈ ts → pr_vt y) (hl : ts.length ≤ 401) (hS : rn_i S) (hn : tk_now ts s = (Int8.ofInt 13).toInt32) (hz : z ≤ 20) (he : rn_n S + e ≤ s.1) (hf : (sq_fin ts n z S s).2.2.2.2.1.2 = none) : ∃ (S2 : rn_N) (y : Nat) (s2 : wt_q), sq_fin ts n z S s = (S2, [], [y], z, s2, false) ∧ s2.2 = none ∧ rn_i S2 ∧ y < rn_n S2 ∧ nq_row (rn_k S2 y) ∧ rn_E S S2 ∧ rn_w S2 y ≤ 40 ∧ rn_n S2 + e + 2 ≤ s2.1 ∧ s.1 + 1 ≤ s2.1 ∧ s2.1 ≤ ts.length := by
  obtain ⟨a1, a2, a3⟩ := tk_ad1 (s := s) (ts := ts) (by rw [hn]; decide)
  unfold sq_fin sq_0 at hf ⊢
  by_cases c : z < 20
  · rw [if_pos c] at hf ⊢
    obtain ⟨S2, y, o2, s2, c1, c2, c3, c4, c5, c6, c7⟩ := sm_run_ok (z := z) (e := e) hv hl 402 S [0] [] (z + 1) (tk_adv ts s) true (sq_0_I (n := n) hS hn c he) (by rw [a2]) (by omega) (fun w => by cases w) hf
    obtain ⟨i1, i2, i3, i4, i5, i6, i7, i8, i9, i10⟩ := c3
    have i7 : o2 = 0 + z := i7
    rw [a2] at c7
    exact ⟨S2, y, s2, by rw [c1, i7, Nat.zero_add], c2, i1, (i2 y List.mem_cons_self).1, (i2 y List.mem_cons_self).2, c4, c5, c6, c7, i10⟩
  · rw [if_neg c, sm_run_no (fun w => by
      have := (sm_go_iff.mp w).2
      rw [tk_rf1 a1] at this
      cases this)] at hf
    rw [tk_rf1 a1] at hf
    cases hf
