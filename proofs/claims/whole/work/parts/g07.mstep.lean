/-! ===== the reference: steps of its reading ===== -/
/-- the tokens are those of the text -/
def pm_T (ts : List wt_t) (n : Nat) : Prop := (∀ x, x ∈ ts → pr_vt x) ∧ n ≤ 400
/-- the reference stands at the token that the class has next -/
def pm_Z (t : Nat → Int32) (ts : List wt_t) (n : Nat) (s : wt_q) (I : Nat → Nat → Int32) : Prop := (∃ e, I 460 5 = Int32.ofNat e ∧ e ≤ n) ∧ I 460 8 = wt_f s.2 ∧ (∀ z, s.2 = some z → z ≤ 400) ∧ (s.2 = none → ∃ x l e, ts.drop s.1 = x :: l ∧ pr_tk t n x l e ∧ I 460 3 = pr_mc x ∧ I 460 4 = Int32.ofNat x.2.1 ∧ I 460 5 = Int32.ofNat e ∧ (pr_ct x → I 460 6 = x.2.2.1 ∧ I 460 7 = x.2.2.2.1))
def pm_F (I I1 : Nat → Nat → Int32) : Prop := ∀ c j, ¬ (c = 460 ∧ 3 ≤ j ∧ j ≤ 8) → I1 c j = I c j
theorem pm_F_id (I : Nat → Nat → Int32) : pm_F I I := fun _ _ _ => rfl
theorem pm_F_tr {I J K : Nat → Nat → Int32} (h : pm_F I J) (h2 : pm_F J K) : pm_F I K := fun c j a => by rw [h2 c j a, h c j a]
theorem pm_F_N {I J : Nat → Nat → Int32} (h : pr_NF I J) : pm_F I J := fun c j a => h c j (by omega)
theorem pm_F_bad {I : Nat → Nat → Int32} {w : Int32} : pm_F I (wp_bad w I) := fun c j a => wp_bad_no (by omega)
theorem pm_Y {T : wv_T} {I J : Nat → Nat → Int32} {t : Nat → Int32} {n : Nat} (h : wp_Y T I t n) (hF : pm_F I J) : wp_Y T J t n := wp_Y_D h (hF _ _ (by omega)) (fun k => hF _ _ (by omega))
theorem pm_8 {t : Nat → Int32} {ts : List wt_t} {n : Nat} {s : wt_q} {I : Nat → Nat → Int32} (h : pm_Z t ts n s I) : (0 ≤ I 460 8 ↔ ¬ s.2 = none) := by
  obtain ⟨_, h8, hz, _⟩ := h
  rw [h8]
  cases hs : s.2 with
  | none => exact ⟨fun z => absurd z (by decide), fun z => (z rfl).elim⟩
  | some z =>
    have := hz z hs
    refine ⟨fun _ w => (by cases w), fun _ => ?_⟩
    show 0 ≤ Int32.ofNat z
    rw [wi_le, wi_0, wi_on (by omega)]
    omega
theorem pm_at {t : Nat → Int32} {ts : List wt_t} {n : Nat} {s : wt_q} {I : Nat → Nat → Int32} (hT : pm_T ts n) (h : pm_Z t ts n s I) (hs : s.2 = none) : ∃ x l e, ts.drop s.1 = x :: l ∧ ts[s.1]? = some x ∧ tk_now ts s = x.1 ∧ pr_vt x ∧ pr_tk t n x l e ∧ I 460 3 = pr_mc x ∧ I 460 4 = Int32.ofNat x.2.1 ∧ I 460 5 = Int32.ofNat e ∧ (pr_ct x → I 460 6 = x.2.2.1 ∧ I 460 7 = x.2.2.2.1) := by
  obtain ⟨x, l, e, h1, h2, h3, h4, h5, h6⟩ := h.2.2.2 hs
  have ha := (tk_drop h1).1
  exact ⟨x, l, e, h1, ha, tk_now_at hs ha, hT.1 x (List.mem_of_getElem? ha), h2, h3, h4, h5, h6⟩
/-- the kind of the token, as the reference asks for it -/
theorem pm_kind {t : Nat → Int32} {ts : List wt_t} {n : Nat} {s : wt_q} {I : Nat → Nat → Int32} {K C : Int32} (hT : pm_T ts n) (h : pm_Z t ts n s I) (hs : s.2 = none) (hk : pr_kc K C) : I 460 3 = C ↔ tk_now ts s = K := by
  obtain ⟨x, l, e, _, _, h1, h2, _, h3, _⟩ := pm_at hT h hs
  rw [h1, h3]
  exact pr_kc_ok hk h2
/-- a fault is told where the token stands -/
theorem pm_bad {t : Nat → Int32} {ts : List wt_t} {n : Nat} {s : wt_q} {I : Nat → Nat → Int32} (hT : pm_T ts n) (h : pm_Z t ts n s I) (hs : s.2 = none) : pm_Z t ts n (tk_ref ts n s) (wp_bad (I 460 4) I) := by
  obtain ⟨x, l, e, _, ha, _, hv, _, _, h4, _⟩ := pm_at hT h hs
  have h8 : I 460 8 = wt_f none := by rw [← hs]; exact h.2.1
  have e1 : tk_ref ts n s = (s.1, some x.2.1) := by
    unfold tk_ref tk_refAt
    rw [hs, tk_place_at ha]
  rw [e1]
  obtain ⟨⟨e5, a1, a2⟩, _⟩ := h
  refine ⟨⟨e5, by rw [wp_bad_no (by omega)]; exact a1, a2⟩, ?_, fun z hz => by cases hz; exact hv.1, fun z => by cases z⟩
  rw [wp_bad_8 (by rw [h8]; decide)]
  exact h4
def pm_c348 : wv_c1 := fun as T N I L R q => ∃ (t : Nat → Int32) (ts : List wt_t) (n : Nat) (s : wt_q), as = [.ref 460] ∧ wp_Y T I t n ∧ pm_Z t ts n s I ∧ (s.2 = none → ¬ tk_now ts s = 0 ∧ ¬ tk_now ts s = 1) ∧ ∀ I1, pm_Z t ts n (tk_adv ts s) I1 → pm_F I I1 → q (.inl none) T N I1 L R 0 0
theorem pm_c348_of {as : List Value} {T : wv_T} {N : Nat} {I : Nat → Nat → Int32} {L : Nat → Nat → Int64} {R : Nat → Nat → Option Nat} {q : wv_Q} (h : pm_c348 as T N I L R q) : wp_c348 as T N I L R q := by
  obtain ⟨t, ts, n, s, rfl, hY, hZ, hk, h⟩ := h
  cases hs : s.2 with
  | none =>
    obtain ⟨x, l, e, h1, h2, h3, h4, h5, h6⟩ := hZ.2.2.2 hs
    obtain ⟨ha, hb⟩ := tk_drop h1
    have hn := tk_now_at hs ha
    obtain ⟨k0, k1⟩ := hk hs
    rw [hn] at k0 k1
    obtain ⟨hl, _⟩ := h2.2.2.1 k0 k1
    refine ⟨t, n, e, rfl, hY, h5, h2.2.1, fun x2 l2 e2 I1 a1 a2 a3 a4 a5 a6 a7 => h I1 ?_ (pm_F_N a7)⟩
    rw [tk_adv_at hs ha]
    refine ⟨⟨e2, a5, a2.2.1⟩, ?_, fun z hz => (by cases hz), fun _ => ⟨x2, l2, e2, by rw [hb, hl]; exact a1, a2, a3, a4, a5, a6⟩⟩
    rw [a7 _ _ (by omega), hZ.2.1, hs]
  | some z =>
    obtain ⟨⟨e, i5, he⟩, h8, hz, _⟩ := hZ
    refine ⟨t, n, e, rfl, hY, i5, he, fun x2 l2 e2 I1 a1 a2 a3 a4 a5 a6 a7 => h I1 ?_ (pm_F_N a7)⟩
    have ea : tk_adv ts s = s := by unfold tk_adv; rw [hs]
    rw [ea]
    exact ⟨⟨e2, a5, a2.2.1⟩, by rw [a7 _ _ (by omega)]; exact h8, hz, fun w => by rw [hs] at w; cases w⟩
theorem pm_next {sc : pt_Sc} {d : Nat} : wv_C wm_fx sc (d + 1 + 1 + 1 + 1) 348 pm_c348 := fun as T N I L R q h => wp_next (d := d) as T N I L R q (pm_c348_of h)
def pm_c361 : wv_c1 := fun as T N I L R q => ∃ (t : Nat → Int32) (ts : List wt_t) (n : Nat) (s : wt_q) (K C : Int32), as = [.ref 460, .int C] ∧ wp_Y T I t n ∧ pm_T ts n ∧ pm_Z t ts n s I ∧ pr_kc K C ∧ ¬ K = 0 ∧ ¬ K = 1 ∧ ¬ K = Int32.ofInt 2 ∧ ∀ I1, pm_Z t ts n (tk_take ts n K s) I1 → pm_F I I1 → q (.inl none) T N I1 L R 0 0
set_option maxRecDepth 100000 in
theorem wM_361 : ∃ cb ci np, pt_mt 361 = some (32, cb, 2, false, none, ci, np) := ⟨_, _, _, rfl⟩
set_option maxRecDepth 100000 in
set_option maxHeartbeats 4000000 in
theorem pm_take {sc : pt_Sc} {d : Nat} : wv_C wm_fx sc (d + 1 + 1 + 1 + 1 + 1) 361 pm_c361 := by
  rintro as T N I L R q ⟨t, ts, n, s, K, C, rfl, hY, hTs, hZ, hkc, hK0, hK1, hK2, h⟩ w0 HR
  obtain ⟨cb, ci, np, hm⟩ := wM_361
  have hc358 : wv_C wm_fx sc (d + 1 + 1 + 1 + 1) 358 wp_c358 := wv_C_deep (by omega) (wp_badC (d := d))
  have hc348 : wv_C wm_fx sc (d + 1 + 1 + 1 + 1) 348 pm_c348 := wv_C_deep (by omega) (pm_next (d := d))
  refine wv_meth (hh := none) rfl (sp := wv_sp [(358, wp_c358), (348, pm_c348)]) (hd := fun _ => none) (n := 0) (n1 := 300) hm zc_361 rfl (wv_sp_ok (fun q hq => by
    rcases List.mem_cons.mp hq with h | h
    · rw [h]; exact hc358
    rw [List.mem_singleton.mp h]; exact hc348)) ?_ (fun pc P h => by cases h) HR
  have h8 := pm_8 hZ
  cases hs : s.2 with
  | some z =>
    have hge : 0 ≤ I 460 8 := h8.mpr (by rw [hs]; exact fun w => by cases w)
    have h2 := h I (by rw [tk_take_some hs hK2]; exact hZ) (pm_F_id _)
    refine ⟨fun _ => ?_, fun w => (w hge).elim⟩
    exact ⟨fun _ => h2, fun w => (w hge).elim⟩
  | none =>
    have hlt : ¬ 0 ≤ I 460 8 := fun w => (h8.mp w) hs
    have hkd := pm_kind hTs hZ hs hkc
    refine ⟨fun w => (hlt w).elim, fun _ => ?_⟩
    refine ⟨fun w => ?_, fun w => ?_⟩
    · have hxk := hkd.mp w
      have et : tk_take ts n K s = tk_adv ts s := by
        unfold tk_take
        rw [if_pos hxk]
      refine ⟨fun w => (hlt w).elim, fun _ => ?_⟩
      refine ⟨t, ts, n, s, rfl, hY, hZ, fun _ => by rw [hxk]; exact ⟨hK0, hK1⟩, fun I1 a b => h I1 (by rw [et]; exact a) b⟩
    · have hxk : ¬ tk_now ts s = K := fun z => w (hkd.mpr z)
      have et : tk_take ts n K s = tk_ref ts n s := by
        unfold tk_take
        rw [if_neg hxk]
      have hb := pm_bad hTs hZ hs
      have h2 := h (wp_bad (I 460 4) I) (by rw [et]; exact hb) pm_F_bad
      have hge : 0 ≤ wp_bad (I 460 4) I 460 8 := (pm_8 hb).mpr (by rw [tk_ref_n hs]; exact fun w => by cases w)
      refine ⟨_, rfl, ?_⟩
      exact ⟨fun _ => h2, fun w => (w hge).elim⟩
def pm_c362 : wv_c1 := fun as T N I L R q => ∃ (t : Nat → Int32) (ts : List wt_t) (n : Nat) (s : wt_q), as = [.ref 460] ∧ pm_T ts n ∧ pm_Z t ts n s I ∧ s.2 = none ∧ (pr_bc (tk_now ts s) → q (.inl (some (.int 1))) T N I L R 0 0) ∧ (¬ pr_bc (tk_now ts s) → q (.inl (some (.int 0))) T N I L R 0 0)
set_option maxRecDepth 100000 in
theorem wM_362 : ∃ cb ci np, pt_mt 362 = some (32, cb, 1, false, some .boolean, ci, np) := ⟨_, _, _, rfl⟩
set_option maxRecDepth 100000 in
set_option maxHeartbeats 4000000 in
theorem pm_begins {sc : pt_Sc} {d : Nat} : wv_C wm_fx sc (d + 1) 362 pm_c362 := by
  rintro as T N I L R q ⟨t, ts, n, s, rfl, hTs, hZ, hs, h1, h0⟩ w0 HR
  obtain ⟨cb, ci, np, hm⟩ := wM_362
  refine wv_meth (hh := none) rfl (sp := fun _ _ _ _ _ _ _ _ => False) (hd := fun _ => none) (n := 0) (n1 := 300) hm zc_362 rfl (fun k as T N I L R q h => by cases h) ?_ (fun pc P h => by cases h) HR
  obtain ⟨x, l, e, _, _, hn, hv, _, h3, _⟩ := pm_at hTs hZ hs
  have h20 := pm_kind hTs hZ hs pr_kc_6
  have h7 := pr_mc_le7 hv
  rw [← h3, ← hn] at h7
  have e6 : (Int8.ofInt 6).toInt32 = 6 := rfl
  refine ⟨fun w => ?_, fun w => ?_⟩
  · exact ⟨⟨rfl, rfl⟩, h1 ((h7.mp w).elim Or.inl (fun z => z.elim (fun z => Or.inr (Or.inl z)) (fun z => Or.inr (Or.inr (Or.inl z)))))⟩
  · refine ⟨fun w2 => ?_, fun w2 => ?_⟩
    · refine ⟨⟨rfl, rfl⟩, h0 (fun z => ?_)⟩
      rcases z with z | z | z | z
      · exact w (h7.mpr (Or.inl z))
      · exact w (h7.mpr (Or.inr (Or.inl z)))
      · exact w (h7.mpr (Or.inr (Or.inr z)))
      · exact w2 (h20.mpr z)
    · exact ⟨⟨rfl, rfl⟩, h1 (Or.inr (Or.inr (Or.inr (h20.mp (Decidable.not_not.mp w2)))))⟩
def pm_c360 : wv_c1 := fun as T N I L R q => ∃ (t : Nat → Int32) (ts : List wt_t) (n o : Nat) (s : wt_q), as = [.ref 460] ∧ pm_T ts n ∧ pm_Z t ts n s I ∧ s.2 = none ∧ I 460 9 = Int32.ofNat o ∧ o ≤ 20 ∧ ∀ I1, pm_Z t ts n (if o = 20 then tk_ref ts n s else s) I1 → I1 460 9 = Int32.ofNat (o + 1) → (∀ c j, ¬ (c = 460 ∧ (j = 8 ∨ j = 9)) → I1 c j = I c j) → q (.inl none) T N I1 L R 0 0
set_option maxRecDepth 100000 in
theorem wM_360 : ∃ cb ci np, pt_mt 360 = some (32, cb, 1, false, none, ci, np) := ⟨_, _, _, rfl⟩
set_option maxRecDepth 100000 in
set_option maxHeartbeats 4000000 in
theorem pm_opens {sc : pt_Sc} {d : Nat} : wv_C wm_fx sc (d + 1 + 1) 360 pm_c360 := by
  rintro as T N I L R q ⟨t, ts, n, o, s, rfl, hTs, hZ, hs, h9, ho, h⟩ w0 HR
  obtain ⟨cb, ci, np, hm⟩ := wM_360
  have hc358 : wv_C wm_fx sc (d + 1) 358 wp_c358 := wv_C_deep (by omega) (wp_badC (d := d))
  refine wv_meth (hh := none) rfl (sp := wv_sp [(358, wp_c358)]) (hd := fun _ => none) (n := 0) (n1 := 300) hm zc_360 rfl (wv_sp_ok (fun q hq => by rw [List.mem_singleton.mp hq]; exact hc358)) ?_ (fun pc P h => by cases h) HR
  have eo := wi_on (n := o) (by omega)
  have e20 : ((Int8.ofInt 20).toInt32).toInt = 20 := rfl
  have zz : ∀ (J : Nat → Nat → Int32) (s2 : wt_q), pm_Z t ts n s2 J → pm_Z t ts n s2 (wv_u J 460 9 (Int32.ofNat (o + 1))) := by
    intro J s2 hJ
    obtain ⟨⟨e, a1, a2⟩, b1, b2, b3⟩ := hJ
    refine ⟨⟨e, by rw [wv_u_no _ _ (by omega)]; exact a1, a2⟩, by rw [wv_u_no _ _ (by omega)]; exact b1, b2, fun z => ?_⟩
    obtain ⟨x, l, e, c1, c2, c3, c4, c5, c6⟩ := b3 z
    refine ⟨x, l, e, c1, c2, ?_, ?_, ?_, ?_⟩
    · rw [wv_u_no _ _ (by omega)]; exact c3
    · rw [wv_u_no _ _ (by omega)]; exact c4
    · rw [wv_u_no _ _ (by omega)]; exact c5
    · rw [wv_u_no _ _ (by omega), wv_u_no _ _ (by omega)]; exact c6
  refine ⟨fun w => ?_, fun w => ?_⟩
  · have ho2 : ¬ o = 20 := fun z => w (by rw [h9, z]; rfl)
    rw [if_neg ho2] at h
    have h2 := h (wv_u I 460 9 (Int32.ofNat (o + 1))) (zz _ _ hZ) (wv_u_at _ _ _ _) (fun c j hc => wv_u_no _ _ (by omega))
    rw [← wq_4s o, ← h9] at h2
    exact h2
  · have ho2 : o = 20 := by
      have := congrArg Int32.toInt (Decidable.not_not.mp w)
      rw [h9, eo, e20] at this
      omega
    rw [if_pos ho2] at h
    refine ⟨_, rfl, ?_⟩
    have e9 : wp_bad (I 460 4) I 460 9 = Int32.ofNat o := by rw [wp_bad_no (by omega)]; exact h9
    have h2 := h (wv_u (wp_bad (I 460 4) I) 460 9 (Int32.ofNat (o + 1))) (zz _ _ (pm_bad hTs hZ hs)) (wv_u_at _ _ _ _) (fun c j hc => by rw [wv_u_no _ _ (by omega)]; exact wp_bad_no (by omega))
    rw [← wq_4s o, ← e9] at h2
    exact h2
def pm_c367 : wv_c1 := fun as T N I L R q => ∃ x : Nat, as = [.int (Int32.ofNat x)] ∧ x < 2000000000 ∧ q (.inl (some (.int (Int32.ofNat (min x 1000))))) T N I L R 0 0
set_option maxRecDepth 100000 in
theorem wM_367 : ∃ cb ci np, pt_mt 367 = some (32, cb, 1, false, some .int, ci, np) := ⟨_, _, _, rfl⟩
set_option maxRecDepth 100000 in
set_option maxHeartbeats 4000000 in
theorem pm_capped {sc : pt_Sc} {d : Nat} : wv_C wm_fx sc (d + 1) 367 pm_c367 := by
  rintro as T N I L R q ⟨x, rfl, hx, h⟩ w0 HR
  obtain ⟨cb, ci, np, hm⟩ := wM_367
  refine wv_meth (hh := none) rfl (sp := fun _ _ _ _ _ _ _ _ => False) (hd := fun _ => none) (n := 0) (n1 := 300) hm zc_367 rfl (fun k as T N I L R q h => by cases h) ?_ (fun pc P h => by cases h) HR
  have ex := wi_on (n := x) (by omega)
  have e1 : ((Int16.ofInt 1000).toInt32).toInt = 1000 := rfl
  refine ⟨fun w => ?_, fun w => ?_⟩
  · rw [wi_le, ex, e1] at w
    rw [show min x 1000 = x by omega] at h
    exact h
  · rw [wi_le, ex, e1] at w
    rw [show min x 1000 = 1000 by omega] at h
    exact h
