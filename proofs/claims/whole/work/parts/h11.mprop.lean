/-! ===== the reference: properties begun and ended ===== -/
def ap_first (sq : List Nat) : Int32 := match sq with
  | [] => Int32.ofInt (-1)
  | y :: _ => Int32.ofNat y
def ap_v (o : Option Nat) : Int32 := match o with
  | none => Int32.ofInt (-1)
  | some x => Int32.ofNat x
/-- the reference's frames -/
def pm_fr (I : Nat → Nat → Int32) : List ap_F → Prop
  | [] => True
  | f :: fr => (I 486 fr.length = Int32.ofNat f.1 ∧ I 487 fr.length = Int32.ofNat f.2.1 ∧ I 488 fr.length = Int32.ofNat f.2.2) ∧ pm_fr I fr
theorem pm_fr_c {I J : Nat → Nat → Int32} : ∀ {fr : List ap_F}, pm_fr I fr → (∀ c k, 486 ≤ c → c ≤ 488 → k < fr.length → J c k = I c k) → pm_fr J fr
  | [], _, _ => trivial
  | f :: fr, h, hJ => ⟨⟨by rw [hJ _ _ (by omega) (by omega) (Nat.lt_succ_self _)]; exact h.1.1, by rw [hJ _ _ (by omega) (by omega) (Nat.lt_succ_self _)]; exact h.1.2.1, by rw [hJ _ _ (by omega) (by omega) (Nat.lt_succ_self _)]; exact h.1.2.2⟩, pm_fr_c h.2 (fun c k a b hk => hJ c k a b (Nat.lt_succ_of_lt hk))⟩
theorem pm_fr_1 {I : Nat → Nat → Int32} {fr : List ap_F} {k x c : Nat} (h : pm_fr I fr) : pm_fr (pm_ps I fr.length (Int32.ofNat k) (Int32.ofNat x) (Int32.ofNat c)) ((k, x, c) :: fr) := by
  refine ⟨⟨?_, ?_, ?_⟩, pm_fr_c h (fun c k a b hk => pm_ps_no (by omega) (by omega))⟩
  · unfold pm_ps
    rw [wv_u_no _ _ (by omega), wv_u_no _ _ (by omega), wv_u_no _ _ (by omega), wv_u_at]
  · unfold pm_ps
    rw [wv_u_no _ _ (by omega), wv_u_no _ _ (by omega), wv_u_at]
  · unfold pm_ps
    rw [wv_u_no _ _ (by omega), wv_u_at]
theorem pm_ps_72 {I : Nat → Nat → Int32} {m : Nat} {k x y : Int32} : pm_ps I m k x y 460 72 = Int32.ofNat (m + 1) := by
  unfold pm_ps
  exact wv_u_at _ _ _ _
/-- what reading a property leaves alone -/
def pm_FP (I I1 : Nat → Nat → Int32) : Prop := ∀ c j, ¬ (c = 460 ∧ ((3 ≤ j ∧ j ≤ 9) ∨ j = 16 ∨ j = 18 ∨ j = 20 ∨ j = 72)) → ¬ (462 ≤ c ∧ c ≤ 468) → ¬ (484 ≤ c ∧ c ≤ 488) → I1 c j = I c j
theorem pm_YP {T : wv_T} {I J : Nat → Nat → Int32} {t : Nat → Int32} {n : Nat} (h : wp_Y T I t n) (hF : pm_FP I J) : wp_Y T J t n := wp_Y_D h (hF _ _ (by omega) (by omega) (by omega)) (fun k => hF _ _ (by omega) (by omega) (by omega))
/-- a property under way -/
def am_A (t : Nat → Int32) (ts : List wt_t) (n : Nat) (I : Nat → Nat → Int32) (S : rn_N) (fr : List ap_F) (o : Nat) (s : wt_q) (sq : List Nat) (m1 : Nat) : Prop := pm_Z t ts n s I ∧ pn_M I S m1 ∧ m1 ≤ s.1 ∧ pm_fr I fr ∧ I 460 72 = Int32.ofNat fr.length ∧ I 460 9 = Int32.ofNat o ∧ I 460 20 = ap_first sq
def am_B (t : Nat → Int32) (ts : List wt_t) (n : Nat) (I : Nat → Nat → Int32) (y : ap_S) (v : Int32) : Prop := pm_Z t ts n (ap_t y) I ∧ ((ap_t y).2 = none → ∃ m1, v = ap_v y.2.2.1 ∧ ap_I ts y.1 y.2.1 y.2.2.1 y.2.2.2.1 (ap_t y) y.2.2.2.2.2.1 ∧ am_A t ts n I y.1 y.2.1 y.2.2.2.1 (ap_t y) y.2.2.2.2.2.1 m1)
theorem pn_M_m {I : Nat → Nat → Int32} {S : rn_N} {m0 : Nat} {x : nq_N} {a b : Int32} (hM : pn_M I S m0) (hk : ¬ nq_k x = 60) (ha : (42 ≤ nq_k x ∧ nq_k x ≤ 44) ∨ nq_k x = 12 → a = Int32.ofNat (nq_a x)) (hb : nq_k x = 42 → b = Int32.ofNat (nq_b x)) : pn_M (pm_mk I (rn_n S) (Int32.ofNat (nq_k x)) (Int32.ofNat (nq_l x)) (Int32.ofNat (nq_r x)) a b) (rn_m S x) m0 := by
  refine pn_M_c (pn_M_mk (w := 0) (h := fun _ => false) hM hk ha hb) (fun c j d => ?_)
  by_cases e : c = 467 ∧ j = rn_n S
  · rw [e.1, e.2, wv_u_at]
    unfold pm_mk
    rw [wv_u_no _ _ (by omega), wv_u_at]
    rfl
  · rw [wv_u_no _ _ e]
/-- the place in a sequence's post of what is first -/
theorem ap_first_1 {sq : List Nat} {y : Nat} {v : Int32} (hy : y < 1000) (hs : ∀ z, z ∈ sq → z < 1000) (h : v = ap_first sq) : (if v < 0 then Int32.ofNat y else v) = ap_first (sq ++ [y]) := by
  cases sq with
  | nil =>
    rw [h]
    exact if_pos (by decide)
  | cons z l =>
    rw [h]
    have := hs z List.mem_cons_self
    refine if_neg (fun w => ?_)
    have w : Int32.ofNat z < 0 := w
    rw [wi_lt, wi_on (by omega), wi_0] at w
    omega
def pm_c371 : wv_c1 := fun as T N I L R q => ∃ (t : Nat → Int32) (ts : List wt_t) (n m1 o : Nat) (S : rn_N) (s : wt_q), as = [.ref 460] ∧ wp_Y T I t n ∧ pm_T ts n ∧ ts.length ≤ 401 ∧ pm_Z t ts n s I ∧ s.2 = none ∧ ¬ tk_now ts s = 0 ∧ ¬ tk_now ts s = 1 ∧ ¬ tk_now ts s = Int32.ofInt 2 ∧ pn_M I S m1 ∧ m1 ≤ s.1 ∧ rn_n S ≤ 500 ∧ I 460 9 = Int32.ofNat (o + 1) ∧ o ≤ 20 ∧ ∀ v I1, pm_Z t ts n (tk_take ts n ((Int8.ofInt 16).toInt32) (cd_all ts n (tk_adv ts s)).2.2) I1 → (∃ k, I1 460 16 = Int32.ofNat k ∧ k ≤ 501) → ((cd_all ts n (tk_adv ts s)).2.2.2 = none → v = Int32.ofNat (rn_n S) ∧ I1 460 9 = Int32.ofNat o ∧ ∃ m2, m2 ≤ (cd_all ts n (tk_adv ts s)).2.2.1 ∧ pn_M I1 (sm_c ts n S (tk_adv ts s)) m2) → (∀ c j, ¬ (c = 460 ∧ ((3 ≤ j ∧ j ≤ 9) ∨ j = 16 ∨ j = 18)) → ¬ (462 ≤ c ∧ c ≤ 468) → I1 c j = I c j) → q (.inl (some (.int v))) T N I1 L R 0 0
set_option maxRecDepth 100000 in
theorem wM_371 : ∃ cb ci np, pt_mt 371 = some (32, cb, 2, false, some .int, ci, np) := ⟨_, _, _, rfl⟩
set_option maxRecDepth 100000 in
set_option maxHeartbeats 4000000 in
theorem pm_condEnd {sc : pt_Sc} {d : Nat} : wv_C wm_fx sc (d + 1 + 1 + 1 + 1 + 1 + 1 + 1) 371 pm_c371 := by
  rintro as T N I L R q ⟨t, ts, n, m1, o, S, s, rfl, hY, hTs, hl, hZ, hs, hn0, hn1, hn2, hM, hm1, hn5, h9, ho, h⟩ w0 HR
  obtain ⟨cb, ci, np, hm⟩ := wM_371
  have hc348 : wv_C wm_fx sc (d + 1 + 1 + 1 + 1 + 1 + 1) 348 pm_c348 := wv_C_deep (by omega) (pm_next (d := d))
  have hc358 : wv_C wm_fx sc (d + 1 + 1 + 1 + 1 + 1 + 1) 358 wp_c358 := wv_C_deep (by omega) (wp_badC (d := d))
  have hc361 : wv_C wm_fx sc (d + 1 + 1 + 1 + 1 + 1 + 1) 361 pm_c361 := wv_C_deep (by omega) (pm_take (d := d))
  have hc362 : wv_C wm_fx sc (d + 1 + 1 + 1 + 1 + 1 + 1) 362 pm_c362 := wv_C_deep (by omega) (pm_begins (d := d))
  have hc363 : wv_C wm_fx sc (d + 1 + 1 + 1 + 1 + 1 + 1) 363 pm_c363 := wv_C_deep (by omega) (pm_condition (d := d))
  refine wv_meth (hh := none) rfl (sp := wv_sp [(348, pm_c348), (358, wp_c358), (361, pm_c361), (362, pm_c362), (363, pm_c363)]) (hd := fun _ => none) (n := 0) (n1 := 300) hm zc_371 rfl (wv_sp_ok (fun q hq => by
    rcases List.mem_cons.mp hq with h | h
    · rw [h]; exact hc348
    rcases List.mem_cons.mp h with h | h
    · rw [h]; exact hc358
    rcases List.mem_cons.mp h with h | h
    · rw [h]; exact hc361
    rcases List.mem_cons.mp h with h | h
    · rw [h]; exact hc362
    rw [List.mem_singleton.mp h]; exact hc363)) ?_ (fun pc P h => by cases h) HR
  have hT := hY.1.1
  obtain ⟨a1, a2, a3⟩ := tk_ad1 hn2
  have a21 : (tk_adv ts s).1 = s.1 + 1 := by rw [a2]
  have a22 : (tk_adv ts s).2 = none := by rw [a2]
  refine ⟨t, ts, n, s, rfl, hY, hZ, fun _ => ⟨hn0, hn1⟩, fun J hJ hF => ?_⟩
  have jM : pn_M J S m1 := pn_M_c hM (fun c j d => hF _ _ (by omega))
  refine ⟨t, ts, n, tk_adv ts s, rfl, hTs, hJ, a22, fun hb => ?_, fun hb => ?_⟩
  · refine ⟨fun _ => ?_, fun w => absurd (by decide) w⟩
    refine ⟨t, ts, n, m1, rn_n S, tk_adv ts s, rfl, pm_Y hY hF, hTs, hJ, a22, hl, by rw [a21]; exact a3, jM.2.1, by rw [a21]; omega, jM.1, by omega, fun J2 hJ2 hJ18 hJcc hJF => ?_⟩
    have kM := pn_M_cd jM hJ18 hJcc hJF
    obtain ⟨K, hK⟩ : ∃ K, wv_u (pm_mk J2 (rn_n S) (Int8.ofInt 60).toInt32 (Int32.ofNat m1) (Int32.ofNat (m1 + (cd_all ts n (tk_adv ts s)).1.length + 1)) (Int32.ofInt 0) (Int32.ofInt 0)) 467 (rn_n S) (Int32.ofInt 1) = K := ⟨_, rfl⟩
    rw [hK] at kM ⊢
    have kF : ∀ c j, ¬ (c = 460 ∧ ((3 ≤ j ∧ j ≤ 8) ∨ j = 16 ∨ j = 18)) → ¬ (462 ≤ c ∧ c ≤ 468) → K c j = I c j := fun c j d1 d2 => by
      rw [← hK, wv_u_no _ _ (by omega), pm_mk_no (by omega) (by omega), hJF _ _ (by omega) (by omega) (by omega), hF _ _ (by omega)]
    have kZ : pm_Z t ts n (cd_all ts n (tk_adv ts s)).2.2 K := pm_Z_fr hJ2 (fun j d1 d2 => by rw [← hK, wv_u_no _ _ (by omega), pm_mk_no (by omega) (by omega)])
    have kY : wp_Y T K t n := wp_Y_D hY (kF _ _ (by omega) (by omega)) (fun k => kF _ _ (by omega) (by omega))
    refine ⟨t, ts, n, (cd_all ts n (tk_adv ts s)).2.2, (Int8.ofInt 16).toInt32, (Int8.ofInt 30).toInt32, rfl, kY, hTs, kZ, pr_kc_16, by decide, by decide, by decide, fun J3 hJ3 hF3 => ?_⟩
    have j9 : J3 460 9 - Int32.ofInt 1 = Int32.ofNat o := by
      rw [hF3 _ _ (by omega), kF _ _ (by omega) (by omega), h9]
      exact wq_s1 (by omega)
    have h2 := h (Int32.ofNat (rn_n S)) (wv_u J3 460 9 (J3 460 9 - Int32.ofInt 1)) (pm_Z_fr hJ3 (fun j d1 d2 => wv_u_no _ _ (by omega))) ⟨rn_n S + 1, by rw [wv_u_no _ _ (by omega), hF3 _ _ (by omega)]; exact kM.1, by omega⟩ (fun hcf => ⟨rfl, by rw [wv_u_at]; exact j9, m1 + (cd_all ts n (tk_adv ts s)).1.length + 1, ?_, pn_M_c kM (fun c j d => by rw [wv_u_no _ _ (by omega), hF3 _ _ (by omega)])⟩) (fun c j d1 d2 => by rw [wv_u_no _ _ (by omega), hF3 _ _ (by omega), kF _ _ (by omega) d2])
    · exact h2
    · obtain ⟨f2, _, _, _, q4⟩ := cd_B_all (m0 := m1) hl 401 _ _ (by omega) (cd_B_0 (n := n) (s := tk_adv ts s) (by rw [a21]; exact a3) (by rw [a21]; omega))
      exact (q4 hcf).2
  · refine ⟨fun w => absurd rfl w, fun _ => ?_⟩
    refine ⟨_, rfl, ?_⟩
    have ec := cd_all_bad (n := n) a22 hb
    have ht : ¬ (tk_ref ts n (tk_adv ts s)).2 = none := by rw [tk_rf1 a22]; exact fun w => by cases w
    have e2 : tk_take ts n ((Int8.ofInt 16).toInt32) (tk_ref ts n (tk_adv ts s)) = tk_ref ts n (tk_adv ts s) := by
      unfold tk_take
      rw [if_neg (by rw [tk_now_f ht]; decide), tk_rf1 a22]
      rfl
    have h2 := h (Int32.ofInt 0) (wp_bad (J 460 4) J) (by rw [ec, e2]; exact pm_bad hTs hJ a22) ⟨rn_n S, by rw [wp_bad_no (by omega)]; exact jM.1, by omega⟩ (fun hcf => absurd (by rw [ec] at hcf; exact hcf) ht) (fun c j d1 d2 => by rw [wp_bad_no (by omega), hF _ _ (by omega)])
    exact h2
