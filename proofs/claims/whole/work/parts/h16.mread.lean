/-! ===== the reference: read ===== -/
def pm_c361e : wv_c1 := fun as T N I L R q => ∃ (t : Nat → Int32) (ts : List wt_t) (n : Nat) (s : wt_q), as = [.ref 460, .int ((Int8.ofInt 50).toInt32)] ∧ wp_Y T I t n ∧ pm_T ts n ∧ pm_Z t ts n s I ∧ s.2 = none ∧ (tk_now ts s = Int32.ofInt 0 → ∀ I1, I1 460 8 = Int32.ofInt (-1) → pm_F I I1 → q (.inl none) T N I1 L R 0 0) ∧ (¬ tk_now ts s = Int32.ofInt 0 → ∀ I1, pm_Z t ts n (tk_ref ts n s) I1 → pm_F I I1 → q (.inl none) T N I1 L R 0 0)
set_option maxRecDepth 100000 in
set_option maxHeartbeats 4000000 in
theorem pm_takeEnd {sc : pt_Sc} {d : Nat} : wv_C wm_fx sc (d + 1 + 1 + 1 + 1 + 1) 361 pm_c361e := by
  rintro as T N I L R q ⟨t, ts, n, s, rfl, hY, hTs, hZ, hs, q1, q2⟩ w0 HR
  obtain ⟨cb, ci, np, hm⟩ := wM_361
  have hc358 : wv_C wm_fx sc (d + 1 + 1 + 1 + 1) 358 wp_c358 := wv_C_deep (by omega) (wp_badC (d := d))
  have hc348 : wv_C wm_fx sc (d + 1 + 1 + 1 + 1) 348 wp_c348 := wv_C_deep (by omega) (wp_next (d := d))
  refine wv_meth (hh := none) rfl (sp := wv_sp [(358, wp_c358), (348, wp_c348)]) (hd := fun _ => none) (n := 0) (n1 := 300) hm zc_361 rfl (wv_sp_ok (fun q hq => by
    rcases List.mem_cons.mp hq with h | h
    · rw [h]; exact hc358
    rw [List.mem_singleton.mp h]; exact hc348)) ?_ (fun pc P h => by cases h) HR
  have h8 : I 460 8 = Int32.ofInt (-1) := by
    have := hZ.2.1
    rw [hs] at this
    exact this
  have no8 : ¬ 0 ≤ I 460 8 := fun w => (pm_8 hZ).mp w hs
  have hk := pm_kind hTs hZ hs pr_kc_0
  refine ⟨fun w => absurd w no8, fun _ => ?_⟩
  refine ⟨fun w => ?_, fun w => ?_⟩
  · have w := hk.mp w
    refine ⟨fun w2 => absurd w2 no8, fun _ => ?_⟩
    obtain ⟨⟨e, h5, he⟩, _⟩ := hZ
    refine ⟨t, n, e, rfl, hY, h5, he, fun x l e2 I1 a1 a2 a3 a4 a5 a6 a7 => ?_⟩
    exact q1 w I1 (by rw [a7 _ _ (by omega)]; exact h8) (pm_F_N a7)
  · refine ⟨_, rfl, ?_⟩
    have hZ2 := pm_bad hTs hZ hs
    have ht : ¬ (tk_ref ts n s).2 = none := by rw [tk_rf1 hs]; exact fun w => by cases w
    refine ⟨fun _ => ?_, fun w2 => absurd ((pm_8 hZ2).mpr ht) w2⟩
    exact q2 (fun z => w (hk.mpr z)) _ hZ2 pm_F_bad
def rd_ts (t : Nat → Int32) (n : Nat) : List wt_t := wt_lx (pr_st t n) n 0
/-- what reading leaves alone -/
def rd_F (p : Nat) (I I1 : Nat → Nat → Int32) : Prop := ∀ c j, ¬ (c = 460 ∧ (j = 0 ∨ j = 2 ∨ (3 ≤ j ∧ j ≤ 9) ∨ j = 16 ∨ j = 18 ∨ j = 20 ∨ j = 46 ∨ j = 66 ∨ j = 70 ∨ j = 72)) → ¬ (462 ≤ c ∧ c ≤ 468) → ¬ (484 ≤ c ∧ c ≤ 488) → ¬ (c = 476 ∧ 4000 * p ≤ j ∧ j < 4000 * p + 4000) → ¬ (c = 477 ∧ 420 * p ≤ j ∧ j < 420 * p + 420) → ¬ (c = 478 ∧ 800 * p ≤ j ∧ j < 800 * p + 800) → ¬ (479 ≤ c ∧ c ≤ 483 ∧ j = p) → ¬ (c = 520 ∧ 4 * p ≤ j ∧ j < 4 * p + 4) → ¬ (c = 490 ∧ j < 2) → I1 c j = I c j
def rd_F0 (I I1 : Nat → Nat → Int32) : Prop := ∀ c j, ¬ (c = 460 ∧ (j = 0 ∨ (3 ≤ j ∧ j ≤ 9) ∨ j = 16 ∨ j = 18 ∨ j = 20 ∨ j = 72)) → ¬ (462 ≤ c ∧ c ≤ 468) → ¬ (484 ≤ c ∧ c ≤ 488) → I1 c j = I c j
def rd_F1 (I I1 : Nat → Nat → Int32) : Prop := ∀ c j, ¬ (c = 460 ∧ (j = 0 ∨ j = 2 ∨ (3 ≤ j ∧ j ≤ 9) ∨ j = 16 ∨ j = 18 ∨ j = 20 ∨ j = 72)) → ¬ (462 ≤ c ∧ c ≤ 468) → ¬ (484 ≤ c ∧ c ≤ 488) → I1 c j = I c j
/-- a property kept -/
def kp_K (I : Nat → Nat → Int32) (p : Nat) (S : rn_N) (m0 x : Nat) (sq : List Nat) : Prop := pn_M (kp_V I p) S m0 ∧ I 482 p = Int32.ofNat x ∧ I 483 p = ap_first sq ∧ I 479 p = (if fw S = true then (Int8.ofInt 12).toInt32 else (Int8.ofInt 60).toInt32)
/-- fault; done -/
def rd_B (t : Nat → Int32) (ts : List wt_t) (n : Nat) (fin : ap_S) (I : Nat → Nat → Int32) : Prop := ∃ s : wt_q, ¬ s.2 = none ∧ pm_Z t ts n s I ∧ (ap_t fin).2 = s.2
def rd_D (ts : List wt_t) (fin : ap_S) (I : Nat → Nat → Int32) (v : Int32) : Prop := ∃ (S : rn_N) (x o : Nat) (s : wt_q) (sq : List Nat) (m1 : Nat), v = Int32.ofNat x ∧ fin = (S, [], some x, o, s, sq, true) ∧ s.2 = none ∧ I 460 8 = Int32.ofInt (-1) ∧ ap_I ts S [] (some x) o s sq ∧ pn_M I S m1 ∧ m1 ≤ 402 ∧ I 460 20 = ap_first sq
def rd_lv (pi v2 v3 : Int32) : List (Option Value) := [some (.ref 460), some (.int pi), some (.int v2), some (.int v3), none, none]
def pm_h347 (t : Nat → Int32) (ts : List wt_t) (n : Nat) (pi : Int32) (fin : ap_S) (T : wv_T) (N : Nat) (I : Nat → Nat → Int32) (L : Nat → Nat → Int64) (R : Nat → Nat → Option Nat) : Nat → Option (Nat → wv_P) := fun pc =>
  if pc = 67 then some (fun mm lv st T1 N1 I1 L1 R1 nc ns => ∃ v2 v3 : Int32, lv = rd_lv pi v2 v3 ∧ st = [] ∧ T1 = T ∧ N1 = N ∧ L1 = L ∧ R1 = R ∧ nc = 0 ∧ ns = 0 ∧ (∃ p : Nat, p ≤ 1 ∧ pi = Int32.ofNat p) ∧ rd_F0 I I1 ∧ I1 460 0 = 0 ∧ ((10 ≤ mm ∧ rd_B t ts n fin I1) ∨ (10 ≤ mm ∧ v3 = 1 ∧ rd_D ts fin I1 v2) ∨ ∃ (f : Nat) (S : rn_N) (fr : List ap_F) (p2 : Option Nat) (o : Nat) (s : wt_q) (sq : List Nat) (m1 : Nat), v2 = ap_v p2 ∧ v3 = 0 ∧ ap_run ts n f (S, fr, p2, o, s, sq, false) = fin ∧ 3 * (402 - s.1) + fr.length < f ∧ 3 * (402 - s.1) + fr.length + 20 ≤ mm ∧ s.2 = none ∧ ap_I ts S fr p2 o s sq ∧ am_A t ts n I1 S fr o s sq m1))
  else if pc = 117 then some (fun mm lv st T1 N1 I1 L1 R1 nc ns => ∃ v2 v3 : Int32, lv = rd_lv pi v2 v3 ∧ st = [] ∧ T1 = T ∧ N1 = N ∧ L1 = L ∧ R1 = R ∧ nc = 0 ∧ ns = 0 ∧ (∃ p : Nat, p ≤ 1 ∧ pi = Int32.ofNat p) ∧ rd_F0 I I1 ∧ I1 460 0 = 0 ∧ (rd_B t ts n fin I1 ∨ rd_D ts fin I1 v2))
  else none
theorem ap_1_f {ts : List wt_t} {n : Nat} {S : rn_N} {fr : List ap_F} {p : Option Nat} {o : Nat} {s : wt_q} {sq : List Nat} (h : p = none ∨ ¬ fr = []) : (ap_1 ts n (S, fr, p, o, s, sq, false)).2.2.2.2.2.2 = false := by
  cases p with
  | none =>
    show (ap_b ts n S fr o s sq).2.2.2.2.2.2 = false
    unfold ap_b ap_nv ap_sq ap_cd
    repeat' split
    all_goals rfl
  | some x =>
    cases fr with
    | nil => rcases h with z | z
             · cases z
             · exact absurd rfl z
    | cons f fr =>
      show (ap_e1 ts n S x o s sq f fr).2.2.2.2.2.2 = false
      unfold ap_e1 ap_u
      repeat' split
      all_goals rfl
theorem rd_Y {T : wv_T} {I J : Nat → Nat → Int32} {t : Nat → Int32} {n : Nat} (h : wp_Y T I t n) (hF : rd_F0 I J) : wp_Y T J t n := wp_Y_D h (hF _ _ (by omega) (by omega) (by omega)) (fun k => hF _ _ (by omega) (by omega) (by omega))
def pm_c347 : wv_c1 := fun as T N I L R q => ∃ (t : Nat → Int32) (n : Nat) (pi : Int32), as = [.ref 460, .int pi] ∧ wp_Y T I t n ∧ (pi < 0 ∨ Int32.ofInt 1 < pi → q (.inl (some (.int (Int32.ofInt 0)))) T N (wv_u I 460 0 1) L R 0 0) ∧ (∀ p : Nat, p ≤ 1 → pi = Int32.ofNat p → (¬ (ap_t (ap_fin (rd_ts t n) n)).2 = none → ∀ I1, I1 460 0 = 0 → I1 460 2 = 0 → rd_F1 I I1 → q (.inl (some (.int (wt_f (ap_t (ap_fin (rd_ts t n) n)).2)))) T N I1 L R 0 0) ∧ ∀ (S : rn_N) (x o : Nat) (s : wt_q) (sq : List Nat) (m0 : Nat) (I1 : Nat → Nat → Int32), ap_fin (rd_ts t n) n = (S, [], some x, o, s, sq, true) → s.2 = none → ap_I (rd_ts t n) S [] (some x) o s sq → kp_K I1 p S m0 x sq → m0 ≤ 402 → (∀ i, i < 4 → I1 520 (4 * p + i) = 0) → I1 460 0 = 0 → I1 460 2 = 0 → I1 460 46 = 0 → I1 490 0 = 0 → I1 490 1 = 0 → I1 460 66 = 0 → I1 460 70 = 0 → rd_F p I I1 → q (.inl (some (.int (Int32.ofInt (-1))))) T N I1 L R 0 0)
set_option maxRecDepth 100000 in
theorem wM_347 : ∃ cb ci np, pt_mt 347 = some (32, cb, 4, false, some .int, ci, np) := ⟨_, _, _, rfl⟩
set_option maxRecDepth 100000 in
set_option maxHeartbeats 20000000 in
theorem pm_read {sc : pt_Sc} {d : Nat} : wv_C wm_fx sc (d + 1 + 1 + 1 + 1 + 1 + 1 + 1 + 1 + 1 + 1 + 1 + 1) 347 pm_c347 := by
  rintro as T N I L R q ⟨t, n, pi, rfl, hY, hbad, hgood⟩ w0 HR
  obtain ⟨cb, ci, np, hm⟩ := wM_347
  have hc345 : wv_C wm_fx sc (d + 1 + 1 + 1 + 1 + 1 + 1 + 1 + 1 + 1 + 1 + 1) 345 wp_c345 := wv_C_deep (by omega) (wp_refuse (d := d))
  have hc356 : wv_C wm_fx sc (d + 1 + 1 + 1 + 1 + 1 + 1 + 1 + 1 + 1 + 1 + 1) 356 pm_c356 := wv_C_deep (by omega) (pm_beginning (d := d))
  have hc370 : wv_C wm_fx sc (d + 1 + 1 + 1 + 1 + 1 + 1 + 1 + 1 + 1 + 1 + 1) 370 pm_c370 := wv_C_deep (by omega) (pm_ending (d := d))
  have hc372 : wv_C wm_fx sc (d + 1 + 1 + 1 + 1 + 1 + 1 + 1 + 1 + 1 + 1 + 1) 372 pm_c372 := wv_C_deep (by omega) (pm_keep (d := d))
  have hc348 : wv_C wm_fx sc (d + 1 + 1 + 1 + 1 + 1 + 1 + 1 + 1 + 1 + 1 + 1) 348 wp_c348 := wv_C_deep (by omega) (wp_next (d := d))
  have hc361 : wv_C wm_fx sc (d + 1 + 1 + 1 + 1 + 1 + 1 + 1 + 1 + 1 + 1 + 1) 361 pm_c361e := wv_C_deep (by omega) (pm_takeEnd (d := d))
  refine wv_meth (hh := none) rfl (sp := wv_sp [(345, wp_c345), (356, pm_c356), (370, pm_c370), (372, pm_c372), (348, wp_c348), (361, pm_c361e)]) (hd := pm_h347 t (rd_ts t n) n pi (ap_fin (rd_ts t n) n) T N I L R) (n := 300) (n1 := 300) hm zc_347 rfl (wv_sp_ok (fun q hq => by
    rcases List.mem_cons.mp hq with h | h
    · rw [h]; exact hc345
    rcases List.mem_cons.mp h with h | h
    · rw [h]; exact hc356
    rcases List.mem_cons.mp h with h | h
    · rw [h]; exact hc370
    rcases List.mem_cons.mp h with h | h
    · rw [h]; exact hc372
    rcases List.mem_cons.mp h with h | h
    · rw [h]; exact hc348
    rw [List.mem_singleton.mp h]; exact hc361)) ?_ ?_ HR
  · have hT := hY.1.1
    have hn4 : n ≤ 400 := hY.2.2.1
    have e1 : (Int32.ofInt 1).toInt = 1 := rfl
    have bad : pi < 0 ∨ Int32.ofInt 1 < pi → (if Int32.ofInt 1 = 0 then (if Int32.ofInt 0 = 0 then (q (.inl (some (.int (Int32.ofInt 0)))) T N (wv_u I 460 0 1) L R 0 0) else (q (.inl (some (.int (Int32.ofInt 0)))) T N (wv_u I 460 0 1) L R 0 0)) else (q (.inl (some (.int (Int32.ofInt 0)))) T N (wv_u I 460 0 1) L R 0 0)) := fun z => by
      rw [if_neg (by decide)]
      exact hbad z
    refine ⟨fun w => ?_, fun w => ⟨fun w2 => ?_, fun w2 => ?_⟩⟩
    · refine ⟨Int32.ofInt 1, Int32.ofInt 0, rfl, ?_⟩
      rw [if_neg (by decide)]
      refine ⟨fun z => absurd z (by decide), fun _ => hbad (Or.inl w)⟩
    · refine ⟨Int32.ofInt 0, Int32.ofInt 0, rfl, ?_⟩
      rw [if_pos (by decide), if_pos (by decide)]
      refine ⟨fun _ => ?_, fun z => absurd rfl z⟩
      obtain ⟨p, hp, rfl⟩ : ∃ p : Nat, p ≤ 1 ∧ pi = Int32.ofNat p := by
        rw [wi_lt, wi_0] at w
        rw [wi_le, e1] at w2
        refine ⟨pi.toNatClampNeg, by rw [wi_nat]; omega, ?_⟩
        apply wi_eq.mpr
        rw [wi_on (by rw [wi_nat]; omega), wi_nat]
        omega
      obtain ⟨K, hK⟩ : ∃ K, wv_u (wv_u (wv_u (wv_u (wv_u (wv_u (wv_u (wv_u I 460 0 0) 460 16 (Int32.ofInt 0)) 460 9 (Int32.ofInt 0)) 460 18 (Int32.ofInt 0)) 460 72 (Int32.ofInt 0)) 460 8 (Int32.ofInt (-1))) 460 20 (Int32.ofInt (-1))) 460 5 (Int32.ofInt 0) = K := ⟨_, rfl⟩
      have kF : ∀ c j, ¬ (c = 460 ∧ (j = 0 ∨ j = 16 ∨ j = 9 ∨ j = 18 ∨ j = 72 ∨ j = 8 ∨ j = 20 ∨ j = 5)) → K c j = I c j := fun c j d => by
        rw [← hK, wv_u_no _ _ (by omega), wv_u_no _ _ (by omega), wv_u_no _ _ (by omega), wv_u_no _ _ (by omega), wv_u_no _ _ (by omega), wv_u_no _ _ (by omega), wv_u_no _ _ (by omega), wv_u_no _ _ (by omega)]
      have k5 : K 460 5 = Int32.ofNat 0 := by rw [← hK]; exact wv_u_at _ _ _ _
      have k20 : K 460 20 = Int32.ofInt (-1) := by rw [← hK, wv_u_no _ _ (by omega)]; exact wv_u_at _ _ _ _
      have k8 : K 460 8 = Int32.ofInt (-1) := by rw [← hK, wv_u_no _ _ (by omega), wv_u_no _ _ (by omega)]; exact wv_u_at _ _ _ _
      have k72 : K 460 72 = Int32.ofNat 0 := by rw [← hK, wv_u_no _ _ (by omega), wv_u_no _ _ (by omega), wv_u_no _ _ (by omega)]; exact wv_u_at _ _ _ _
      have k18 : K 460 18 = Int32.ofNat 0 := by rw [← hK, wv_u_no _ _ (by omega), wv_u_no _ _ (by omega), wv_u_no _ _ (by omega), wv_u_no _ _ (by omega)]; exact wv_u_at _ _ _ _
      have k9 : K 460 9 = Int32.ofNat 0 := by rw [← hK, wv_u_no _ _ (by omega), wv_u_no _ _ (by omega), wv_u_no _ _ (by omega), wv_u_no _ _ (by omega), wv_u_no _ _ (by omega)]; exact wv_u_at _ _ _ _
      have k16 : K 460 16 = Int32.ofNat 0 := by rw [← hK, wv_u_no _ _ (by omega), wv_u_no _ _ (by omega), wv_u_no _ _ (by omega), wv_u_no _ _ (by omega), wv_u_no _ _ (by omega), wv_u_no _ _ (by omega)]; exact wv_u_at _ _ _ _
      have k0 : K 460 0 = 0 := by rw [← hK, wv_u_no _ _ (by omega), wv_u_no _ _ (by omega), wv_u_no _ _ (by omega), wv_u_no _ _ (by omega), wv_u_no _ _ (by omega), wv_u_no _ _ (by omega), wv_u_no _ _ (by omega)]; exact wv_u_at _ _ _ _
      have kY : wp_Y T K t n := wp_Y_D hY (kF _ _ (by omega)) (fun k => kF _ _ (by omega))
      subst hK
      refine ⟨t, n, 0, rfl, kY, k5, by omega, fun x l e2 I1 a1 a2 a3 a4 a5 a6 a7 => ?_⟩
      have jF : ∀ c j, ¬ (c = 460 ∧ (j = 0 ∨ (3 ≤ j ∧ j ≤ 9) ∨ j = 16 ∨ j = 18 ∨ j = 20 ∨ j = 72)) → I1 c j = I c j := fun c j d => by rw [a7 _ _ (by omega)]; exact kF _ _ (by omega)
      refine ⟨100000, Int32.ofInt (-1), Int32.ofInt 0, rfl, rfl, rfl, rfl, rfl, rfl, rfl, rfl, ⟨p, hp, rfl⟩, fun c j d1 d2 d3 => jF c j d1, by rw [a7 _ _ (by omega)]; exact k0, Or.inr (Or.inr ⟨3000, rn_0, [], none, 0, (0, none), [], 0, rfl, rfl, rfl, by decide, by decide, rfl, ap_I_0, ⟨⟨e2, a5, a2.2.1⟩, by rw [a7 _ _ (by omega)]; exact k8, (fun z hz => by cases hz), fun _ => ⟨x, l, e2, a1, a2, a3, a4, a5, a6⟩⟩, ⟨by rw [a7 _ _ (by omega)]; exact k16, by rw [a7 _ _ (by omega)]; exact k18, fun x hx => absurd hx (Nat.not_lt_zero _)⟩, Nat.le_refl _, trivial, by rw [a7 _ _ (by omega)]; exact k72, by rw [a7 _ _ (by omega)]; exact k9, by rw [a7 _ _ (by omega)]; exact k20⟩)⟩
    · refine ⟨Int32.ofInt 1, Int32.ofInt 0, rfl, ?_⟩
      rw [if_neg (by decide)]
      rw [wi_le, e1] at w2
      refine ⟨fun z => absurd z (by decide), fun _ => hbad (Or.inr (by rw [wi_lt, e1]; omega))⟩
  · intro pc P hP m lv st T1 N1 I1 L1 R1 nc ns hh
    have hT := hY.1.1
    have hn4 : n ≤ 400 := hY.2.2.1
    have hTs : pm_T (rd_ts t n) n := ⟨fun x hx => pr_lex_vt hn4 _ _ x hx, hn4⟩
    have hv := hTs.1
    have hl : (rd_ts t n).length ≤ 401 := by
      have := wt_lex_len (st := pr_st t n) (n := n) (n - 0) 0
      show (wt_lex (pr_st t n) n (n - 0) 0).length ≤ 401
      omega
    unfold pm_h347 at hP
    split at hP
    · cases hP
      rename_i hpc
      subst hpc
      obtain ⟨v2, v3, rfl, rfl, rfl, rfl, rfl, rfl, rfl, rfl, hp, hF, h0, hAB⟩ := hh
      have hY1 := rd_Y hY hF
      rcases hAB with ⟨hm, hB⟩ | ⟨hm, rfl, hD⟩ | ⟨f, S, fr, p2, o, s, sq, m1, rfl, rfl, hrun, hfu, hm, hs, hI, hA⟩
      · have hB0 := hB
        obtain ⟨s, hs, hZ, hfin⟩ := hB
        have h8 := (pm_8 hZ).mpr hs
        refine ⟨fun w => ⟨0, by omega, v2, v3, rfl, rfl, rfl, rfl, rfl, rfl, rfl, rfl, hp, hF, h0, Or.inl hB0⟩, fun w => ⟨fun w2 => ⟨0, by omega, v2, v3, rfl, rfl, rfl, rfl, rfl, rfl, rfl, rfl, hp, hF, h0, Or.inl hB0⟩, fun w2 => absurd h8 w2⟩⟩
      · refine ⟨fun w => ⟨0, by omega, v2, 1, rfl, rfl, rfl, rfl, rfl, rfl, rfl, rfl, hp, hF, h0, Or.inr hD⟩, fun w => absurd (by decide) w⟩
      · have hA0 := hA
        obtain ⟨hZ, hM, hm1, hfr, h72, h9, h20⟩ := hA
        have i6 := hI.2.2.2.2.2.2.1
        have i7 := hI.2.2.2.2.2.2.2.1
        refine ⟨fun w => absurd rfl w, fun _ => ?_⟩
        refine ⟨fun w => absurd ((pm_8 hZ).mp w) (fun z => z hs), fun _ => ?_⟩
        have com : (p2 = none ∨ ¬ fr = []) → ∀ v J, am_B t (rd_ts t n) n J (ap_1 (rd_ts t n) n (S, fr, p2, o, s, sq, false)) v → pm_FP I1 J → ∃ mm, mm < m ∧ ∃ v2 v3 : Int32, rd_lv pi v 0 = rd_lv pi v2 v3 ∧ (∃ p : Nat, p ≤ 1 ∧ pi = Int32.ofNat p) ∧ rd_F0 I J ∧ J 460 0 = 0 ∧ ((10 ≤ mm ∧ rd_B t (rd_ts t n) n (ap_fin (rd_ts t n) n) J) ∨ (10 ≤ mm ∧ v3 = 1 ∧ rd_D (rd_ts t n) (ap_fin (rd_ts t n) n) J v2) ∨ ∃ (f : Nat) (S : rn_N) (fr : List ap_F) (p2 : Option Nat) (o : Nat) (s : wt_q) (sq : List Nat) (m1 : Nat), v2 = ap_v p2 ∧ v3 = 0 ∧ ap_run (rd_ts t n) n f (S, fr, p2, o, s, sq, false) = ap_fin (rd_ts t n) n ∧ 3 * (402 - s.1) + fr.length < f ∧ 3 * (402 - s.1) + fr.length + 20 ≤ mm ∧ s.2 = none ∧ ap_I (rd_ts t n) S fr p2 o s sq ∧ am_A t (rd_ts t n) n J S fr o s sq m1) := by
          intro hne v J hB hJF
          have hd := ap_1_f (ts := rd_ts t n) (n := n) (S := S) (o := o) (s := s) (sq := sq) hne
          have jF : rd_F0 I J := fun c j d1 d2 d3 => by rw [hJF _ _ (by omega) d2 d3]; exact hF c j d1 d2 d3
          have j0 : J 460 0 = 0 := by rw [hJF _ _ (by omega) (by omega) (by omega)]; exact h0
          generalize h2 : ap_1 (rd_ts t n) n (S, fr, p2, o, s, sq, false) = y at hB hd
          obtain ⟨S2, fr2, p3, o2, s2, sq2, d2⟩ := y
          have hd : d2 = false := hd
          subst hd
          have hst := ap_step hv hl hI hs hrun hfu h2
          obtain ⟨B1, B2⟩ := hB
          have B1 : pm_Z t (rd_ts t n) n s2 J := B1
          by_cases hf2 : s2.2 = none
          · obtain ⟨m2, e1, e2, e3⟩ := B2 hf2
            obtain ⟨f2, g1, g2, g3, g4, g5, g6⟩ := hst.2 hf2
            have g6 := g6 rfl
            exact ⟨3 * (402 - s2.1) + fr2.length + 20, by omega, v, 0, rfl, hp, jF, j0, Or.inr (Or.inr ⟨f2, S2, fr2, p3, o2, s2, sq2, m2, e1, rfl, g1, g2 rfl, Nat.le_refl _, hf2, e2, e3⟩)⟩
          · exact ⟨10, by omega, v, 0, rfl, hp, jF, j0, Or.inl ⟨by omega, s2, hf2, B1, hst.1 hf2⟩⟩
        cases p2 with
        | none =>
          refine ⟨fun w => absurd w (by decide), fun _ => ?_⟩
          refine ⟨t, rd_ts t n, n, o, m1, S, fr, s, sq, rfl, hY1, hTs, hl, hs, hI, hA0, fun v J hB hJF => ?_⟩
          obtain ⟨mm, c1, w2, w3, c2, c3, c4, c5, c6⟩ := com (Or.inl rfl) v J hB hJF
          exact ⟨mm, c1, w2, w3, c2, rfl, rfl, rfl, rfl, rfl, rfl, rfl, c3, c4, c5, c6⟩
        | some x =>
          have hx := (hI.2.2.2.1 x rfl).1
          have ex := wi_on (n := x) (by omega)
          have hge : 0 ≤ ap_v (some x) := by
            show 0 ≤ Int32.ofNat x
            rw [wi_le, ex, wi_0]
            omega
          refine ⟨fun _ => ?_, fun w => absurd hge w⟩
          cases fr with
          | nil =>
            have h72 : I1 460 72 = Int32.ofNat 0 := h72
            refine ⟨fun _ => ?_, fun w => absurd (by rw [h72]; decide) w⟩
            have he : ap_1 (rd_ts t n) n (S, [], some x, o, s, sq, false) = (S, [], some x, o, tk_take (rd_ts t n) n (Int32.ofInt 0) s, sq, true) := rfl
            have hst := ap_step hv hl hI hs hrun hfu he
            refine ⟨t, rd_ts t n, n, s, rfl, hY1, hTs, hZ, hs, fun hnw J hJ8 hJF => ?_, fun hnw J hJZ hJF => ?_⟩
            · have et : tk_take (rd_ts t n) n (Int32.ofInt 0) s = tk_adv (rd_ts t n) s := if_pos hnw
              obtain ⟨b1, b2, b3⟩ := tk_ad1 (s := s) (ts := rd_ts t n) (by rw [hnw]; decide)
              rw [et] at hst
              obtain ⟨f2, g1, g2, g3, g4, g5, g6⟩ := hst.2 (by rw [b2])
              rw [ap_run_no (fun w => by cases (ap_go_iff.mp w).1)] at g1
              refine ⟨10, by omega, _, Int32.ofInt 1, rfl, rfl, rfl, rfl, rfl, rfl, rfl, rfl, hp, fun c j d1 d2 d3 => by rw [hJF _ _ (by omega)]; exact hF c j d1 d2 d3, by rw [hJF _ _ (by omega)]; exact h0, Or.inr (Or.inl ⟨by omega, rfl, S, x, o, tk_adv (rd_ts t n) s, sq, m1, rfl, g1.symm, by rw [b2], hJ8, g3, pn_M_c hM (fun c j d => hJF _ _ (by omega)), by omega, by rw [hJF _ _ (by omega)]; exact h20⟩)⟩
            · have et : tk_take (rd_ts t n) n (Int32.ofInt 0) s = tk_ref (rd_ts t n) n s := if_neg hnw
              rw [et] at hst
              have ht : ¬ (tk_ref (rd_ts t n) n s).2 = none := by rw [tk_rf1 hs]; exact fun w => by cases w
              exact ⟨10, by omega, _, Int32.ofInt 1, rfl, rfl, rfl, rfl, rfl, rfl, rfl, rfl, hp, fun c j d1 d2 d3 => by rw [hJF _ _ (by omega)]; exact hF c j d1 d2 d3, by rw [hJF _ _ (by omega)]; exact h0, Or.inl ⟨by omega, tk_ref (rd_ts t n) n s, ht, hJZ, hst.1 ht⟩⟩
          | cons g fr =>
            simp only [List.length_cons] at i6
            have e72 := wi_on (n := (g :: fr).length) (by simp only [List.length_cons]; omega)
            refine ⟨fun w => ?_, fun _ => ?_⟩
            · rw [h72, wi_le, e72, wi_0] at w
              simp only [List.length_cons] at w
              omega
            refine ⟨t, rd_ts t n, n, x, o, m1, S, g, fr, s, sq, rfl, hY1, hTs, hl, hs, hI, hA0, fun v J hB hJF => ?_⟩
            obtain ⟨mm, c1, w2, w3, c2, c3, c4, c5, c6⟩ := com (Or.inr (by simp)) v J hB hJF
            exact ⟨mm, c1, w2, w3, c2, rfl, rfl, rfl, rfl, rfl, rfl, rfl, c3, c4, c5, c6⟩
    · split at hP
      · cases hP
        rename_i hpc
        subst hpc
        obtain ⟨v2, v3, rfl, rfl, rfl, rfl, rfl, rfl, rfl, rfl, ⟨p, hp1, rfl⟩, hF, h0, hAB⟩ := hh
        obtain ⟨qbad, qgood⟩ := hgood p hp1 rfl
        have u8 : wv_u I1 460 2 (Int32.ofInt 0) 460 8 = I1 460 8 := wv_u_no _ _ (by omega)
        rcases hAB with ⟨s, hs, hZ, hfin⟩ | ⟨S, x, o, s, sq, m1, rfl, hfin, hs, h8, hI, hM, hm1, h20⟩
        · have h8 := (pm_8 hZ).mpr hs
          refine ⟨fun w => ?_, fun _ => ?_⟩
          · rw [u8, wi_lt, wi_0] at w
            rw [wi_le, wi_0] at h8
            omega
          · have e8 : wv_u I1 460 2 (Int32.ofInt 0) 460 8 = wt_f (ap_t (ap_fin (rd_ts t n) n)).2 := by rw [u8, hfin]; exact hZ.2.1
            have h3 := qbad (by rw [hfin]; exact hs) (wv_u I1 460 2 (Int32.ofInt 0)) (by rw [wv_u_no _ _ (by omega)]; exact h0) (wv_u_at _ _ _ _) (fun c j d1 d2 d3 => by rw [wv_u_no _ _ (by omega)]; exact hF c j (by omega) d2 d3)
            rw [← e8] at h3
            exact h3
        · have i6 := hI.2.2.2.2.2.2.1
          have i7 := hI.2.2.2.2.2.2.2.1
          have hx := (hI.2.2.2.1 x rfl).1
          refine ⟨fun _ => ?_, fun w => absurd (by rw [u8, h8]; decide) w⟩
          refine ⟨p, x, m1, S, rfl, hp1, by omega, hT, pn_M_c hM (fun c j d => wv_u_no _ _ (by omega)), by omega, by omega, hI.1, hI.2.1, fun y hy => (hI.2.1 y hy).1, fun J k1 k2 k3 k4 k5 k6 k7 k8 k9 k10 k11 => ?_⟩
          have u20 : wv_u I1 460 2 (Int32.ofInt 0) 460 20 = I1 460 20 := wv_u_no _ _ (by omega)
          refine qgood S x o s sq m1 J hfin hs hI ⟨k1, k2, by rw [k3, u20]; exact h20, k4⟩ hm1 k5 ?_ ?_ k6 k7 k8 k9 k10 (fun c j d1 d2 d3 d4 d5 d6 d7 d8 d9 => ?_)
          · rw [k11 _ _ (by omega) (by omega) (by omega) (by omega) (by omega) (by omega) (by omega), wv_u_no _ _ (by omega)]; exact h0
          · rw [k11 _ _ (by omega) (by omega) (by omega) (by omega) (by omega) (by omega) (by omega)]; exact wv_u_at _ _ _ _
          · rw [k11 _ _ d4 d5 d6 d7 d8 d9 (by omega), wv_u_no _ _ (by omega)]; exact hF c j (by omega) d2 d3
      · cases hP
