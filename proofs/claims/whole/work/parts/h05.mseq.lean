/-! ===== the reference: a sequence ===== -/
theorem wq_m1 {k : Nat} (h : k < 1000000) : Int32.ofNat (k + 1) + Int32.ofInt (-1) = Int32.ofNat k := by
  apply wi_eq.mpr
  rw [wi_add, wi_on (by omega), wi_of, wi_on (by omega), wr_id (x := -1) (by omega) (by omega), wr_id (by omega) (by omega)]
  omega
theorem wq_s1 {k : Nat} (h : k < 1000000) : Int32.ofNat (k + 1) - Int32.ofInt 1 = Int32.ofNat k := by
  apply wi_eq.mpr
  rw [wi_sub, wi_on (by omega), wi_of, wi_on (by omega), wr_id (x := 1) (by omega) (by omega), wr_id (by omega) (by omega)]
  omega
theorem pm_YS {T : wv_T} {I J : Nat → Nat → Int32} {t : Nat → Int32} {n : Nat} (h : wp_Y T I t n) (hF : pm_FS I J) : wp_Y T J t n := wp_Y_D h (hF _ _ (by omega) (by omega) (by omega)) (fun k => hF _ _ (by omega) (by omega) (by omega))
def pm_h359 (t : Nat → Int32) (ts : List wt_t) (n b z e : Nat) (S0 : rn_N) (fin : sm_S) (T : wv_T) (N : Nat) (I : Nat → Nat → Int32) (L : Nat → Nat → Int64) (R : Nat → Nat → Option Nat) : Nat → Option (Nat → wv_P) := fun pc =>
  if pc = 39 then some (fun mm lv st T1 N1 I1 L1 R1 nc ns => ∃ (a2 a3 a4 : Int32) (x5 : Option Value), lv = [some (.ref 460), some (.int (Int32.ofNat b)), some (.int a2), some (.int a3), some (.int a4), x5, none] ∧ st = [] ∧ T1 = T ∧ N1 = N ∧ L1 = L ∧ R1 = R ∧ nc = 0 ∧ ns = 0 ∧ pm_FS I I1 ∧ I1 460 20 = I 460 20 ∧ (∃ k, I1 460 16 = Int32.ofNat k ∧ k ≤ 500) ∧ ((10 ≤ mm ∧ qs_B t ts n fin I1) ∨ ∃ (f : Nat) (S : rn_N) (js xs : List Nat) (o : Nat) (s : wt_q) (it : Bool) (m1 : Nat), a2 = Int32.ofNat xs.length ∧ a3 = Int32.ofNat js.length ∧ a4 = wb_i it ∧ sm_run ts n b f (S, js, xs, o, s, it) = fin ∧ 402 ≤ f + s.1 ∧ 1000 * (402 - s.1) + 900 ≤ mm ∧ (js = [] → it = false ∧ rn_w S (xs.headD 0) ≤ 40 ∧ rn_n S + e + 2 ≤ s.1) ∧ qs_A t ts n z e S0 I1 S js xs o s it m1))
  else if pc = 175 then some (fun mm lv st T1 N1 I1 L1 R1 nc ns => ∃ (a2 a3 a4 : Int32) (rk : Nat), lv = [some (.ref 460), some (.int (Int32.ofNat b)), some (.int a2), some (.int a3), some (.int a4), some (.int (Int32.ofNat rk)), none] ∧ st = [] ∧ T1 = T ∧ N1 = N ∧ L1 = L ∧ R1 = R ∧ nc = 0 ∧ ns = 0 ∧ pm_FS I I1 ∧ I1 460 20 = I 460 20 ∧ (∃ k, I1 460 16 = Int32.ofNat k ∧ k ≤ 500) ∧ ((30 ≤ mm ∧ qs_B t ts n fin I1) ∨ ∃ (f : Nat) (Sa : rn_N) (ja xa : List Nat) (S : rn_N) (js xs : List Nat) (o : Nat) (s : wt_q) (m1 : Nat), a2 = Int32.ofNat xs.length ∧ a3 = Int32.ofNat js.length ∧ a4 = wb_i false ∧ sm_run ts n b f (Sa, ja, xa, o, s, false) = fin ∧ 402 ≤ f + s.1 ∧ sm_I ts z e Sa ja xa o s false ∧ ¬ ja = [] ∧ rn_E S0 Sa ∧ 1000 * (402 - s.1) + 100 + js.length ≤ mm ∧ rk = rk_of (tk_now ts s) ∧ (rk = 0 → tk_now ts s = (Int8.ofInt 14).toInt32) ∧ rj (max 1 rk) js S xs = rj (max 1 rk) ja Sa xa ∧ 1 ≤ pj_z js ∧ qs_A t ts n z e S0 I1 S js xs o s false m1))
  else if pc = 252 then some (fun mm lv st T1 N1 I1 L1 R1 nc ns => ∃ (a2 a3 a4 : Int32) (rk : Nat), lv = [some (.ref 460), some (.int (Int32.ofNat b)), some (.int a2), some (.int a3), some (.int a4), some (.int (Int32.ofNat rk)), none] ∧ st = [] ∧ T1 = T ∧ N1 = N ∧ L1 = L ∧ R1 = R ∧ nc = 0 ∧ ns = 0 ∧ pm_FS I I1 ∧ I1 460 20 = I 460 20 ∧ (∃ k, I1 460 16 = Int32.ofNat k ∧ k ≤ 500) ∧ ((20 ≤ mm ∧ qs_B t ts n fin I1) ∨ ∃ (f : Nat) (Sa : rn_N) (ja xa : List Nat) (S : rn_N) (js xs : List Nat) (o : Nat) (s : wt_q) (m1 : Nat), a2 = Int32.ofNat xs.length ∧ a3 = Int32.ofNat js.length ∧ a4 = wb_i false ∧ sm_run ts n b f (Sa, ja, xa, o, s, false) = fin ∧ 402 ≤ f + s.1 ∧ sm_I ts z e Sa ja xa o s false ∧ ¬ ja = [] ∧ rn_E S0 Sa ∧ 1000 * (402 - s.1) + 50 ≤ mm ∧ rk = rk_of (tk_now ts s) ∧ (rk = 0 → tk_now ts s = (Int8.ofInt 14).toInt32) ∧ rj (max 1 rk) ja Sa xa = (js, S, xs) ∧ 1 ≤ pj_z js ∧ qs_A t ts n z e S0 I1 S js xs o s false m1))
  else if pc = 364 then some (fun mm lv st T1 N1 I1 L1 R1 nc ns => ∃ (a2 a3 a4 : Int32) (x5 : Option Value), lv = [some (.ref 460), some (.int (Int32.ofNat b)), some (.int a2), some (.int a3), some (.int a4), x5, none] ∧ st = [] ∧ T1 = T ∧ N1 = N ∧ L1 = L ∧ R1 = R ∧ nc = 0 ∧ ns = 0 ∧ pm_FS I I1 ∧ I1 460 20 = I 460 20 ∧ (∃ k, I1 460 16 = Int32.ofNat k ∧ k ≤ 500) ∧ (qs_B t ts n fin I1 ∨ ∃ (S : rn_N) (y o : Nat) (s : wt_q) (m1 : Nat), fin = (S, [], [y], o, s, false) ∧ rn_w S y ≤ 40 ∧ qs_A t ts n z e S0 I1 S [] [y] o s false m1))
  else none
theorem sm_kd_60 {ts : List wt_t} {s : wt_q} : ¬ sm_kd ts s = 60 := by
  unfold sm_kd
  repeat' split
  all_goals decide
/-- what the reference finds written when it makes a count -/
theorem rc_mem {t : Nat → Int32} {ts : List wt_t} {n : Nat} {s : wt_q} {b : Bool} {I : Nat → Nat → Int32} (hT : pm_T ts n) (h : pm_Z t ts n s I) (hs : s.2 = none) (hr : rc_is ts b s) : I 460 3 = Int32.ofNat (sm_kd ts s) ∧ ((42 ≤ sm_kd ts s ∧ sm_kd ts s ≤ 44) ∨ sm_kd ts s = 12 → I 460 6 = Int32.ofNat (tk_low ts s.1).toNatClampNeg) ∧ (sm_kd ts s = 42 → I 460 7 = Int32.ofNat (tk_high ts s.1).toNatClampNeg) := by
  obtain ⟨x, l, e5, hd1, ha, hnw, hvx, htk, h3, h4, h5, hct⟩ := pm_at hT h hs
  have k0 := pm_kind hT h hs pr_kc_20
  have k1 := pm_kind hT h hs pr_kc_21
  have k2 := pm_kind hT h hs pr_kc_22
  have k3 := pm_kind hT h hs pr_kc_23
  have k4 := pm_kind hT h hs pr_kc_24
  have elo : tk_low ts s.1 = x.2.2.1 := by unfold tk_low; rw [ha]
  have ehi : tk_high ts s.1 = x.2.2.2.1 := by unfold tk_high; rw [ha]
  have cc : pr_ct x → I 460 6 = Int32.ofNat (tk_low ts s.1).toNatClampNeg ∧ I 460 7 = Int32.ofNat (tk_high ts s.1).toNatClampNeg := by
    intro hc
    obtain ⟨q1, q2⟩ := hct hc
    obtain ⟨a, b, ha, hb, e1, e2⟩ := hvx.2.2.2 hc
    rw [elo, ehi, q1, q2, e1, e2, wi_onn (by omega), wi_onn (by omega)]
    exact ⟨rfl, rfl⟩
  by_cases c0 : tk_now ts s = (Int8.ofInt 20).toInt32
  · have e : sm_kd ts s = 40 := if_pos c0
    rw [e]
    exact ⟨k0.mpr c0, fun z => by omega, fun z => by omega⟩
  by_cases c1 : tk_now ts s = (Int8.ofInt 21).toInt32
  · have e : sm_kd ts s = 41 := (if_neg c0).trans (if_pos c1)
    rw [e]
    exact ⟨k1.mpr c1, fun z => by omega, fun z => by omega⟩
  by_cases c2 : tk_now ts s = (Int8.ofInt 22).toInt32
  · have e : sm_kd ts s = 42 := (if_neg c0).trans ((if_neg c1).trans (if_pos c2))
    obtain ⟨q1, q2⟩ := cc (Or.inl (hnw.symm.trans c2))
    rw [e]
    exact ⟨k2.mpr c2, fun _ => q1, fun _ => q2⟩
  have hb : tk_now ts s = (Int8.ofInt 23).toInt32 ∨ tk_now ts s = (Int8.ofInt 24).toInt32 := by
    rcases hr with hr | hr | hr | hr
    · exact absurd hr c0
    · exact absurd hr c1
    · exact absurd hr c2
    · exact hr.2
  by_cases c3 : tk_now ts s = (Int8.ofInt 23).toInt32
  · have e : sm_kd ts s = 43 := (if_neg c0).trans ((if_neg c1).trans ((if_neg c2).trans (if_pos c3)))
    obtain ⟨q1, q2⟩ := cc (Or.inr (Or.inl (hnw.symm.trans c3)))
    rw [e]
    exact ⟨k3.mpr c3, fun _ => q1, fun z => by omega⟩
  · have c4 := hb.resolve_left c3
    have e : sm_kd ts s = 44 := (if_neg c0).trans ((if_neg c1).trans ((if_neg c2).trans (if_neg c3)))
    obtain ⟨q1, q2⟩ := cc (Or.inr (Or.inr (Or.inl (hnw.symm.trans c4))))
    rw [e]
    exact ⟨k4.mpr c4, fun _ => q1, fun z => by omega⟩
def pm_c359 : wv_c1 := fun as T N I L R q => ∃ (t : Nat → Int32) (ts : List wt_t) (n z e m0 : Nat) (S : rn_N) (s : wt_q), as = [.ref 460] ∧ wp_Y T I t n ∧ pm_T ts n ∧ pm_Z t ts n s I ∧ s.2 = none ∧ tk_now ts s = (Int8.ofInt 13).toInt32 ∧ ts.length ≤ 401 ∧ s.1 ≤ ts.length ∧ rn_i S ∧ pn_M I S m0 ∧ m0 ≤ s.1 ∧ I 460 9 = Int32.ofNat z ∧ z ≤ 20 ∧ rn_n S + e ≤ s.1 ∧ ∀ v I1, pm_Z t ts n (sq_fin ts n z S s).2.2.2.2.1 I1 → pm_FS I I1 → (∃ k, I1 460 16 = Int32.ofNat k ∧ k ≤ 500) → ((sq_fin ts n z S s).2.2.2.2.1.2 = none → ∃ (S2 : rn_N) (y o : Nat) (s2 : wt_q) (m1 : Nat), sq_fin ts n z S s = (S2, [], [y], o, s2, false) ∧ v = Int32.ofNat y ∧ rn_w S2 y ≤ 40 ∧ qs_A t ts n z e S I1 S2 [] [y] o s2 false m1 ∧ I1 460 20 = (if I 460 20 < 0 then Int32.ofNat y else I 460 20)) → q (.inl (some (.int v))) T N I1 L R 0 0
set_option maxRecDepth 100000 in
theorem wM_359 : ∃ cb ci np, pt_mt 359 = some (32, cb, 6, false, some .int, ci, np) := ⟨_, _, _, rfl⟩
set_option maxRecDepth 100000 in
set_option maxHeartbeats 40000000 in
theorem pm_sequence {sc : pt_Sc} {d : Nat} : wv_C wm_fx sc (d + 1 + 1 + 1 + 1 + 1 + 1 + 1) 359 pm_c359 := by
  rintro as T N I L R q ⟨t, ts, n, z, e, m0, S0, s0, rfl, hY, hTs, hZ, hs0, hnow, hl, hsl, hS0, hM0, hm00, h90, hz, he, h⟩ w0 HR
  obtain ⟨cb, ci, np, hm⟩ := wM_359
  have hv := hTs.1
  have hb4 : tk_place ts n s0.1 ≤ 400 := by
    obtain ⟨x, l, e5, hd1, ha, hnw, hvx, htk, h3, h4, h5, hct⟩ := pm_at hTs hZ hs0
    rw [tk_place_at ha]
    exact hvx.1
  have hc348 : wv_C wm_fx sc (d + 1 + 1 + 1 + 1 + 1 + 1) 348 pm_c348 := wv_C_deep (by omega) (pm_next (d := d))
  have hc358 : wv_C wm_fx sc (d + 1 + 1 + 1 + 1 + 1 + 1) 358 wp_c358 := wv_C_deep (by omega) (wp_badC (d := d))
  have hc360 : wv_C wm_fx sc (d + 1 + 1 + 1 + 1 + 1 + 1) 360 pm_c360 := wv_C_deep (by omega) (pm_opens (d := d))
  have hc361 : wv_C wm_fx sc (d + 1 + 1 + 1 + 1 + 1 + 1) 361 pm_c361 := wv_C_deep (by omega) (pm_take (d := d))
  have hc362 : wv_C wm_fx sc (d + 1 + 1 + 1 + 1 + 1 + 1) 362 pm_c362 := wv_C_deep (by omega) (pm_begins (d := d))
  have hc363 : wv_C wm_fx sc (d + 1 + 1 + 1 + 1 + 1 + 1) 363 pm_c363 := wv_C_deep (by omega) (pm_condition (d := d))
  have hc366 : wv_C wm_fx sc (d + 1 + 1 + 1 + 1 + 1 + 1) 366 pm_c366 := wv_C_deep (by omega) (pm_counted (d := d))
  have hc368 : wv_C wm_fx sc (d + 1 + 1 + 1 + 1 + 1 + 1) 368 pm_c368 := wv_C_deep (by omega) (pm_rank (d := d))
  have hc369 : wv_C wm_fx sc (d + 1 + 1 + 1 + 1 + 1 + 1) 369 pm_c369 := wv_C_deep (by omega) (pm_binary (d := d))
  refine wv_meth (hh := none) rfl (sp := wv_sp [(348, pm_c348), (358, wp_c358), (360, pm_c360), (361, pm_c361), (362, pm_c362), (363, pm_c363), (366, pm_c366), (368, pm_c368), (369, pm_c369)]) (hd := pm_h359 t ts n (tk_place ts n s0.1) z e S0 (sq_fin ts n z S0 s0) T N I L R) (n := 300) (n1 := 300) hm zc_359 rfl (wv_sp_ok (fun q hq => by
    rcases List.mem_cons.mp hq with h | h
    · rw [h]; exact hc348
    rcases List.mem_cons.mp h with h | h
    · rw [h]; exact hc358
    rcases List.mem_cons.mp h with h | h
    · rw [h]; exact hc360
    rcases List.mem_cons.mp h with h | h
    · rw [h]; exact hc361
    rcases List.mem_cons.mp h with h | h
    · rw [h]; exact hc362
    rcases List.mem_cons.mp h with h | h
    · rw [h]; exact hc363
    rcases List.mem_cons.mp h with h | h
    · rw [h]; exact hc366
    rcases List.mem_cons.mp h with h | h
    · rw [h]; exact hc368
    rw [List.mem_singleton.mp h]; exact hc369)) ?_ ?_ HR
  · have hT := hY.1.1
    obtain ⟨x, l, e5, hd1, ha, hnw, hvx, htk, h3, h4, h5, hct⟩ := pm_at hTs hZ hs0
    have eb : I 460 4 = Int32.ofNat (tk_place ts n s0.1) := by rw [h4, tk_place_at ha]
    have hk13 := (pm_kind hTs hZ hs0 pr_kc_13).mpr hnow
    have g0 : wv_u I 485 0 ((Int8.ofInt 27).toInt32) 460 4 = I 460 4 := wv_u_no _ _ (by omega)
    refine ⟨_, wm_t hT rfl, by decide, by decide, ?_⟩
    rw [eb]
    refine ⟨fun w => absurd (by rw [wv_u_no _ _ (by omega)]; exact hk13) w, fun _ => ?_⟩
    refine ⟨t, ts, n, z, s0, rfl, hTs, pm_Z_fr hZ (fun j a b => wv_u_no _ _ (by omega)), hs0, by rw [wv_u_no _ _ (by omega)]; exact h90, hz, fun J hJ hJ9 hJF => ?_⟩
    have hFJ : pm_FS I J := fun c j a1 a2 a3 => by rw [hJF _ _ (by omega), wv_u_no _ _ (by omega)]
    refine ⟨t, ts, n, _, (Int8.ofInt 13).toInt32, (Int8.ofInt 27).toInt32, rfl, pm_YS hY hFJ, hTs, hJ, pr_kc_13, by decide, by decide, by decide, fun J2 hJ2 hF2 => ?_⟩
    have hF3 : pm_FS I J2 := fun c j a1 a2 a3 => by rw [hF2 _ _ (by omega)]; exact hFJ c j a1 a2 a3
    have h16 : J2 460 16 = I 460 16 := by rw [hF2 _ _ (by omega), hJF _ _ (by omega), wv_u_no _ _ (by omega)]
    have hnM : rn_n S0 ≤ 401 := by omega
    refine ⟨1000000, Int32.ofInt 0, Int32.ofInt 1, Int32.ofInt 1, none, rfl, rfl, rfl, rfl, rfl, rfl, rfl, rfl, hF3, by rw [hF2 _ _ (by omega), hJF _ _ (by omega), wv_u_no _ _ (by omega)], ⟨rn_n S0, h16.trans hM0.1, by omega⟩, ?_⟩
    by_cases c : z < 20
    · right
      have e1 : (if z = 20 then tk_ref ts n s0 else s0) = s0 := if_neg (by omega)
      have e2 : tk_take ts n ((Int8.ofInt 13).toInt32) s0 = tk_adv ts s0 := if_pos hnow
      rw [e1, e2] at hJ2
      obtain ⟨b1, b2, b3⟩ := tk_ad1 (s := s0) (ts := ts) (by rw [hnow]; decide)
      have ef : sm_run ts n (tk_place ts n s0.1) 402 (S0, [0], [], z + 1, tk_adv ts s0, true) = sq_fin ts n z S0 s0 := by
        unfold sq_fin sq_0
        rw [if_pos c]
      refine ⟨402, S0, [0], [], z + 1, tk_adv ts s0, true, m0, rfl, rfl, rfl, ef, by omega, by omega, (fun w => by cases w), by rw [b2], hJ2, sq_0_I (n := n) hS0 hnow c he, rn_E_id S0, ?_, by rw [b2]; exact Nat.le_succ_of_le hm00, ⟨?_, trivial⟩, trivial, ?_⟩
      · refine pn_M_c hM0 (fun c j a => ?_)
        rw [hF2 _ _ (by omega), hJF _ _ (by omega), wv_u_no _ _ (by omega)]
      · show J2 485 0 = _
        rw [hF2 _ _ (by omega), hJF _ _ (by omega)]
        rfl
      · rw [hF2 _ _ (by omega)]
        exact hJ9
    · left
      have e1 : (if z = 20 then tk_ref ts n s0 else s0) = tk_ref ts n s0 := if_pos (by omega)
      have ht : ¬ (tk_ref ts n s0).2 = none := by rw [tk_rf1 hs0]; exact fun w => by cases w
      have e2 : tk_take ts n ((Int8.ofInt 13).toInt32) (tk_ref ts n s0) = tk_ref ts n s0 := by
        unfold tk_take
        rw [if_neg (by rw [tk_now_f ht]; decide), tk_rf1 hs0]
        rfl
      rw [e1, e2] at hJ2
      refine ⟨by omega, tk_ref ts n s0, ht, hJ2, ?_⟩
      unfold sq_fin sq_0
      rw [if_neg c, sm_run_no (fun w => ht (sm_go_iff.mp w).2)]
  · intro pc P hP m lv st T1 N1 I1 L1 R1 nc ns hh
    unfold pm_h359 at hP
    split at hP
    · cases hP
      rename_i hpc
      subst hpc
      obtain ⟨a2, a3, a4, x5, rfl, rfl, rfl, rfl, rfl, rfl, rfl, rfl, hF, h20, hk16, hAB⟩ := hh
      have hT := hY.1.1
      have hY1 := pm_YS hY hF
      rcases hAB with ⟨hm, sB⟩ | ⟨f, S, js, xs, o, s, it, m1, rfl, rfl, rfl, hrun, hfu, hm, hje, hA⟩
      · refine ⟨fun w => ⟨0, by omega, a2, a3, a4, x5, rfl, rfl, rfl, rfl, rfl, rfl, rfl, rfl, hF, h20, hk16, Or.inl sB⟩, fun w => ?_⟩
        refine ⟨fun w => ⟨0, by omega, a2, a3, a4, x5, rfl, rfl, rfl, rfl, rfl, rfl, rfl, rfl, hF, h20, hk16, Or.inl sB⟩, fun w => ?_⟩
        obtain ⟨s, hs, hZ1, _⟩ := sB
        exact absurd ((pm_8 hZ1).mpr hs) w
      obtain ⟨hs, hZ1, hI, hE, hM, hm1, hjs, hxs, h9⟩ := hA
      have hI0 := hI
      obtain ⟨i1, i2, i3, i4, i5, i6, i7, i8, i9, i10⟩ := hI
      have ej := wi_on (n := js.length) (by omega)
      have ejn := wi_onn (n := js.length) (by omega)
      have exn := wi_onn (n := xs.length) (by omega)
      refine ⟨fun w => ?_, fun w => ?_⟩
      · rw [wi_le, ej, wi_0] at w
        have hj0 : js = [] := List.length_eq_zero_iff.mp (by omega)
        subst hj0
        obtain ⟨rfl, hw, _⟩ := hje rfl
        rw [sm_run_no (fun w => (sm_go_iff.mp w).1 rfl)] at hrun
        have i5 : xs.length = 0 + 1 := i5
        obtain ⟨y, rfl⟩ := List.length_eq_one_iff.mp i5
        exact ⟨0, by omega, _, _, _, x5, rfl, rfl, rfl, rfl, rfl, rfl, rfl, rfl, hF, h20, hk16, Or.inr ⟨S, y, o, s, m1, hrun.symm, hw, hs, hZ1, hI0, hE, hM, hm1, hjs, hxs, h9⟩⟩
      rw [wi_le, ej, wi_0] at w
      have hj : ¬ js = [] := fun z => by rw [z] at w; exact w (by decide)
      refine ⟨fun w => absurd ((pm_8 hZ1).mp w) (fun z => z hs), fun _ => ?_⟩
      refine ⟨fun w => ?_, fun w => ?_⟩
      · have hit := wb_i_0.mp w
        subst hit
        refine ⟨_, rfl, ?_⟩
        rw [rk_mo hTs hZ1 hs]
        have hr4 : rk_of (tk_now ts s) ≤ 4 := by
          unfold rk_of
          repeat' split
          all_goals omega
        have er := wi_on (n := rk_of (tk_now ts s)) (by omega)
        have hz1 := pj_b_z i4 hj
        refine ⟨fun w => ?_, fun w => ?_⟩
        · have w : ¬ rk_of (tk_now ts s) = 0 := fun z => w (by rw [z]; rfl)
          exact ⟨1000 * (402 - s.1) + 100 + js.length, by omega, _, _, _, rk_of (tk_now ts s), rfl, rfl, rfl, rfl, rfl, rfl, rfl, rfl, hF, h20, hk16, Or.inr ⟨f, S, js, xs, S, js, xs, o, s, m1, rfl, rfl, rfl, hrun, hfu, hI0, hj, hE, Nat.le_refl _, rfl, fun z => absurd z w, rfl, hz1, hs, hZ1, hI0, hE, hM, hm1, hjs, hxs, h9⟩⟩
        · have w : rk_of (tk_now ts s) = 0 := by
            have := wi_eq.mp (Decidable.not_not.mp w)
            rw [er, wi_0] at this
            omega
          have hk14 := pm_kind hTs hZ1 hs pr_kc_14
          refine ⟨fun w2 => ?_, fun w2 => ?_⟩
          · exact ⟨1000 * (402 - s.1) + 100 + js.length, by omega, _, _, _, rk_of (tk_now ts s), rfl, rfl, rfl, rfl, rfl, rfl, rfl, rfl, hF, h20, hk16, Or.inr ⟨f, S, js, xs, S, js, xs, o, s, m1, rfl, rfl, rfl, hrun, hfu, hI0, hj, hE, Nat.le_refl _, rfl, fun z => hk14.mp w2, rfl, hz1, hs, hZ1, hI0, hE, hM, hm1, hjs, hxs, h9⟩⟩
          · refine ⟨_, rfl, ?_⟩
            have hn14 : ¬ tk_now ts s = (Int8.ofInt 14).toInt32 := fun z => w2 (hk14.mpr z)
            have h2 : sm_1 ts n (tk_place ts n s0.1) (S, js, xs, o, s, false) = (S, js, xs, o, tk_ref ts n s, false) := by
              show sm_en ts n (tk_place ts n s0.1) S js xs o s = _
              unfold sm_en
              rw [if_neg (by omega), if_neg hn14]
            have ht : ¬ (tk_ref ts n s).2 = none := by rw [tk_rf1 hs]; exact fun w => by cases w
            refine ⟨30, by omega, _, _, _, rk_of (tk_now ts s), rfl, rfl, rfl, rfl, rfl, rfl, rfl, rfl, fun c j d1 d2 d3 => ?_, ?_, ?_, Or.inl ⟨by omega, tk_ref ts n s, ht, pm_bad hTs hZ1 hs, (sq_step hv hl hI0 hs hj hrun hfu h2).1 ht⟩⟩
            · rw [wp_bad_no (by omega)]; exact hF c j d1 d2 d3
            · rw [wp_bad_no (by omega)]; exact h20
            · obtain ⟨k, k1, k2⟩ := hk16
              exact ⟨k, by rw [wp_bad_no (by omega)]; exact k1, k2⟩
      have hit := wb_i_1.mp w
      subst hit
      have i5 : xs.length = pj_n js := i5
      have hk13 := pm_kind hTs hZ1 hs pr_kc_13
      refine ⟨fun w => ?_, fun w => ?_⟩
      · have hn13 : ¬ tk_now ts s = (Int8.ofInt 13).toInt32 := fun z => w (hk13.mpr z)
        have h2 : sm_1 ts n (tk_place ts n s0.1) (S, js, xs, o, s, true) = ((sm_rp ts n true (sm_c ts n S s) (rn_n S) (cd_all ts n s).2.2).1, js, (sm_rp ts n true (sm_c ts n S s) (rn_n S) (cd_all ts n s).2.2).2.1 :: xs, o, (sm_rp ts n true (sm_c ts n S s) (rn_n S) (cd_all ts n s).2.2).2.2, false) := if_neg hn13
        have hst := sq_step hv hl hI0 hs hj hrun hfu h2
        refine ⟨t, ts, n, s, rfl, hTs, hZ1, hs, fun hb => ?_, fun hb => ?_⟩
        · refine ⟨fun w => absurd w (by decide), fun _ => ?_⟩
          refine ⟨t, ts, n, m1, rn_n S, s, rfl, hY1, hTs, hZ1, hs, hl, i10, hM.2.1, hm1, hM.1, by omega, fun J hJ hJ18 hJcc hJF => ?_⟩
          have kM := pn_M_cd hM hJ18 hJcc hJF
          obtain ⟨K, hK⟩ : ∃ K, wv_u (pm_mk J (rn_n S) (Int8.ofInt 60).toInt32 (Int32.ofNat m1) (Int32.ofNat (m1 + (cd_all ts n s).1.length + 1)) (Int32.ofInt 0) (Int32.ofInt 0)) 467 (rn_n S) (Int32.ofInt 1) = K := ⟨_, rfl⟩
          rw [hK] at kM ⊢
          have kF : ∀ c j, ¬ (c = 460 ∧ ((3 ≤ j ∧ j ≤ 8) ∨ j = 16 ∨ j = 18)) → ¬ (462 ≤ c ∧ c ≤ 468) → K c j = I1 c j := fun c j d1 d2 => by
            rw [← hK, wv_u_no _ _ (by omega), pm_mk_no (by omega) (by omega)]
            exact hJF _ _ (by omega) (by omega) (by omega)
          have kZ : pm_Z t ts n (cd_all ts n s).2.2 K := pm_Z_fr hJ (fun j d1 d2 => by rw [← hK, wv_u_no _ _ (by omega), pm_mk_no (by omega) (by omega)])
          have kFS : pm_FS I K := fun c j d1 d2 d3 => by rw [kF c j (by omega) d2]; exact hF c j d1 d2 d3
          have kY := pm_YS hY kFS
          obtain ⟨c1, c2, c3⟩ := cd_all_b (n := n) hl i10
          have hcl : m1 + (cd_all ts n s).1.length + 1 ≤ (cd_all ts n s).2.2.1 ∨ ¬ (cd_all ts n s).2.2.2 = none := by
            by_cases hcf : (cd_all ts n s).2.2.2 = none
            · left
              obtain ⟨f2, _, _, _, q4⟩ := cd_B_all (m0 := m1) hl 401 _ _ (by omega) (cd_B_0 (n := n) i10 hm1)
              exact (q4 hcf).2
            · exact Or.inr hcf
          refine ⟨fun w => ?_, fun w => ?_⟩
          · have hcf := (pm_8 kZ).mp w
            refine ⟨_, wm_t hT rfl, pp_b (m := xs.length) (c := 420) (by omega) (by omega), by decide, ?_⟩
            rw [exn]
            have er : sm_rp ts n true (sm_c ts n S s) (rn_n S) (cd_all ts n s).2.2 = (sm_c ts n S s, rn_n S, (cd_all ts n s).2.2) := sm_rp_1 (fun z => rc_is_2 z (tk_now_f hcf))
            rw [er] at hst
            refine ⟨10, by omega, Int32.ofNat xs.length + Int32.ofInt 1, _, Int32.ofInt 0, _, rfl, rfl, rfl, rfl, rfl, rfl, rfl, rfl, fun c j d1 d2 d3 => ?_, ?_, ⟨rn_n S + 1, ?_, by omega⟩, Or.inl ⟨by omega, (cd_all ts n s).2.2, hcf, ?_, hst.1 hcf⟩⟩
            · rw [wv_u_no _ _ (by omega)]; exact kFS c j d1 d2 d3
            · rw [wv_u_no _ _ (by omega), kF _ _ (by omega) (by omega)]; exact h20
            · rw [wv_u_no _ _ (by omega)]; exact kM.1
            · exact pm_Z_fr kZ (fun j d1 d2 => wv_u_no _ _ (by omega))
          · have hcf : (cd_all ts n s).2.2.2 = none := Decidable.not_not.mp (fun z => w ((pm_8 kZ).mpr z))
            have hcl : m1 + (cd_all ts n s).1.length + 1 ≤ (cd_all ts n s).2.2.1 := hcl.elim id (fun z => absurd hcf z)
            have c3 := c3 hcf
            have kw : K 467 (rn_n S) = Int32.ofNat 1 := by rw [← hK]; exact wv_u_at _ _ _ _
            have kin : ∀ k, k < xs.length → K 484 k = I1 484 k := fun k _ => kF _ _ (by omega) (by omega)
            have kjn : ∀ k, k < js.length → K 485 k = I1 485 k := fun k _ => kF _ _ (by omega) (by omega)
            refine ⟨t, ts, n, rn_n S + 1, rn_n S, 1, (cd_all ts n s).2.2, true, rfl, hT, kY, hTs, kZ, hcf, kM.1, by omega, by omega, kw, by omega, fun g => ?_, fun g1 g2 J1 hJ1 hF1 => ?_, fun g1 g2 J1 hJ1 hF1 => ?_⟩
            · refine ⟨_, wm_t hT rfl, pp_b (m := xs.length) (c := 420) (by omega) (by omega), by decide, ?_⟩
              rw [exn]
              rw [sm_rp_1 g] at hst
              obtain ⟨f2, q1, q2, q3, q4, q5, q6⟩ := hst.2 hcf
              refine ⟨1000 * (402 - (cd_all ts n s).2.2.1) + 900, by omega, Int32.ofNat xs.length + Int32.ofInt 1, _, Int32.ofInt 0, _, rfl, rfl, rfl, rfl, rfl, rfl, rfl, rfl, fun c j d1 d2 d3 => ?_, ?_, ⟨rn_n S + 1, ?_, by omega⟩, Or.inr ⟨f2, sm_c ts n S s, js, rn_n S :: xs, o, (cd_all ts n s).2.2, false, _, wq_4s _, rfl, rfl, q1, q2, by omega, q6, hcf, ?_, q3, rn_E_tr hE q5, pn_M_c kM (fun c j d => wv_u_no _ _ (by omega)), hcl, ?_, ⟨wv_u_at _ _ _ _, ?_⟩, ?_⟩⟩
              · rw [wv_u_no _ _ (by omega)]; exact kFS c j d1 d2 d3
              · rw [wv_u_no _ _ (by omega), kF _ _ (by omega) (by omega)]; exact h20
              · rw [wv_u_no _ _ (by omega)]; exact kM.1
              · exact pm_Z_fr kZ (fun j d1 d2 => wv_u_no _ _ (by omega))
              · exact pm_js_c hjs (fun k hk => by rw [wv_u_no _ _ (by omega)]; exact kjn k hk)
              · exact pm_xs_c hxs (fun k hk => by rw [wv_u_no _ _ (by omega)]; exact kin k hk)
              · rw [wv_u_no _ _ (by omega), kF _ _ (by omega) (by omega)]; exact h9
            · refine ⟨_, wm_t hT rfl, pp_b (m := xs.length) (c := 420) (by omega) (by omega), by decide, ?_⟩
              rw [exn]
              rw [sm_rp_2 g1 g2] at hst
              have ht : ¬ (tk_ref ts n (cd_all ts n s).2.2).2 = none := by rw [tk_rf1 hcf]; exact fun w => by cases w
              refine ⟨10, by omega, Int32.ofNat xs.length + Int32.ofInt 1, _, Int32.ofInt 0, _, rfl, rfl, rfl, rfl, rfl, rfl, rfl, rfl, fun c j d1 d2 d3 => ?_, ?_, ⟨rn_n S + 1, ?_, by omega⟩, Or.inl ⟨by omega, tk_ref ts n (cd_all ts n s).2.2, ht, ?_, hst.1 ht⟩⟩
              · rw [wv_u_no _ _ (by omega), hF1 _ _ (by omega)]; exact kFS c j d1 d2 d3
              · rw [wv_u_no _ _ (by omega), hF1 _ _ (by omega), kF _ _ (by omega) (by omega)]; exact h20
              · rw [wv_u_no _ _ (by omega), hF1 _ _ (by omega)]; exact kM.1
              · exact pm_Z_fr hJ1 (fun j d1 d2 => wv_u_no _ _ (by omega))
            · refine ⟨_, wm_t hT rfl, pp_b (m := xs.length) (c := 420) (by omega) (by omega), by decide, ?_⟩
              rw [exn]
              rw [sm_rp_3 g1 g2] at hst
              obtain ⟨b1, b2, b3⟩ := tk_ad1 (rc_is_2 g1)
              obtain ⟨f2, q1, q2, q3, q4, q5, q6⟩ := hst.2 (by rw [b2])
              obtain ⟨z1, z2, z3⟩ := rc_mem hTs kZ hcf g1
              have nM := pn_M_mk (w := rc_w ts (cd_all ts n s).2.2 (rn_w (sm_c ts n S s) (rn_n S))) (x := (sm_kd ts (cd_all ts n s).2.2, rn_n S, 0, (tk_low ts (cd_all ts n s).2.2.1).toNatClampNeg, (tk_high ts (cd_all ts n s).2.2.1).toNatClampNeg)) (h := fun _ => false) (a := K 460 6) (b := K 460 7) kM (sm_kd_60 (ts := ts) (s := (cd_all ts n s).2.2)) z2 z3
              have ew : rn_w (sm_c ts n S s) (rn_n S) = 1 := congrArg Prod.fst (sm_c_p (ts := ts) (n := n) (S := S) (s := s)).1
              rw [ew] at nM
              have hF2 : ∀ c j, ¬ (c = 460 ∧ ((3 ≤ j ∧ j ≤ 8) ∨ j = 16)) → ¬ (462 ≤ c ∧ c ≤ 467 ∧ j = rn_n S + 1) → J1 c j = K c j := fun c j d1 d2 => by
                rw [hF1 _ _ (by omega), wv_u_no _ _ (by omega), pm_mk_no (by omega) (by omega)]
              have jM : pn_M J1 (sm_nd ts (sm_c ts n S s) (rn_n S) (cd_all ts n s).2.2) (m1 + (cd_all ts n s).1.length + 1) := by
                unfold sm_nd
                rw [ew]
                refine pn_M_c nM (fun c j d => ?_)
                rw [hF1 _ _ (by omega), z1]
                rfl
              refine ⟨1000 * (402 - (cd_all ts n s).2.2.1) + 800, by omega, Int32.ofNat xs.length + Int32.ofInt 1, _, Int32.ofInt 0, _, rfl, rfl, rfl, rfl, rfl, rfl, rfl, rfl, fun c j d1 d2 d3 => ?_, ?_, ⟨rn_n S + 2, ?_, by omega⟩, Or.inr ⟨f2, sm_nd ts (sm_c ts n S s) (rn_n S) (cd_all ts n s).2.2, js, (rn_n S + 1) :: xs, o, tk_adv ts (cd_all ts n s).2.2, false, _, wq_4s _, rfl, rfl, q1, q2, by rw [b2]; dsimp only; omega, q6, by rw [b2], ?_, q3, rn_E_tr hE q5, pn_M_c jM (fun c j d => wv_u_no _ _ (by omega)), by rw [b2]; dsimp only; omega, ?_, ⟨wv_u_at _ _ _ _, ?_⟩, ?_⟩⟩
              · rw [wv_u_no _ _ (by omega), hF2 c j (by omega) (by omega)]; exact kFS c j d1 d2 d3
              · rw [wv_u_no _ _ (by omega), hF2 _ _ (by omega) (by omega), kF _ _ (by omega) (by omega)]; exact h20
              · rw [wv_u_no _ _ (by omega)]; exact jM.1
              · exact pm_Z_fr hJ1 (fun j d1 d2 => wv_u_no _ _ (by omega))
              · exact pm_js_c hjs (fun k hk => by rw [wv_u_no _ _ (by omega), hF2 _ _ (by omega) (by omega)]; exact kjn k hk)
              · exact pm_xs_c hxs (fun k hk => by rw [wv_u_no _ _ (by omega), hF2 _ _ (by omega) (by omega)]; exact kin k hk)
              · rw [wv_u_no _ _ (by omega), hF2 _ _ (by omega) (by omega), kF _ _ (by omega) (by omega)]; exact h9
        · refine ⟨fun _ => ?_, fun w => absurd rfl w⟩
          refine ⟨_, rfl, ?_⟩
          have ec := cd_all_bad (n := n) hs hb
          have ht : ¬ (tk_ref ts n s).2 = none := by rw [tk_rf1 hs]; exact fun w => by cases w
          have er : sm_rp ts n true (sm_c ts n S s) (rn_n S) (cd_all ts n s).2.2 = (sm_c ts n S s, rn_n S, tk_ref ts n s) := by
            rw [ec]
            exact sm_rp_1 (fun z => rc_is_2 z (tk_now_f ht))
          rw [er] at hst
          refine ⟨10, by omega, _, _, _, x5, rfl, rfl, rfl, rfl, rfl, rfl, rfl, rfl, fun c j d1 d2 d3 => ?_, ?_, ?_, Or.inl ⟨by omega, tk_ref ts n s, ht, pm_bad hTs hZ1 hs, hst.1 ht⟩⟩
          · rw [wp_bad_no (by omega)]; exact hF c j d1 d2 d3
          · rw [wp_bad_no (by omega)]; exact h20
          · obtain ⟨k, k1, k2⟩ := hk16
            exact ⟨k, by rw [wp_bad_no (by omega)]; exact k1, k2⟩
      · have hn13 := hk13.mp (Decidable.not_not.mp w)
        obtain ⟨b1, b2, b3⟩ := tk_ad1 (s := s) (ts := ts) (by rw [hn13]; decide)
        refine ⟨t, ts, n, o, s, rfl, hTs, hZ1, hs, h9, i8, fun J hJ hJ9 hJF => ?_⟩
        refine ⟨_, wm_t hT rfl, pp_b (m := js.length) (c := 420) (by omega) (by omega), by decide, ?_⟩
        rw [ejn]
        have jFS : pm_FS I (wv_u J 485 js.length ((Int8.ofInt 27).toInt32)) := fun c j d1 d2 d3 => by
          rw [wv_u_no _ _ (by omega), hJF _ _ (by omega)]; exact hF c j d1 d2 d3
        refine ⟨t, ts, n, (if o = 20 then tk_ref ts n s else s), rfl, pm_YS hY jFS, pm_Z_fr hJ (fun j d1 d2 => wv_u_no _ _ (by omega)), fun z => ?_, fun J2 hJ2 hF2 => ?_⟩
        · by_cases co : o = 20
          · rw [if_pos co, tk_rf1 hs] at z
            cases z
          · rw [if_neg co, hn13]
            exact ⟨by decide, by decide⟩
        have hF3 : ∀ c j, ¬ (c = 460 ∧ 3 ≤ j ∧ j ≤ 9) → ¬ (c = 485 ∧ j = js.length) → J2 c j = I1 c j := fun c j d1 d2 => by
          rw [hF2 _ _ (by omega), wv_u_no _ _ (by omega), hJF _ _ (by omega)]
        obtain ⟨k, k1, k2⟩ := hk16
        have e16 : ∃ k, J2 460 16 = Int32.ofNat k ∧ k ≤ 500 := ⟨k, by rw [hF3 _ _ (by omega) (by omega)]; exact k1, k2⟩
        have jF : pm_FS I J2 := fun c j d1 d2 d3 => by rw [hF3 _ _ (by omega) (by omega)]; exact hF c j d1 d2 d3
        have j20 : J2 460 20 = I 460 20 := by rw [hF3 _ _ (by omega) (by omega)]; exact h20
        by_cases co : o < 20
        · rw [if_neg (by omega)] at hJ2
          have h2 : sm_1 ts n (tk_place ts n s0.1) (S, js, xs, o, s, true) = (S, 0 :: js, xs, o + 1, tk_adv ts s, true) := (if_pos hn13).trans (if_pos co)
          obtain ⟨f2, q1, q2, q3, q4, q5, q6⟩ := (sq_step hv hl hI0 hs hj hrun hfu h2).2 (by rw [b2])
          refine ⟨1000 * (402 - s.1) + 800, by omega, _, Int32.ofNat js.length + Int32.ofInt 1, _, x5, rfl, rfl, rfl, rfl, rfl, rfl, rfl, rfl, jF, j20, e16, Or.inr ⟨f2, S, 0 :: js, xs, o + 1, tk_adv ts s, true, m1, rfl, wq_4s _, rfl, q1, q2, by rw [b2]; dsimp only; omega, q6, by rw [b2], hJ2, q3, hE, pn_M_c hM (fun c j d => hF3 _ _ (by omega) (by omega)), by rw [b2]; dsimp only; omega, ⟨?_, ?_⟩, ?_, ?_⟩⟩
          · rw [hF2 _ _ (by omega), wv_u_at]; rfl
          · exact pm_js_c hjs (fun k hk => hF3 _ _ (by omega) (by omega))
          · exact pm_xs_c hxs (fun k hk => hF3 _ _ (by omega) (by omega))
          · rw [hF2 _ _ (by omega), wv_u_no _ _ (by omega)]; exact hJ9
        · rw [if_pos (by omega)] at hJ2
          have h2 : sm_1 ts n (tk_place ts n s0.1) (S, js, xs, o, s, true) = (S, js, xs, o, tk_ref ts n s, true) := (if_pos hn13).trans (if_neg co)
          have ht : ¬ (tk_ref ts n s).2 = none := by rw [tk_rf1 hs]; exact fun w => by cases w
          have e3 : tk_adv ts (tk_ref ts n s) = tk_ref ts n s := by rw [tk_rf1 hs]; rfl
          rw [e3] at hJ2
          exact ⟨10, by omega, _, Int32.ofNat js.length + Int32.ofInt 1, _, x5, rfl, rfl, rfl, rfl, rfl, rfl, rfl, rfl, jF, j20, e16, Or.inl ⟨by omega, tk_ref ts n s, ht, hJ2, (sq_step hv hl hI0 hs hj hrun hfu h2).1 ht⟩⟩
    · split at hP
      · cases hP
        rename_i hpc
        subst hpc
        obtain ⟨a2, a3, a4, rk, rfl, rfl, rfl, rfl, rfl, rfl, rfl, rfl, hF, h20, hk16, hAB⟩ := hh
        have hT := hY.1.1
        rcases hAB with ⟨hm, sB⟩ | ⟨f, Sa, ja, xa, S, js, xs, o, s, m1, rfl, rfl, rfl, hrun, hfu, hIa, hja, hEa, hm, hrk, hr14, hrj, hz1, hA⟩
        · refine ⟨fun w => ⟨20, by omega, a2, a3, a4, rk, rfl, rfl, rfl, rfl, rfl, rfl, rfl, rfl, hF, h20, hk16, Or.inl ⟨by omega, sB⟩⟩, fun w => ?_⟩
          obtain ⟨s, hs, hZ1, _⟩ := sB
          exact absurd ((pm_8 hZ1).mpr hs) w
        obtain ⟨hs, hZ1, hI, hE, hM, hm1, hjs, hxs, h9⟩ := hA
        have hI0 := hI
        obtain ⟨i1, i2, i3, i4, i5, i6, i7, i8, i9, i10⟩ := hI
        refine ⟨fun w => absurd ((pm_8 hZ1).mp w) (fun z => z hs), fun _ => ?_⟩
        obtain ⟨r, jt, rfl⟩ : ∃ r jt, js = r :: jt := by
          cases js with
          | nil => exact absurd hz1 (by decide)
          | cons r jt => exact ⟨r, jt, rfl⟩
        have hr4 := i3 r List.mem_cons_self
        obtain ⟨k1, k2⟩ := sq_op_rk ⟨r, by omega⟩
        have hlt : jt.length < 420 := by simp only [List.length_cons] at i9; omega
        have ejt := wi_onn (n := jt.length) (by omega)
        have es1 : Int32.ofNat (r :: jt).length - Int32.ofInt 1 = Int32.ofNat jt.length := wq_s1 (by omega)
        have hrk4 : rk ≤ 4 := by
          rw [hrk]
          unfold rk_of
          repeat' split
          all_goals omega
        have stop : ¬ (1 ≤ r ∧ max 1 rk ≤ r) → ∀ mm, mm < m → 1000 * (402 - s.1) + 50 ≤ mm → ∃ (a2 a3 a4 : Int32) (rk2 : Nat), [some (Value.ref 460), some (Value.int (Int32.ofNat (tk_place ts n s0.1))), some (Value.int (Int32.ofNat xs.length)), some (Value.int (Int32.ofNat (r :: jt).length)), some (Value.int (wb_i false)), some (Value.int (Int32.ofNat rk)), none] = [some (Value.ref 460), some (Value.int (Int32.ofNat (tk_place ts n s0.1))), some (Value.int a2), some (Value.int a3), some (Value.int a4), some (Value.int (Int32.ofNat rk2)), none] ∧ ((20 ≤ mm ∧ qs_B t ts n (sq_fin ts n z S0 s0) I1) ∨ ∃ (f : Nat) (Sa : rn_N) (ja xa : List Nat) (S : rn_N) (js xs : List Nat) (o : Nat) (s : wt_q) (m1 : Nat), a2 = Int32.ofNat xs.length ∧ a3 = Int32.ofNat js.length ∧ a4 = wb_i false ∧ sm_run ts n (tk_place ts n s0.1) f (Sa, ja, xa, o, s, false) = (sq_fin ts n z S0 s0) ∧ 402 ≤ f + s.1 ∧ sm_I ts z e Sa ja xa o s false ∧ ¬ ja = [] ∧ rn_E S0 Sa ∧ 1000 * (402 - s.1) + 50 ≤ mm ∧ rk2 = rk_of (tk_now ts s) ∧ (rk2 = 0 → tk_now ts s = (Int8.ofInt 14).toInt32) ∧ rj (max 1 rk2) ja Sa xa = (js, S, xs) ∧ 1 ≤ pj_z js ∧ qs_A t ts n z e S0 I1 S js xs o s false m1) := by
          intro hno mm _ hmm
          exact ⟨_, _, _, rk, rfl, Or.inr ⟨f, Sa, ja, xa, S, r :: jt, xs, o, s, m1, rfl, rfl, rfl, hrun, hfu, hIa, hja, hEa, hmm, hrk, hr14, hrj.symm.trans (rj_no hno), hz1, hs, hZ1, hI0, hE, hM, hm1, hjs, hxs, h9⟩⟩
        refine ⟨_, wm_t hT rfl, by rw [es1]; exact pp_b (m := jt.length) (c := 420) (by omega) (by omega), ?_⟩
        rw [es1, ejt, hjs.1]
        refine ⟨fun w => ?_, fun w => ?_⟩
        · have r0 : r = 0 := k2.mp w
          obtain ⟨b2, b3, b4, b5, b6, b7⟩ := stop (by omega) (1000 * (402 - s.1) + 50) (by simp only [List.length_cons] at hm; omega) (Nat.le_refl _)
          exact ⟨1000 * (402 - s.1) + 50, by simp only [List.length_cons] at hm; omega, b2, b3, b4, b5, b6, rfl, rfl, rfl, rfl, rfl, rfl, rfl, hF, h20, hk16, b7⟩
        have r1 : 1 ≤ r := Nat.one_le_iff_ne_zero.mpr (fun z => w (k2.mpr z))
        refine ⟨_, wm_t hT rfl, by rw [es1]; exact pp_b (m := jt.length) (c := 420) (by omega) (by omega), ?_⟩
        rw [es1, ejt, hjs.1]
        refine ⟨_, rfl, ?_⟩
        rw [k1]
        have er := wi_on (n := r) (by omega)
        have erk := wi_on (n := rk) (by omega)
        refine ⟨fun w => ?_, fun w => ?_⟩
        · rw [wi_lt, er, erk] at w
          obtain ⟨b2, b3, b4, b5, b6, b7⟩ := stop (by omega) (1000 * (402 - s.1) + 50) (by simp only [List.length_cons] at hm; omega) (Nat.le_refl _)
          exact ⟨1000 * (402 - s.1) + 50, by simp only [List.length_cons] at hm; omega, b2, b3, b4, b5, b6, rfl, rfl, rfl, rfl, rfl, rfl, rfl, hF, h20, hk16, b7⟩
        rw [wi_lt, er, erk] at w
        have en1 : pj_n (r :: jt) = 1 + pj_n jt := by
          show (if r = 0 then 0 else 1) + pj_n jt = _
          rw [if_neg (by omega)]
        have i5 : xs.length = pj_n (r :: jt) + 1 := i5
        obtain ⟨y, x, l, rfl⟩ : ∃ y x l, xs = y :: x :: l := by
          match xs, i5 with
          | [], h => exact absurd h (by simp)
          | [y], h => exact absurd h (by rw [en1]; simp only [List.length_cons, List.length_nil]; omega)
          | y :: x :: l, _ => exact ⟨y, x, l, rfl⟩
        have hll : l.length + 2 ≤ 402 := by simp only [List.length_cons] at i6 i9; omega
        have eln := wi_onn (n := l.length) (by omega)
        have eln1 := wi_onn (n := l.length + 1) (by omega)
        have em1 : Int32.ofNat (r :: jt).length + Int32.ofInt (-1) = Int32.ofNat jt.length := wq_m1 (by omega)
        have em2 : Int32.ofNat (y :: x :: l).length + Int32.ofInt (-1) = Int32.ofNat (l.length + 1) := wq_m1 (k := l.length + 1) (by omega)
        have em3 : Int32.ofNat (l.length + 1) - Int32.ofInt 1 = Int32.ofNat l.length := wq_s1 (by omega)
        have hy := i2 y List.mem_cons_self
        have hxx := i2 x (List.mem_cons_of_mem _ List.mem_cons_self)
        have hx1 : I1 484 (l.length + 1) = Int32.ofNat y := hxs.1
        have hx2 : I1 484 l.length = Int32.ofNat x := hxs.2.1
        refine ⟨_, wm_t hT rfl, by rw [em1]; exact pp_b (m := jt.length) (c := 420) (by omega) (by omega), ?_⟩
        rw [em1, em2, ejt, hjs.1]
        refine ⟨_, wm_t hT rfl, by rw [em3]; exact pp_b (m := l.length) (c := 420) (by omega) (by omega), ?_⟩
        rw [em3, eln, hx2]
        refine ⟨_, wm_t hT rfl, pp_b (m := l.length + 1) (c := 420) (by omega) (by omega), ?_⟩
        rw [eln1, hx1]
        have hyM := hM.2.2 y hy.1
        have hxM := hM.2.2 x hxx.1
        refine ⟨rn_n S, x, y, rn_w S x, rn_w S y, sq_op r, rfl, hT, hM.1, by omega, hxx.1, hy.1, hxM.2.1, hyM.2.1, i1.2.2 x hxx.1, i1.2.2 y hy.1, ?_⟩
        refine ⟨_, wm_t hT rfl, pp_b (m := l.length) (c := 420) (by omega) (by omega), by decide, ?_⟩
        rw [eln]
        have ek : sq_op r = Int32.ofNat (22 + r) := by
          unfold sq_op
          rw [if_neg (by omega)]
        have ew : pm_w2 (sq_op r) (rn_w S x) (rn_w S y) = rj_w r (rn_w S x) (rn_w S y) := by
          have := sq_op_w ⟨r, by omega⟩
          unfold pm_w2 rj_w
          by_cases c4 : r = 4
          · rw [if_pos (this.mpr c4), if_pos c4]
          · rw [if_neg (fun z => c4 (this.mp z)), if_neg c4]
        have nM := pn_M_mk (w := rj_w r (rn_w S x) (rn_w S y)) (x := (22 + r, x, y, 0, 0)) (h := fun _ => false) (a := Int32.ofInt 0) (b := Int32.ofInt 0) hM (show ¬ 22 + r = 60 by omega) (fun _ => rfl) (fun _ => rfl)
        obtain ⟨K, hK⟩ : ∃ K, wv_u (pm_mk I1 (rn_n S) (sq_op r) (Int32.ofNat x) (Int32.ofNat y) (Int32.ofInt 0) (Int32.ofInt 0)) 467 (rn_n S) (Int32.ofNat (pm_w2 (sq_op r) (rn_w S x) (rn_w S y))) = K := ⟨_, rfl⟩
        have nM : pn_M K (rj_1 S r y x) m1 := by
          rw [← hK, ew, ek]
          exact nM
        have kF : ∀ c j, ¬ (c = 460 ∧ j = 16) → ¬ (462 ≤ c ∧ c ≤ 467) → K c j = I1 c j := fun c j d1 d2 => by
          rw [← hK, wv_u_no _ _ (by omega), pm_mk_no (by omega) (by omega)]
        rw [hK]
        obtain ⟨j1, j2⟩ := rj_1_I hI0 r1
        have hlen : (r :: jt).length = jt.length + 1 := rfl
        refine ⟨1000 * (402 - s.1) + 100 + jt.length, by rw [hlen] at hm; omega, Int32.ofNat (l.length + 1), Int32.ofNat jt.length, _, rk, rfl, rfl, rfl, rfl, rfl, rfl, rfl, rfl, fun c j d1 d2 d3 => ?_, ?_, ⟨rn_n S + 1, ?_, by omega⟩, Or.inr ⟨f, Sa, ja, xa, rj_1 S r y x, jt, rn_n S :: l, o, s, m1, rfl, rfl, rfl, hrun, hfu, hIa, hja, hEa, Nat.le_refl _, hrk, hr14, ?_, by omega, hs, ?_, j1, rn_E_tr hE rn_E_mk, pn_M_c nM (fun c j d => wv_u_no _ _ (by omega)), hm1, ?_, ⟨wv_u_at _ _ _ _, ?_⟩, ?_⟩⟩
        · rw [wv_u_no _ _ (by omega), kF _ _ (by omega) (by omega)]; exact hF c j d1 d2 d3
        · rw [wv_u_no _ _ (by omega), kF _ _ (by omega) (by omega)]; exact h20
        · rw [wv_u_no _ _ (by omega)]; exact nM.1
        · exact (rj_at ⟨r1, by omega⟩).symm.trans hrj
        · exact pm_Z_fr hZ1 (fun j d1 d2 => by rw [wv_u_no _ _ (by omega), kF _ _ (by omega) (by omega)])
        · exact pm_js_c hjs.2 (fun k hk => by rw [wv_u_no _ _ (by omega), kF _ _ (by omega) (by omega)])
        · exact pm_xs_c hxs.2.2 (fun k hk => by rw [wv_u_no _ _ (by omega), kF _ _ (by omega) (by omega)])
        · rw [wv_u_no _ _ (by omega), kF _ _ (by omega) (by omega)]; exact h9
      · split at hP
        · cases hP
          rename_i hpc
          subst hpc
          obtain ⟨a2, a3, a4, rk, rfl, rfl, rfl, rfl, rfl, rfl, rfl, rfl, hF, h20, hk16, hAB⟩ := hh
          have hT := hY.1.1
          have hY1 := pm_YS hY hF
          rcases hAB with ⟨hm, sB⟩ | ⟨f, Sa, ja, xa, S, js, xs, o, s, m1, rfl, rfl, rfl, hrun, hfu, hIa, hja, hEa, hm, hrk, hr14, hrj, hz1, hA⟩
          · obtain ⟨s, hs, hZ1, hfin⟩ := sB
            have h8 := (pm_8 hZ1).mpr hs
            refine ⟨fun w => ?_, fun w => absurd h8 w⟩
            refine ⟨fun w => ?_, fun w => absurd h8 w⟩
            exact ⟨10, by omega, a2, a3, a4, _, rfl, rfl, rfl, rfl, rfl, rfl, rfl, rfl, hF, h20, hk16, Or.inl ⟨by omega, s, hs, hZ1, hfin⟩⟩
          obtain ⟨hs, hZ1, hI, hE, hM, hm1, hjs, hxs, h9⟩ := hA
          have hI0 := hI
          obtain ⟨i1, i2, i3, i4, i5, i6, i7, i8, i9, i10⟩ := hI
          have ejn := wi_onn (n := js.length) (by omega)
          have hrk4 : rk ≤ 4 := by
            rw [hrk]
            unfold rk_of
            repeat' split
            all_goals omega
          have erk := wi_on (n := rk) (by omega)
          have no8 : ¬ 0 ≤ I1 460 8 := fun w => (pm_8 hZ1).mp w hs
          refine ⟨fun w => absurd w no8, fun _ => ?_⟩
          refine ⟨fun w => ?_, fun w => ?_⟩
          · rw [wi_le, erk, wi_0] at w
            have hrk0 : rk = 0 := by omega
            have hn14 := hr14 hrk0
            obtain ⟨b1, b2, b3⟩ := tk_ad1 (s := s) (ts := ts) (by rw [hn14]; decide)
            have hrj : rj 1 ja Sa xa = (js, S, xs) := by rw [hrk0] at hrj; exact hrj
            have h2 : sm_1 ts n (tk_place ts n s0.1) (Sa, ja, xa, o, s, false) = sm_cl ts n (tk_place ts n s0.1) o s js S xs := by
              show sm_en ts n (tk_place ts n s0.1) Sa ja xa o s = _
              unfold sm_en
              rw [if_neg (by omega), if_pos hn14, hrj]
            have hq := (rj_ok (rank := 1) (by omega) hIa.1 hIa.2.1 hIa.2.2.1 hIa.2.2.2.2.1).2.2.2.2.2.2.2.2.2
            rw [hrj] at hq
            obtain ⟨jt, rfl⟩ : ∃ jt, js = 0 :: jt := by
              cases js with
              | nil => exact absurd hz1 (by decide)
              | cons r jt =>
                have := hq r jt rfl
                exact ⟨jt, by rw [show r = 0 by omega]⟩
            have i5 : xs.length = 0 + pj_n jt + 1 := i5
            obtain ⟨y, l, rfl⟩ : ∃ y l, xs = y :: l := by
              cases xs with
              | nil => exact absurd i5 (by simp)
              | cons y l => exact ⟨y, l, rfl⟩
            have hy := i2 y List.mem_cons_self
            have hyM := hM.2.2 y hy.1
            have hy1000 := i1.2.2 y hy.1
            have ez : pj_z (0 :: jt) = 1 + pj_z jt := rfl
            have hlj : (0 :: jt).length = jt.length + 1 := rfl
            have hlx : (y :: l).length = l.length + 1 := rfl
            have em1 : Int32.ofNat (0 :: jt).length + Int32.ofInt (-1) = Int32.ofNat jt.length := wq_m1 (by omega)
            have ejt := wi_on (n := jt.length) (by omega)
            have eo : I1 460 9 - Int32.ofInt 1 = Int32.ofNat (o - 1) := by
              rw [h9, show o = (o - 1) + 1 by omega]
              exact wq_s1 (by omega)
            have eln := wi_onn (n := l.length) (by omega)
            have em3 : Int32.ofNat (y :: l).length - Int32.ofInt 1 = Int32.ofNat l.length := wq_s1 (by omega)
            have eyn := wi_onn (n := y) (by omega)
            refine ⟨fun w => absurd w no8, fun _ => ?_⟩
            obtain ⟨K, hK⟩ : ∃ K, wv_u I1 460 9 (I1 460 9 - Int32.ofInt 1) = K := ⟨_, rfl⟩
            have kF : ∀ c j, ¬ (c = 460 ∧ j = 9) → K c j = I1 c j := fun c j d1 => by rw [← hK]; exact wv_u_no _ _ d1
            have k9 : K 460 9 = Int32.ofNat (o - 1) := by rw [← hK, wv_u_at]; exact eo
            have kZ : pm_Z t ts n s K := pm_Z_fr hZ1 (fun j d1 d2 => kF _ _ (by omega))
            have kFS : pm_FS I K := fun c j d1 d2 d3 => by rw [kF _ _ (by omega)]; exact hF c j d1 d2 d3
            have kY := pm_YS hY kFS
            have kM : pn_M K S m1 := pn_M_c hM (fun c j d => kF _ _ (by omega))
            have now2 : s.2 = none → ¬ tk_now ts s = 0 ∧ ¬ tk_now ts s = 1 := fun _ => by rw [hn14]; exact ⟨by decide, by decide⟩
            have hx0 : I1 484 l.length = Int32.ofNat y := hxs.1
            subst hK
            refine ⟨fun w2 => ?_, fun w2 => ?_⟩
            · rw [em1] at w2
              have hjt : ¬ jt = [] := fun z => by rw [z] at w2; exact w2 rfl
              have h2 : sm_1 ts n (tk_place ts n s0.1) (Sa, ja, xa, o, s, false) = ((sm_rp ts n false S y (tk_adv ts s)).1, jt, (sm_rp ts n false S y (tk_adv ts s)).2.1 :: l, o - 1, (sm_rp ts n false S y (tk_adv ts s)).2.2, false) := h2.trans (if_neg hjt)
              have hst := sq_step hv hl hIa hs hja hrun hfu h2
              refine ⟨t, ts, n, s, rfl, kY, kZ, now2, fun J2 hJ2 hF2 => ?_⟩
              have jlt : ¬ Int32.ofNat (0 :: jt).length + Int32.ofInt (-1) ≤ 0 := fun z => by
                rw [em1, wi_le, ejt, wi_0] at z
                exact hjt (List.length_eq_zero_iff.mp (by omega))
              refine ⟨fun z => absurd z jlt, fun _ => ?_⟩
              have jx : J2 484 l.length = Int32.ofNat y := by rw [hF2 _ _ (by omega), kF _ _ (by omega)]; exact hx0
              have jFS : pm_FS I J2 := fun c j d1 d2 d3 => by rw [hF2 _ _ (by omega)]; exact kFS c j d1 d2 d3
              have jM : pn_M J2 S m1 := pn_M_c kM (fun c j d => hF2 _ _ (by omega))
              refine ⟨_, wm_t hT rfl, by rw [em3]; exact pp_b (m := l.length) (c := 420) (by omega) (by omega), ?_⟩
              rw [em3, eln, jx]
              refine ⟨t, ts, n, rn_n S, y, rn_w S y, tk_adv ts s, false, rfl, hT, pm_YS hY jFS, hTs, hJ2, by rw [b2], jM.1, by omega, hy.1, (jM.2.2 y hy.1).2.1, hy1000, fun g => ?_, fun g1 g2 J1 hJ1 hF1 => ?_, fun g1 g2 J1 hJ1 hF1 => ?_⟩
              · refine ⟨_, wm_t hT rfl, pp_b (m := l.length) (c := 420) (by omega) (by omega), by decide, ?_⟩
                rw [eln]
                rw [sm_rp_1 g] at hst
                obtain ⟨f2, q1, q2, q3, q4, q5, q6⟩ := hst.2 (by rw [b2])
                refine ⟨1000 * (402 - (s.1 + 1)) + 900, by omega, _, _, _, _, rfl, rfl, rfl, rfl, rfl, rfl, rfl, rfl, fun c j d1 d2 d3 => ?_, ?_, ⟨rn_n S, ?_, by omega⟩, Or.inr ⟨f2, S, jt, y :: l, o - 1, tk_adv ts s, false, m1, rfl, em1, rfl, q1, q2, by rw [b2]; exact Nat.le_refl _, q6, by rw [b2], ?_, q3, hE, pn_M_c jM (fun c j d => wv_u_no _ _ (by omega)), by rw [b2]; dsimp only; omega, ?_, ⟨wv_u_at _ _ _ _, ?_⟩, ?_⟩⟩
                · rw [wv_u_no _ _ (by omega)]; exact jFS c j d1 d2 d3
                · rw [wv_u_no _ _ (by omega), hF2 _ _ (by omega), kF _ _ (by omega)]; exact h20
                · rw [wv_u_no _ _ (by omega)]; exact jM.1
                · exact pm_Z_fr hJ2 (fun j d1 d2 => wv_u_no _ _ (by omega))
                · exact pm_js_c hjs.2 (fun k hk => by rw [wv_u_no _ _ (by omega), hF2 _ _ (by omega), kF _ _ (by omega)])
                · exact pm_xs_c hxs.2 (fun k hk => by rw [wv_u_no _ _ (by omega), hF2 _ _ (by omega), kF _ _ (by omega)])
                · rw [wv_u_no _ _ (by omega), hF2 _ _ (by omega)]; exact k9
              · refine ⟨_, wm_t hT rfl, pp_b (m := l.length) (c := 420) (by omega) (by omega), by decide, ?_⟩
                rw [eln]
                rw [sm_rp_2 g1 g2] at hst
                have ht : ¬ (tk_ref ts n (tk_adv ts s)).2 = none := by rw [tk_rf1 (by rw [b2])]; exact fun w => by cases w
                refine ⟨10, by omega, _, _, _, _, rfl, rfl, rfl, rfl, rfl, rfl, rfl, rfl, fun c j d1 d2 d3 => ?_, ?_, ⟨rn_n S, ?_, by omega⟩, Or.inl ⟨by omega, tk_ref ts n (tk_adv ts s), ht, ?_, hst.1 ht⟩⟩
                · rw [wv_u_no _ _ (by omega), hF1 _ _ (by omega)]; exact jFS c j d1 d2 d3
                · rw [wv_u_no _ _ (by omega), hF1 _ _ (by omega), hF2 _ _ (by omega), kF _ _ (by omega)]; exact h20
                · rw [wv_u_no _ _ (by omega), hF1 _ _ (by omega)]; exact jM.1
                · exact pm_Z_fr hJ1 (fun j d1 d2 => wv_u_no _ _ (by omega))
              · refine ⟨_, wm_t hT rfl, pp_b (m := l.length) (c := 420) (by omega) (by omega), by decide, ?_⟩
                rw [eln]
                rw [sm_rp_3 g1 g2] at hst
                obtain ⟨e1, e2, e3⟩ := tk_ad1 (rc_is_2 g1)
                obtain ⟨f2, q1, q2, q3, q4, q5, q6⟩ := hst.2 (by rw [e2])
                obtain ⟨z1, z2, z3⟩ := rc_mem hTs hJ2 (by rw [b2]) g1
                have nM := pn_M_mk (w := rc_w ts (tk_adv ts s) (rn_w S y)) (x := (sm_kd ts (tk_adv ts s), y, 0, (tk_low ts (tk_adv ts s).1).toNatClampNeg, (tk_high ts (tk_adv ts s).1).toNatClampNeg)) (h := fun _ => false) (a := J2 460 6) (b := J2 460 7) jM (sm_kd_60 (ts := ts) (s := tk_adv ts s)) z2 z3
                have hF4 : ∀ c j, ¬ (c = 460 ∧ ((3 ≤ j ∧ j ≤ 8) ∨ j = 16)) → ¬ (462 ≤ c ∧ c ≤ 467 ∧ j = rn_n S) → J1 c j = J2 c j := fun c j d1 d2 => by
                  rw [hF1 _ _ (by omega), wv_u_no _ _ (by omega), pm_mk_no (by omega) (by omega)]
                have jM2 : pn_M J1 (sm_nd ts S y (tk_adv ts s)) m1 := by
                  unfold sm_nd
                  refine pn_M_c nM (fun c j d => ?_)
                  rw [hF1 _ _ (by omega), z1]
                  rfl
                have b21 : (tk_adv ts s).1 = s.1 + 1 := by rw [b2]
                refine ⟨1000 * (402 - (s.1 + 2)) + 900, by omega, _, _, _, _, rfl, rfl, rfl, rfl, rfl, rfl, rfl, rfl, fun c j d1 d2 d3 => ?_, ?_, ⟨rn_n S + 1, ?_, by omega⟩, Or.inr ⟨f2, sm_nd ts S y (tk_adv ts s), jt, rn_n S :: l, o - 1, tk_adv ts (tk_adv ts s), false, m1, rfl, em1, rfl, q1, q2, by rw [e2, b21]; exact Nat.le_refl _, q6, by rw [e2], ?_, q3, rn_E_tr hE rn_E_mk, pn_M_c jM2 (fun c j d => wv_u_no _ _ (by omega)), by rw [e2, b21]; dsimp only; omega, ?_, ⟨wv_u_at _ _ _ _, ?_⟩, ?_⟩⟩
                · rw [wv_u_no _ _ (by omega), hF4 _ _ (by omega) (by omega)]; exact jFS c j d1 d2 d3
                · rw [wv_u_no _ _ (by omega), hF4 _ _ (by omega) (by omega), hF2 _ _ (by omega), kF _ _ (by omega)]; exact h20
                · rw [wv_u_no _ _ (by omega)]; exact jM2.1
                · exact pm_Z_fr hJ1 (fun j d1 d2 => wv_u_no _ _ (by omega))
                · exact pm_js_c hjs.2 (fun k hk => by rw [wv_u_no _ _ (by omega), hF4 _ _ (by omega) (by omega), hF2 _ _ (by omega), kF _ _ (by omega)])
                · exact pm_xs_c hxs.2 (fun k hk => by rw [wv_u_no _ _ (by omega), hF4 _ _ (by omega) (by omega), hF2 _ _ (by omega), kF _ _ (by omega)])
                · rw [wv_u_no _ _ (by omega), hF4 _ _ (by omega) (by omega), hF2 _ _ (by omega)]; exact k9
            · have hjt : jt = [] := by
                have := wi_eq.mp (Decidable.not_not.mp w2)
                rw [em1, ejt, wi_0] at this
                exact List.length_eq_zero_iff.mp (by omega)
              subst hjt
              have hl0 : l = [] := List.length_eq_zero_iff.mp (by have : pj_n [] = 0 := rfl; omega)
              subst hl0
              have kx : wv_u I1 460 9 (I1 460 9 - Int32.ofInt 1) 484 0 = Int32.ofNat y := by rw [kF _ _ (by omega)]; exact hx0
              have kw : wv_u I1 460 9 (I1 460 9 - Int32.ofInt 1) 467 y = Int32.ofNat (rn_w S y) := (kM.2.2 y hy.1).2.1
              have ewn := wi_on (n := rn_w S y) (by omega)
              have e40 : ((Int8.ofInt 40).toInt32).toInt = 40 := rfl
              have en0 : (Int32.ofInt 0).toNatClampNeg = 0 := rfl
              refine ⟨_, wm_t hT rfl, by decide, ?_⟩
              rw [en0, kx]
              refine ⟨_, wm_t hT rfl, pp_b (m := y) (c := 800) (by omega) (by omega), ?_⟩
              rw [eyn, kw]
              refine ⟨fun w3 => ?_, fun w3 => ?_⟩
              · rw [wi_le, ewn, e40] at w3
                have h2 : sm_1 ts n (tk_place ts n s0.1) (Sa, ja, xa, o, s, false) = (S, [], [y], o - 1, tk_adv ts s, false) := by
                  refine h2.trans ((if_pos rfl).trans ?_)
                  rw [if_neg (show ¬ 40 < rn_w S ([y].headD 0) from by show ¬ 40 < rn_w S y; omega)]
                obtain ⟨f2, q1, q2, q3, q4, q5, q6⟩ := (sq_step hv hl hIa hs hja hrun hfu h2).2 (by rw [b2])
                refine ⟨t, ts, n, s, rfl, kY, kZ, now2, fun J2 hJ2 hF2 => ?_⟩
                refine ⟨fun _ => ?_, fun z => absurd (by decide) z⟩
                refine ⟨1000 * (402 - (s.1 + 1)) + 900, by omega, _, _, _, _, rfl, rfl, rfl, rfl, rfl, rfl, rfl, rfl, fun c j d1 d2 d3 => ?_, ?_, ⟨rn_n S, ?_, by omega⟩, Or.inr ⟨f2, S, [], [y], o - 1, tk_adv ts s, false, m1, rfl, em1, rfl, q1, q2, by rw [b2]; exact Nat.le_refl _, q6, by rw [b2], hJ2, q3, hE, pn_M_c kM (fun c j d => hF2 _ _ (by omega)), by rw [b2]; dsimp only; omega, trivial, ⟨?_, trivial⟩, ?_⟩⟩
                · rw [hF2 _ _ (by omega)]; exact kFS c j d1 d2 d3
                · rw [hF2 _ _ (by omega), kF _ _ (by omega)]; exact h20
                · rw [hF2 _ _ (by omega)]; exact kM.1
                · rw [hF2 _ _ (by omega)]; exact kx
                · rw [hF2 _ _ (by omega)]; exact k9
              · rw [wi_le, ewn, e40] at w3
                have h2 : sm_1 ts n (tk_place ts n s0.1) (Sa, ja, xa, o, s, false) = (S, [], [y], o - 1, tk_adv ts (tk_refAt (tk_place ts n s0.1) s), false) := by
                  refine h2.trans ((if_pos rfl).trans ?_)
                  rw [if_pos (show 40 < rn_w S ([y].headD 0) from by show 40 < rn_w S y; omega)]
                have er : tk_refAt (tk_place ts n s0.1) s = (s.1, some (tk_place ts n s0.1)) := by
                  unfold tk_refAt
                  rw [hs]
                have ea : tk_adv ts (tk_refAt (tk_place ts n s0.1) s) = tk_refAt (tk_place ts n s0.1) s := by rw [er]; rfl
                rw [ea] at h2
                have ht : ¬ (tk_refAt (tk_place ts n s0.1) s).2 = none := by rw [er]; exact fun z => by cases z
                refine ⟨_, rfl, ?_⟩
                refine ⟨t, ts, n, tk_refAt (tk_place ts n s0.1) s, rfl, pm_YS hY (fun c j d1 d2 d3 => by rw [wp_bad_no (by omega)]; exact kFS c j d1 d2 d3), pm_badAt kZ hs hb4, fun z => absurd z ht, fun J2 hJ2 hF2 => ?_⟩
                rw [ea] at hJ2
                refine ⟨fun _ => ?_, fun z => absurd (by decide) z⟩
                refine ⟨10, by omega, _, _, _, _, rfl, rfl, rfl, rfl, rfl, rfl, rfl, rfl, fun c j d1 d2 d3 => ?_, ?_, ⟨rn_n S, ?_, by omega⟩, Or.inl ⟨by omega, tk_refAt (tk_place ts n s0.1) s, ht, hJ2, (sq_step hv hl hIa hs hja hrun hfu h2).1 ht⟩⟩
                · rw [hF2 _ _ (by omega), wp_bad_no (by omega)]; exact kFS c j d1 d2 d3
                · rw [hF2 _ _ (by omega), wp_bad_no (by omega), kF _ _ (by omega)]; exact h20
                · rw [hF2 _ _ (by omega), wp_bad_no (by omega)]; exact kM.1
          · rw [wi_le, erk, wi_0] at w
            have hrk0 : 0 < rk := by omega
            have htok := sq_op_tok hTs hZ1 hs (by rw [← hrk]; exact hrk0)
            rw [← hrk] at htok
            have hnk : ¬ tk_now ts s = Int32.ofInt 2 := fun z => by
              rw [z] at hrk
              rw [hrk] at hrk0
              exact absurd hrk0 (by decide)
            obtain ⟨b1, b2, b3⟩ := tk_ad1 hnk
            have hmx : max 1 rk = rk := Nat.max_eq_right hrk0
            rw [hmx] at hrj
            have h2 : sm_1 ts n (tk_place ts n s0.1) (Sa, ja, xa, o, s, false) = (S, rk :: js, xs, o, tk_adv ts s, true) := by
              show sm_en ts n (tk_place ts n s0.1) Sa ja xa o s = _
              unfold sm_en
              rw [← hrk, if_pos hrk0, hrj]
            obtain ⟨f2, q1, q2, q3, q4, q5, q6⟩ := (sq_step hv hl hIa hs hja hrun hfu h2).2 (by rw [b2])
            refine ⟨_, wm_t hT rfl, pp_b (m := js.length) (c := 420) (by omega) (by omega), by decide, ?_⟩
            rw [ejn, htok]
            have jFS : pm_FS I (wv_u I1 485 js.length (sq_op rk)) := fun c j d1 d2 d3 => by rw [wv_u_no _ _ (by omega)]; exact hF c j d1 d2 d3
            refine ⟨t, ts, n, s, rfl, pm_YS hY jFS, pm_Z_fr hZ1 (fun j d1 d2 => wv_u_no _ _ (by omega)), fun _ => ⟨fun z => ?_, fun z => ?_⟩, fun J2 hJ2 hF2 => ?_⟩
            · rw [z] at hrk; rw [hrk] at hrk0; exact absurd hrk0 (by decide)
            · rw [z] at hrk; rw [hrk] at hrk0; exact absurd hrk0 (by decide)
            have hF3 : ∀ c j, ¬ (c = 460 ∧ 3 ≤ j ∧ j ≤ 8) → ¬ (c = 485 ∧ j = js.length) → J2 c j = I1 c j := fun c j d1 d2 => by
              rw [hF2 _ _ (by omega), wv_u_no _ _ (by omega)]
            obtain ⟨k, k1, k2⟩ := hk16
            refine ⟨1000 * (402 - (s.1 + 1)) + 900, by omega, _, Int32.ofNat js.length + Int32.ofInt 1, Int32.ofInt 1, _, rfl, rfl, rfl, rfl, rfl, rfl, rfl, rfl, fun c j d1 d2 d3 => ?_, ?_, ⟨k, ?_, k2⟩, Or.inr ⟨f2, S, rk :: js, xs, o, tk_adv ts s, true, m1, rfl, wq_4s _, rfl, q1, q2, by rw [b2]; exact Nat.le_refl _, q6, by rw [b2], hJ2, q3, hE, pn_M_c hM (fun c j d => hF3 _ _ (by omega) (by omega)), by rw [b2]; dsimp only; omega, ⟨?_, ?_⟩, ?_, ?_⟩⟩
            · rw [hF3 _ _ (by omega) (by omega)]; exact hF c j d1 d2 d3
            · rw [hF3 _ _ (by omega) (by omega)]; exact h20
            · rw [hF3 _ _ (by omega) (by omega)]; exact k1
            · rw [hF2 _ _ (by omega)]; exact wv_u_at _ _ _ _
            · exact pm_js_c hjs (fun k hk => hF3 _ _ (by omega) (by omega))
            · exact pm_xs_c hxs (fun k hk => hF3 _ _ (by omega) (by omega))
            · rw [hF3 _ _ (by omega) (by omega)]; exact h9
        · split at hP
          · cases hP
            rename_i hpc
            subst hpc
            obtain ⟨a2, a3, a4, x5, rfl, rfl, rfl, rfl, rfl, rfl, rfl, rfl, hF, h20, hk16, hAB⟩ := hh
            have hT := hY.1.1
            have en0 : (Int32.ofInt 0).toNatClampNeg = 0 := rfl
            obtain ⟨k, k1, k2⟩ := hk16
            rcases hAB with ⟨s, hs, hZ1, hfin⟩ | ⟨S, y, o, s, m1, hfin, hw, hA⟩
            · have h8 := (pm_8 hZ1).mpr hs
              have fin1 : ∀ v w, ¬ (sq_fin ts n z S0 s0).2.2.2.2.1.2 = none → pm_Z t ts n (sq_fin ts n z S0 s0).2.2.2.2.1 (wv_u I1 460 20 w) → q (.inl (some (.int v))) T1 N1 (wv_u I1 460 20 w) L1 R1 0 0 := fun v w nf hZ2 => h v _ hZ2 (fun c j d1 d2 d3 => by rw [wv_u_no _ _ (by omega)]; exact hF c j d1 d2 d3) ⟨k, by rw [wv_u_no _ _ (by omega)]; exact k1, k2⟩ (fun z => absurd z nf)
              have nf : ¬ (sq_fin ts n z S0 s0).2.2.2.2.1.2 = none := by rw [hfin]; exact hs
              have zz : ∀ w, pm_Z t ts n (sq_fin ts n z S0 s0).2.2.2.2.1 (wv_u I1 460 20 w) := fun w => pm_Z_fr (pm_Z_f hZ1 hs hfin) (fun j d1 d2 => wv_u_no _ _ (by omega))
              refine ⟨fun w => ?_, fun w => ?_⟩
              · exact ⟨_, wm_t hT rfl, by decide, fin1 _ _ nf (zz _)⟩
              · refine ⟨fun w => ?_, fun w => absurd h8 w⟩
                exact ⟨_, wm_t hT rfl, by decide, fin1 _ _ nf (zz _)⟩
            · obtain ⟨hs, hZ1, hI, hE, hM, hm1, hjs, hxs, h9⟩ := hA
              have no8 : ¬ 0 ≤ I1 460 8 := fun w => (pm_8 hZ1).mp w hs
              have hx0 : I1 484 0 = Int32.ofNat y := hxs.1
              have fin1 : ∀ w, w = (if I 460 20 < 0 then Int32.ofNat y else I 460 20) → q (.inl (some (.int (Int32.ofNat y)))) T1 N1 (wv_u I1 460 20 w) L1 R1 0 0 := fun w hw2 => h (Int32.ofNat y) _ (by rw [hfin]; exact pm_Z_fr hZ1 (fun j d1 d2 => wv_u_no _ _ (by omega))) (fun c j d1 d2 d3 => by rw [wv_u_no _ _ (by omega)]; exact hF c j d1 d2 d3) ⟨k, by rw [wv_u_no _ _ (by omega)]; exact k1, k2⟩ (fun _ => ⟨S, y, o, s, m1, hfin, rfl, hw, ⟨hs, pm_Z_fr hZ1 (fun j d1 d2 => wv_u_no _ _ (by omega)), hI, hE, pn_M_c hM (fun c j d => wv_u_no _ _ (by omega)), hm1, trivial, ⟨by show wv_u I1 460 20 w 484 0 = _; rw [wv_u_no _ _ (by omega)]; exact hx0, trivial⟩, by rw [wv_u_no _ _ (by omega)]; exact h9⟩, by rw [wv_u_at]; exact hw2⟩)
              refine ⟨fun w => ?_, fun w => ?_⟩
              · rw [h20] at w
                refine ⟨_, wm_t hT rfl, by decide, ?_⟩
                have := fin1 (I1 460 20) (by rw [h20, if_neg (by rw [wi_lt, wi_0]; rw [wi_le, wi_0] at w; omega)])
                rw [en0, wv_u_no _ _ (by omega), hx0]
                exact this
              · refine ⟨fun w2 => absurd w2 no8, fun _ => ?_⟩
                rw [h20] at w
                refine ⟨_, wm_t hT rfl, by decide, ?_⟩
                rw [en0, hx0]
                refine ⟨_, wm_t hT rfl, by decide, ?_⟩
                have := fin1 (Int32.ofNat y) (by rw [if_pos (by rw [wi_lt, wi_0]; rw [wi_le, wi_0] at w; omega)])
                rw [en0, wv_u_no _ _ (by omega), hx0]
                exact this
          · cases hP
