/-! ===== the reference: a property begun ===== -/
theorem ap_b_n {ts : List wt_t} {n : Nat} {S : rn_N} {fr : List ap_F} {o : Nat} {s : wt_q} {sq : List Nat} : ap_1 ts n (S, fr, none, o, s, sq, false) = ap_b ts n S fr o s sq := rfl
def pm_c356 : wv_c1 := fun as T N I L R q => ∃ (t : Nat → Int32) (ts : List wt_t) (n o m1 : Nat) (S : rn_N) (fr : List ap_F) (s : wt_q) (sq : List Nat), as = [.ref 460] ∧ wp_Y T I t n ∧ pm_T ts n ∧ ts.length ≤ 401 ∧ s.2 = none ∧ ap_I ts S fr none o s sq ∧ am_A t ts n I S fr o s sq m1 ∧ ∀ v I1, am_B t ts n I1 (ap_1 ts n (S, fr, none, o, s, sq, false)) v → pm_FP I I1 → q (.inl (some (.int v))) T N I1 L R 0 0
set_option maxRecDepth 100000 in
theorem wM_356 : ∃ cb ci np, pt_mt 356 = some (32, cb, 3, false, some .int, ci, np) := ⟨_, _, _, rfl⟩
set_option maxRecDepth 100000 in
set_option maxHeartbeats 20000000 in
theorem pm_beginning {sc : pt_Sc} {d : Nat} : wv_C wm_fx sc (d + 1 + 1 + 1 + 1 + 1 + 1 + 1 + 1) 356 pm_c356 := by
  rintro as T N I L R q ⟨t, ts, n, o, m1, S, fr, s, sq, rfl, hY, hTs, hl, hs, hI, ⟨hZ, hM, hm1, hfr, h72, h9, h20⟩, h⟩ w0 HR
  obtain ⟨cb, ci, np, hm⟩ := wM_356
  have hc348 : wv_C wm_fx sc (d + 1 + 1 + 1 + 1 + 1 + 1 + 1) 348 pm_c348 := wv_C_deep (by omega) (pm_next (d := d))
  have hc357 : wv_C wm_fx sc (d + 1 + 1 + 1 + 1 + 1 + 1 + 1) 357 pm_c357 := wv_C_deep (by omega) (pm_push (d := d))
  have hc358 : wv_C wm_fx sc (d + 1 + 1 + 1 + 1 + 1 + 1 + 1) 358 wp_c358 := wv_C_deep (by omega) (wp_badC (d := d))
  have hc359 : wv_C wm_fx sc (d + 1 + 1 + 1 + 1 + 1 + 1 + 1) 359 pm_c359 := wv_C_deep (by omega) (pm_sequence (d := d))
  have hc360 : wv_C wm_fx sc (d + 1 + 1 + 1 + 1 + 1 + 1 + 1) 360 pm_c360 := wv_C_deep (by omega) (pm_opens (d := d))
  have hc362 : wv_C wm_fx sc (d + 1 + 1 + 1 + 1 + 1 + 1 + 1) 362 pm_c362 := wv_C_deep (by omega) (pm_begins (d := d))
  have hc363 : wv_C wm_fx sc (d + 1 + 1 + 1 + 1 + 1 + 1 + 1) 363 pm_c363 := wv_C_deep (by omega) (pm_condition (d := d))
  have hc365 : wv_C wm_fx sc (d + 1 + 1 + 1 + 1 + 1 + 1 + 1) 365 pm_c365 := wv_C_deep (by omega) (pm_make (d := d))
  refine wv_meth (hh := none) rfl (sp := wv_sp [(348, pm_c348), (357, pm_c357), (358, wp_c358), (359, pm_c359), (360, pm_c360), (362, pm_c362), (363, pm_c363), (365, pm_c365)]) (hd := fun _ => none) (n := 0) (n1 := 300) hm zc_356 rfl (wv_sp_ok (fun q hq => by
    rcases List.mem_cons.mp hq with h | h
    · rw [h]; exact hc348
    rcases List.mem_cons.mp h with h | h
    · rw [h]; exact hc357
    rcases List.mem_cons.mp h with h | h
    · rw [h]; exact hc358
    rcases List.mem_cons.mp h with h | h
    · rw [h]; exact hc359
    rcases List.mem_cons.mp h with h | h
    · rw [h]; exact hc360
    rcases List.mem_cons.mp h with h | h
    · rw [h]; exact hc362
    rcases List.mem_cons.mp h with h | h
    · rw [h]; exact hc363
    rw [List.mem_singleton.mp h]; exact hc365)) ?_ (fun pc P h => by cases h) HR
  have hT := hY.1.1
  have hv := hTs.1
  have hI0 := hI
  obtain ⟨i1, iq, i2, i3, i4, i5, i6, i7, i8⟩ := hI
  have hk26 := pm_kind hTs hZ hs pr_kc_26
  have hk28 := pm_kind hTs hZ hs pr_kc_28
  have hk27 := pm_kind hTs hZ hs pr_kc_27
  have hk13 := pm_kind hTs hZ hs pr_kc_13
  have hk15 := pm_kind hTs hZ hs pr_kc_15
  refine ⟨fun w26 => ?_, fun w26 => ?_⟩
  · have w26 : ¬ tk_now ts s = (Int8.ofInt 26).toInt32 := fun z => w26 (hk26.mpr z)
    have he : ap_1 ts n (S, fr, none, o, s, sq, false) = _ := (if_neg w26 : ap_b ts n S fr o s sq = _)
    refine ⟨fun w28 => ?_, fun w28 => ?_⟩
    · have w28 : ¬ tk_now ts s = (Int8.ofInt 28).toInt32 := fun z => w28 (hk28.mpr z)
      rw [if_neg w28] at he
      refine ⟨fun w27 => ?_, fun w27 => ?_⟩
      · have w27 : ¬ tk_now ts s = (Int8.ofInt 27).toInt32 := fun z => w27 (hk27.mpr z)
        rw [if_neg w27] at he
        refine ⟨fun w13 => ?_, fun w13 => ?_⟩
        · have w13 : ¬ tk_now ts s = (Int8.ofInt 13).toInt32 := fun z => w13 (hk13.mpr z)
          rw [if_neg w13] at he
          refine ⟨fun w15 => ?_, fun w15 => ?_⟩
          · have w15 : ¬ tk_now ts s = (Int8.ofInt 15).toInt32 := fun z => w15 (hk15.mpr z)
            rw [if_neg w15] at he
            refine ⟨t, ts, n, s, rfl, hTs, hZ, hs, fun hb => ?_, fun hb => ?_⟩
            · refine ⟨fun _ => ?_, fun w => absurd (by decide) w⟩
              refine ⟨t, ts, n, m1, rn_n S, s, rfl, hY, hTs, hZ, hs, hl, i7, hM.2.1, hm1, hM.1, by omega, fun J hJ hJ18 hJcc hJF => ?_⟩
              have kM := pn_M_cd hM hJ18 hJcc hJF
              obtain ⟨K, hK⟩ : ∃ K, wv_u (pm_mk J (rn_n S) (Int8.ofInt 60).toInt32 (Int32.ofNat m1) (Int32.ofNat (m1 + (cd_all ts n s).1.length + 1)) (Int32.ofInt 0) (Int32.ofInt 0)) 467 (rn_n S) (Int32.ofInt 1) = K := ⟨_, rfl⟩
              rw [hK] at kM ⊢
              have kF : ∀ c j, ¬ (c = 460 ∧ ((3 ≤ j ∧ j ≤ 8) ∨ j = 16 ∨ j = 18)) → ¬ (462 ≤ c ∧ c ≤ 468) → K c j = I c j := fun c j d1 d2 => by
                rw [← hK, wv_u_no _ _ (by omega), pm_mk_no (by omega) (by omega)]
                exact hJF _ _ (by omega) (by omega) (by omega)
              have kZ : pm_Z t ts n (cd_all ts n s).2.2 K := pm_Z_fr hJ (fun j d1 d2 => by rw [← hK, wv_u_no _ _ (by omega), pm_mk_no (by omega) (by omega)])
              have kFP : pm_FP I K := fun c j d1 d2 d3 => kF _ _ (by omega) d2
              have kY := pm_YP hY kFP
              obtain ⟨c1, c2, c3⟩ := cd_all_b (n := n) hl i7
              have hle : (cd_all ts n s).2.2.2 = none → m1 + (cd_all ts n s).1.length + 1 ≤ (cd_all ts n s).2.2.1 := fun hcf => by
                obtain ⟨f2, _, _, _, q4⟩ := cd_B_all (m0 := m1) hl 401 _ _ (by omega) (cd_B_0 (n := n) i7 hm1)
                exact (q4 hcf).2
              have done : ¬ tk_now ts (cd_all ts n s).2.2 = (Int8.ofInt 17).toInt32 → q (.inl (some (.int (Int32.ofNat (rn_n S))))) T N K L R 0 0 := fun w17 => by
                have he2 : ap_1 ts n (S, fr, none, o, s, sq, false) = (sm_c ts n S s, fr, some (rn_n S), o, (cd_all ts n s).2.2, sq, false) := he.trans (if_neg w17)
                exact h _ _ (am_B_of hv hl hI0 hs he2 kZ (fun hf => ⟨rfl, _, kZ, kM, hle hf, pm_fr_c hfr (fun c k a b hk => kF _ _ (by omega) (by omega)), by rw [kF _ _ (by omega) (by omega)]; exact h72, by rw [kF _ _ (by omega) (by omega)]; exact h9, by rw [kF _ _ (by omega) (by omega)]; exact h20⟩)) kFP
              refine ⟨fun w8 => ?_, fun w8 => ?_⟩
              · have hcf := (pm_8 kZ).mp w8
                refine ⟨fun _ => ?_, fun z => absurd rfl z⟩
                refine ⟨fun _ => ?_, fun z => absurd rfl z⟩
                exact done (by rw [tk_now_f hcf]; decide)
              have hcf : (cd_all ts n s).2.2.2 = none := Decidable.not_not.mp (fun z => w8 ((pm_8 kZ).mpr z))
              have hk17 := pm_kind hTs kZ hcf pr_kc_17
              refine ⟨fun w17 => ?_, fun w17 => ?_⟩
              · refine ⟨fun _ => ?_, fun z => absurd rfl z⟩
                refine ⟨fun _ => ?_, fun z => absurd rfl z⟩
                exact done (fun z => w17 (hk17.mpr z))
              have w17 := hk17.mp (Decidable.not_not.mp w17)
              have he2 : ap_1 ts n (S, fr, none, o, s, sq, false) = (sm_c ts n S s, (31, rn_n S, 0) :: fr, none, o, tk_adv ts (cd_all ts n s).2.2, sq, false) := he.trans (if_pos w17)
              obtain ⟨b1, b2, b3⟩ := tk_ad1 (s := (cd_all ts n s).2.2) (ts := ts) (by rw [w17]; decide)
              refine ⟨fun z => absurd z (by decide), fun _ => ?_⟩
              have k72 : K 460 72 = Int32.ofNat fr.length := by rw [kF _ _ (by omega) (by omega)]; exact h72
              refine ⟨fr.length, _, _, _, rfl, hT, k72, by omega, ?_⟩
              have pF : pm_FP I (pm_ps K fr.length ((Int8.ofInt 31).toInt32) (Int32.ofNat (rn_n S)) (Int32.ofInt 0)) := fun c j d1 d2 d3 => by rw [pm_ps_no (by omega) (by omega)]; exact kFP c j d1 d2 d3
              refine ⟨t, ts, n, (cd_all ts n s).2.2, rfl, pm_YP hY pF, pm_Z_fr kZ (fun j d1 d2 => pm_ps_no (by omega) (by omega)), fun _ => by rw [w17]; exact ⟨by decide, by decide⟩, fun J2 hJ2 hF2 => ?_⟩
              refine ⟨fun z => absurd z (by decide), fun _ => ?_⟩
              refine h _ _ (am_B_of hv hl hI0 hs he2 hJ2 (fun hf => ⟨rfl, _, hJ2, pn_M_c kM (fun c j d => by rw [hF2 _ _ (by omega), pm_ps_no (by omega) (by omega)]), by rw [b2]; exact Nat.le_succ_of_le (hle hcf), pm_fr_c (pm_fr_1 (k := 31) (x := rn_n S) (c := 0) (pm_fr_c hfr (fun c k a b hk => kF _ _ (by omega) (by omega)))) (fun c k a b hk => hF2 _ _ (by omega)), by rw [hF2 _ _ (by omega)]; exact pm_ps_72, by rw [hF2 _ _ (by omega), pm_ps_no (by omega) (by omega), kF _ _ (by omega) (by omega)]; exact h9, by rw [hF2 _ _ (by omega), pm_ps_no (by omega) (by omega), kF _ _ (by omega) (by omega)]; exact h20⟩)) (fun c j d1 d2 d3 => by rw [hF2 _ _ (by omega)]; exact pF c j d1 d2 d3)
            · refine ⟨fun w => absurd rfl w, fun _ => ?_⟩
              refine ⟨_, rfl, ?_⟩
              have ec := cd_all_bad (n := n) hs hb
              have ht : ¬ (tk_ref ts n s).2 = none := by rw [tk_rf1 hs]; exact fun w => by cases w
              have he2 : ap_1 ts n (S, fr, none, o, s, sq, false) = (sm_c ts n S s, fr, some (rn_n S), o, tk_ref ts n s, sq, false) := by
                rw [he]
                unfold ap_cd
                rw [ec, if_neg (by rw [tk_now_f ht]; decide)]
              exact h _ _ (am_B_of hv hl hI0 hs he2 (pm_bad hTs hZ hs) (fun hf => absurd hf ht)) (fun c j d1 d2 d3 => wp_bad_no (by omega))
          · have w15 := hk15.mp (Decidable.not_not.mp w15)
            rw [if_pos w15] at he
            obtain ⟨b1, b2, b3⟩ := tk_ad1 (s := s) (ts := ts) (by rw [w15]; decide)
            refine ⟨t, ts, n, o, s, rfl, hTs, hZ, hs, h9, i5, fun J hJ hJ9 hJF => ?_⟩
            have jFP : pm_FP I J := fun c j d1 d2 d3 => hJF _ _ (by omega)
            refine ⟨t, ts, n, (if o = 20 then tk_ref ts n s else s), rfl, pm_YP hY jFP, hJ, fun z => ?_, fun J2 hJ2 hF2 => ?_⟩
            · by_cases co : o = 20
              · rw [if_pos co, tk_rf1 hs] at z
                cases z
              · rw [if_neg co, w15]
                exact ⟨by decide, by decide⟩
            have jF : ∀ c j, ¬ (c = 460 ∧ 3 ≤ j ∧ j ≤ 9) → J2 c j = I c j := fun c j d => by rw [hF2 _ _ (by omega), hJF _ _ (by omega)]
            have j72 : J2 460 72 = Int32.ofNat fr.length := by rw [jF _ _ (by omega)]; exact h72
            refine ⟨fr.length, _, _, _, rfl, hT, j72, by omega, ?_⟩
            by_cases co : o < 20
            · rw [if_pos co] at he
              rw [if_neg (by omega)] at hJ2
              have jF2 : ∀ c j, ¬ (c = 460 ∧ 3 ≤ j ∧ j ≤ 9) → J2 c j = I c j := jF
              have j9 : J2 460 9 = Int32.ofNat (o + 1) := by rw [hF2 _ _ (by omega)]; exact hJ9
              refine h _ _ (am_B_of hv hl hI0 hs he (pm_Z_fr hJ2 (fun j d1 d2 => pm_ps_no (by omega) (by omega))) (fun hf => ⟨rfl, m1, pm_Z_fr hJ2 (fun j d1 d2 => pm_ps_no (by omega) (by omega)), pn_M_c hM (fun c j d => by rw [pm_ps_no (by omega) (by omega)]; exact jF2 c j (by omega)), by rw [b2]; exact Nat.le_succ_of_le hm1, pm_fr_1 (k := 29) (x := 0) (c := 0) (pm_fr_c hfr (fun c k a b hk => jF2 c k (by omega))), pm_ps_72, by rw [pm_ps_no (by omega) (by omega)]; exact j9, by rw [pm_ps_no (by omega) (by omega), jF2 _ _ (by omega)]; exact h20⟩)) (fun c j d1 d2 d3 => by rw [pm_ps_no (by omega) (by omega)]; exact jF2 c j (by omega))
            · rw [if_neg co] at he
              rw [if_pos (by omega)] at hJ2
              have ht : ¬ (tk_ref ts n s).2 = none := by rw [tk_rf1 hs]; exact fun w => by cases w
              have e3 : tk_adv ts (tk_ref ts n s) = tk_ref ts n s := by rw [tk_rf1 hs]; rfl
              rw [e3] at hJ2
              exact h _ _ (am_B_of hv hl hI0 hs he (pm_Z_fr hJ2 (fun j d1 d2 => pm_ps_no (by omega) (by omega))) (fun hf => absurd hf ht)) (fun c j d1 d2 d3 => by rw [pm_ps_no (by omega) (by omega)]; exact jF _ _ (by omega))
        · have w13 := hk13.mp (Decidable.not_not.mp w13)
          rw [if_pos w13] at he
          refine ⟨t, ts, n, o, fr.length, m1, S, s, rfl, hY, hTs, hZ, hs, w13, hl, i7, i1, hM, hm1, h9, i5, i6, fun v J hJ hJF hJ16 hJA => ?_⟩
          obtain ⟨k16, hk1, hk2⟩ := hJ16
          have jFP : pm_FP I J := fun c j d1 d2 d3 => hJF _ _ (by omega) d2 (by omega)
          have jfr : pm_fr J fr := pm_fr_c hfr (fun c k a b hk => hJF _ _ (by omega) (by omega) (by omega))
          have j72 : J 460 72 = Int32.ofNat fr.length := by rw [hJF _ _ (by omega) (by omega) (by omega)]; exact h72
          by_cases hff : (sq_fin ts n o S s).2.2.2.2.1.2 = none
          · obtain ⟨S2, y, o2, s2, m2, e1, e2, e3, hA, e4⟩ := hJA hff
            obtain ⟨A1, A2, A3, A4, A5, A6, A7, A8, A9⟩ := hA
            obtain ⟨_, y9, _, d1, _, _, d4, _, _, _, _, d9, _⟩ := sq_fin_ok (z := o) (e := fr.length) hv hl i1 w13 i5 i6 hff
            rw [e1] at d1
            have hyn : y < rn_n S2 := (A3.2.1 y List.mem_cons_self).1
            have hS2 := A3.2.2.2.2.2.2.2.2.1
            have hS2l := A3.2.2.2.2.2.2.2.2.2
            have eo2 : o2 = o := by
              have := A3.2.2.2.2.2.2.1
              have e : pj_z [] = 0 := rfl
              omega
            have hfi : J 460 20 = ap_first (sq ++ [y]) := e4.trans (ap_first_1 (by omega) (fun z hz => by have := (i8 z hz).1; omega) h20)
            subst e2
            rw [e1] at he
            have he : ap_1 ts n (S, fr, none, o, s, sq, false) = ap_sq ts fr sq (S2, [], [y], o2, s2, false) := he
            unfold ap_sq at he
            dsimp only [List.headD] at he
            have h8 : ¬ 0 ≤ J 460 8 := fun w => (pm_8 A2).mp w A1
            have hk18 := pm_kind hTs A2 A1 pr_kc_18
            have hk19 := pm_kind hTs A2 A1 pr_kc_19
            have plain : ¬ tk_now ts s2 = (Int8.ofInt 18).toInt32 → ¬ tk_now ts s2 = (Int8.ofInt 19).toInt32 → J 460 16 = Int32.ofNat (rn_n S2) ∧ q (.inl (some (.int (Int32.ofNat (rn_n S2))))) T N (pm_mk J (rn_n S2) ((Int8.ofInt 61).toInt32) (Int32.ofNat y) (Int32.ofInt 0) (Int32.ofInt 0) (Int32.ofInt 0)) L R 0 0 := fun n18 n19 => by
              rw [if_neg n18, if_neg n19] at he
              refine ⟨A5.1, h _ _ (am_B_of hv hl hI0 hs he (pm_Z_fr A2 (fun j d1 d2 => pm_mk_no (by omega) (by omega))) (fun hf => ⟨rfl, m2, pm_Z_fr A2 (fun j d1 d2 => pm_mk_no (by omega) (by omega)), pn_M_m (x := (61, y, 0, 0, 0)) A5 (show ¬ (61 : Nat) = 60 by decide) (fun _ => rfl) (fun _ => rfl), A6, pm_fr_c jfr (fun c k a b hk => pm_mk_no (by omega) (by omega)), by rw [pm_mk_no (by omega) (by omega)]; exact j72, by rw [pm_mk_no (by omega) (by omega)]; exact A9, by rw [pm_mk_no (by omega) (by omega)]; exact hfi⟩)) (fun c j d1 d2 d3 => by rw [pm_mk_no (by omega) (by omega)]; exact jFP c j d1 d2 d3)⟩
            have more : ∀ kk : Nat, I 460 3 = I 460 3 → J 460 3 = Int32.ofNat kk → ap_1 ts n (S, fr, none, o, s, sq, false) = (S2, (kk, y, 0) :: fr, none, o2, tk_adv ts s2, sq ++ [y], false) → ¬ tk_now ts s2 = 0 ∧ ¬ tk_now ts s2 = 1 → ¬ tk_now ts s2 = Int32.ofInt 2 → pm_c348 [.ref 460] T N (pm_ps J fr.length (J 460 3) (Int32.ofNat y) (Int32.ofInt 0)) L R (fun r T1 N1 I1 L1 R1 nc ns => q (.inl (some (.int (Int32.ofInt (-1))))) T1 N1 I1 L1 R1 0 0) := fun kk _ hkk he2 hn01 hn2 => by
              obtain ⟨b1, b2, b3⟩ := tk_ad1 hn2
              have pF : pm_FP I (pm_ps J fr.length (J 460 3) (Int32.ofNat y) (Int32.ofInt 0)) := fun c j d1 d2 d3 => by rw [pm_ps_no (by omega) (by omega)]; exact jFP c j d1 d2 d3
              refine ⟨t, ts, n, s2, rfl, pm_YP hY pF, pm_Z_fr A2 (fun j d1 d2 => pm_ps_no (by omega) (by omega)), fun _ => hn01, fun J2 hJ2 hF2 => ?_⟩
              refine h _ _ (am_B_of hv hl hI0 hs he2 hJ2 (fun hf => ⟨rfl, m2, hJ2, pn_M_c A5 (fun c j d => by rw [hF2 _ _ (by omega), pm_ps_no (by omega) (by omega)]), by rw [b2]; exact Nat.le_succ_of_le A6, pm_fr_c (show pm_fr (pm_ps J fr.length (J 460 3) (Int32.ofNat y) (Int32.ofInt 0)) ((kk, y, 0) :: fr) from by rw [hkk]; exact pm_fr_1 (k := kk) (x := y) (c := 0) jfr) (fun c k a b hk => hF2 _ _ (by omega)), by rw [hF2 _ _ (by omega)]; exact pm_ps_72, by rw [hF2 _ _ (by omega), pm_ps_no (by omega) (by omega)]; exact A9, by rw [hF2 _ _ (by omega), pm_ps_no (by omega) (by omega)]; exact hfi⟩)) (fun c j d1 d2 d3 => by rw [hF2 _ _ (by omega)]; exact pF c j d1 d2 d3)
            refine ⟨fun w8 => absurd w8 h8, fun _ => ?_⟩
            refine ⟨fun w18 => ?_, fun w18 => ?_⟩
            · have n18 := hk18.mp w18
              have he2 := he.trans (if_pos n18)
              refine ⟨fun z => absurd z (by decide), fun _ => ?_⟩
              refine ⟨fr.length, _, _, _, rfl, hT, j72, by omega, ?_⟩
              obtain ⟨t', ts', n', s', g1, g2, g3, g4, g5⟩ := more 32 rfl w18 he2 (by rw [n18]; exact ⟨by decide, by decide⟩) (by rw [n18]; decide)
              exact ⟨t', ts', n', s', g1, g2, g3, g4, fun J2 u1 u2 => ⟨fun z => absurd z (by decide), fun _ => g5 J2 u1 u2⟩⟩
            · have n18 : ¬ tk_now ts s2 = (Int8.ofInt 18).toInt32 := fun z => w18 (hk18.mpr z)
              refine ⟨fun w19 => ?_, fun w19 => ?_⟩
              · have n19 : ¬ tk_now ts s2 = (Int8.ofInt 19).toInt32 := fun z => w19 (hk19.mpr z)
                refine ⟨fun _ => ?_, fun z => absurd rfl z⟩
                refine ⟨fun _ => ?_, fun z => absurd rfl z⟩
                obtain ⟨u1, u2⟩ := plain n18 n19
                exact ⟨rn_n S2, _, _, _, _, _, rfl, hT, u1, by omega, u2⟩
              · have w19 := Decidable.not_not.mp w19
                have n19 := hk19.mp w19
                have he2 := he.trans ((if_neg n18).trans (if_pos n19))
                refine ⟨fun z => absurd z (by decide), fun _ => ?_⟩
                refine ⟨fr.length, _, _, _, rfl, hT, j72, by omega, ?_⟩
                obtain ⟨t', ts', n', s', g1, g2, g3, g4, g5⟩ := more 33 rfl w19 he2 (by rw [n19]; exact ⟨by decide, by decide⟩) (by rw [n19]; decide)
                exact ⟨t', ts', n', s', g1, g2, g3, g4, fun J2 u1 u2 => ⟨fun z => absurd z (by decide), fun _ => g5 J2 u1 u2⟩⟩
          · have h8 : 0 ≤ J 460 8 := (pm_8 hJ).mpr hff
            refine ⟨fun _ => ?_, fun z => absurd h8 z⟩
            refine ⟨fun _ => ?_, fun z => absurd rfl z⟩
            refine ⟨fun _ => ?_, fun z => absurd rfl z⟩
            refine ⟨k16, _, _, _, _, _, rfl, hT, hk1, by omega, ?_⟩
            have he2 : ap_1 ts n (S, fr, none, o, s, sq, false) = (rn_m (sq_fin ts n o S s).1 (61, (sq_fin ts n o S s).2.2.1.headD 0, 0, 0, 0), fr, some (rn_n (sq_fin ts n o S s).1), (sq_fin ts n o S s).2.2.2.1, (sq_fin ts n o S s).2.2.2.2.1, sq ++ [(sq_fin ts n o S s).2.2.1.headD 0], false) := by
              rw [he]
              unfold ap_sq
              rw [tk_now_f hff, if_neg (by decide), if_neg (by decide)]
            exact h _ _ (am_B_of hv hl hI0 hs he2 (pm_Z_fr hJ (fun j d1 d2 => pm_mk_no (by omega) (by omega))) (fun hf => absurd hf hff)) (fun c j d1 d2 d3 => by rw [pm_mk_no (by omega) (by omega)]; exact jFP c j d1 d2 d3)
      · have w27 := hk27.mp (Decidable.not_not.mp w27)
        rw [if_pos w27] at he
        obtain ⟨b1, b2, b3⟩ := tk_ad1 (s := s) (ts := ts) (by rw [w27]; decide)
        have b21 : (tk_adv ts s).1 = s.1 + 1 := by rw [b2]
        have b22 : (tk_adv ts s).2 = none := by rw [b2]
        refine ⟨t, ts, n, s, rfl, hY, hZ, fun _ => by rw [w27]; exact ⟨by decide, by decide⟩, fun J hJ hF => ?_⟩
        have hk13b := pm_kind hTs hJ b22 pr_kc_13
        have jFP : pm_FP I J := fun c j d1 d2 d3 => hF _ _ (by omega)
        refine ⟨fun w13 => ?_, fun w13 => ?_⟩
        · have w13 := hk13b.mp w13
          refine ⟨t, ts, n, o, fr.length, m1, S, tk_adv ts s, rfl, pm_YP hY jFP, hTs, hJ, b22, w13, hl, by rw [b21]; exact b3, i1, pn_M_c hM (fun c j d => hF _ _ (by omega)), by rw [b21]; omega, by rw [hF _ _ (by omega)]; exact h9, i5, by rw [b21]; omega, fun v J2 hJ2 hJF hJ16 hJA => ?_⟩
          obtain ⟨k16, hk1, hk2⟩ := hJ16
          refine ⟨k16, _, _, _, _, _, rfl, hT, hk1, by omega, ?_⟩
          have he2 := he.trans (if_pos w13)
          refine h _ _ (am_B_of hv hl hI0 hs he2 (pm_Z_fr hJ2 (fun j d1 d2 => pm_mk_no (by omega) (by omega))) (fun hf => ?_)) (fun c j d1 d2 d3 => by rw [pm_mk_no (by omega) (by omega), hJF _ _ (by omega) d2 (by omega)]; exact jFP c j d1 d2 d3)
          obtain ⟨S2, y, o2, s2, m2, e1, e2, e3, hA, e4⟩ := hJA hf
          obtain ⟨A1, A2, A3, A4, A5, A6, A7, A8, A9⟩ := hA
          have hS2 := A3.2.2.2.2.2.2.2.2.1
          have hS2l := A3.2.2.2.2.2.2.2.2.2
          have hyn : y < rn_n S2 := (A3.2.1 y List.mem_cons_self).1
          have eo2 : o2 = o := by
            have := A3.2.2.2.2.2.2.1
            have e : pj_z [] = 0 := rfl
            omega
          have hfi : J2 460 20 = ap_first (sq ++ [y]) := e4.trans (ap_first_1 (by omega) (fun z hz => by have := (i8 z hz).1; omega) ((hF _ _ (by omega)).trans h20))
          have ek : k16 = rn_n S2 := by
            have := wi_eq.mp (hk1.symm.trans A5.1)
            rw [wi_on (by omega), wi_on (by omega)] at this
            omega
          subst ek
          subst e2
          rw [e1]
          refine ⟨rfl, m2, pm_Z_fr A2 (fun j d1 d2 => pm_mk_no (by omega) (by omega)), pn_M_m (x := (11, y, 0, 0, 0)) A5 (show ¬ (11 : Nat) = 60 by decide) (fun _ => rfl) (fun _ => rfl), A6, pm_fr_c hfr (fun c k a b hk => by rw [pm_mk_no (by omega) (by omega), hJF _ _ (by omega) (by omega) (by omega), hF _ _ (by omega)]), by rw [pm_mk_no (by omega) (by omega), hJF _ _ (by omega) (by omega) (by omega), hF _ _ (by omega)]; exact h72, by rw [pm_mk_no (by omega) (by omega)]; exact A9, by rw [pm_mk_no (by omega) (by omega)]; exact hfi⟩
        · have w13 : ¬ tk_now ts (tk_adv ts s) = (Int8.ofInt 13).toInt32 := fun z => w13 (hk13b.mpr z)
          refine ⟨_, rfl, ?_⟩
          have he2 := he.trans (if_neg w13)
          exact h _ _ (am_B_of hv hl hI0 hs he2 (pm_bad hTs hJ b22) (fun hf => by rw [tk_rf1 b22] at hf; cases hf)) (fun c j d1 d2 d3 => by rw [wp_bad_no (by omega)]; exact jFP c j d1 d2 d3)
    · have w28 := hk28.mp (Decidable.not_not.mp w28)
      rw [if_pos w28] at he
      obtain ⟨b1, b2, b3⟩ := tk_ad1 (s := s) (ts := ts) (by rw [w28]; decide)
      have b22 : (tk_adv ts s).2 = none := by rw [b2]
      refine ⟨t, ts, n, s, rfl, hY, hZ, fun _ => by rw [w28]; exact ⟨by decide, by decide⟩, fun J hJ hF => ?_⟩
      have hk25 := pm_kind hTs hJ b22 pr_kc_25
      have jF : ∀ c j, ¬ (c = 460 ∧ 3 ≤ j ∧ j ≤ 8) → J c j = I c j := fun c j d => hF _ _ d
      refine ⟨fun w25 => ?_, fun w25 => ?_⟩
      · have n25 : ¬ tk_now ts (tk_adv ts s) = (Int8.ofInt 25).toInt32 := fun z => w25 (hk25.mpr z)
        refine ⟨fun _ => ?_, fun z => absurd w25 z⟩
        have ec : ap_c ts s = 1 := if_neg n25
        have es : ap_cs ts s = tk_adv ts s := if_neg n25
        rw [ec, es] at he
        refine ⟨fr.length, _, _, _, rfl, hT, by rw [jF _ _ (by omega)]; exact h72, by omega, ?_⟩
        refine h _ _ (am_B_of hv hl hI0 hs he (pm_Z_fr hJ (fun j d1 d2 => pm_ps_no (by omega) (by omega))) (fun hf => ⟨rfl, m1, pm_Z_fr hJ (fun j d1 d2 => pm_ps_no (by omega) (by omega)), pn_M_c hM (fun c j d => by rw [pm_ps_no (by omega) (by omega)]; exact jF c j (by omega)), by rw [b2]; exact Nat.le_succ_of_le hm1, pm_fr_1 (k := 12) (x := 0) (c := 1) (pm_fr_c hfr (fun c k a b hk => jF c k (by omega))), pm_ps_72, by rw [pm_ps_no (by omega) (by omega)]; exact (jF _ _ (by omega)).trans h9, by rw [pm_ps_no (by omega) (by omega), jF _ _ (by omega)]; exact h20⟩)) (fun c j d1 d2 d3 => by rw [pm_ps_no (by omega) (by omega)]; exact jF c j (by omega))
      · have w25' := Decidable.not_not.mp w25
        have n25 := hk25.mp w25'
        refine ⟨fun z => absurd w25' z, fun _ => ?_⟩
        have ec : ap_c ts s = (tk_low ts (tk_adv ts s).1).toNatClampNeg := if_pos n25
        have es : ap_cs ts s = tk_adv ts (tk_adv ts s) := if_pos n25
        rw [ec, es] at he
        obtain ⟨d1, d2, d3⟩ := tk_ad1 (s := tk_adv ts s) (ts := ts) (by rw [n25]; decide)
        obtain ⟨x, l, e5, hd1, ha, hnw, hvx, htk, h3, h4, h5, hct⟩ := pm_at hTs hJ b22
        have j6 : J 460 6 = Int32.ofNat (tk_low ts (tk_adv ts s).1).toNatClampNeg := by
          have hc : pr_ct x := Or.inr (Or.inr (Or.inr (hnw.symm.trans n25)))
          obtain ⟨q1, q2⟩ := hct hc
          obtain ⟨a, b, ha2, hb, e1, e2⟩ := hvx.2.2.2 hc
          have elo : tk_low ts (tk_adv ts s).1 = x.2.2.1 := by unfold tk_low; rw [ha]
          rw [elo, q1, e1, wi_onn (by omega)]
        refine ⟨t, ts, n, tk_adv ts s, rfl, pm_YP hY (fun c j d1 d2 d3 => jF _ _ (by omega)), hJ, fun _ => by rw [n25]; exact ⟨by decide, by decide⟩, fun J2 hJ2 hF2 => ?_⟩
        have jF2 : ∀ c j, ¬ (c = 460 ∧ 3 ≤ j ∧ j ≤ 8) → J2 c j = I c j := fun c j d => by rw [hF2 _ _ d, hF _ _ d]
        refine ⟨fr.length, _, _, _, rfl, hT, by rw [jF2 _ _ (by omega)]; exact h72, by omega, ?_⟩
        rw [j6]
        refine h _ _ (am_B_of hv hl hI0 hs he (pm_Z_fr hJ2 (fun j d1 d2 => pm_ps_no (by omega) (by omega))) (fun hf => ⟨rfl, m1, pm_Z_fr hJ2 (fun j d1 d2 => pm_ps_no (by omega) (by omega)), pn_M_c hM (fun c j d => by rw [pm_ps_no (by omega) (by omega)]; exact jF2 c j (by omega)), by rw [d2, b2]; exact Nat.le_succ_of_le (Nat.le_succ_of_le hm1), pm_fr_1 (k := 12) (x := 0) (c := (tk_low ts (tk_adv ts s).1).toNatClampNeg) (pm_fr_c hfr (fun c k a b hk => jF2 c k (by omega))), pm_ps_72, by rw [pm_ps_no (by omega) (by omega)]; exact (jF2 _ _ (by omega)).trans h9, by rw [pm_ps_no (by omega) (by omega), jF2 _ _ (by omega)]; exact h20⟩)) (fun c j d1 d2 d3 => by rw [pm_ps_no (by omega) (by omega)]; exact jF2 c j (by omega))
  · have w26 := hk26.mp (Decidable.not_not.mp w26)
    have he : ap_1 ts n (S, fr, none, o, s, sq, false) = (S, (10, 0, 0) :: fr, none, o, tk_adv ts s, sq, false) := (if_pos w26 : ap_b ts n S fr o s sq = _)
    obtain ⟨b1, b2, b3⟩ := tk_ad1 (s := s) (ts := ts) (by rw [w26]; decide)
    refine ⟨t, ts, n, s, rfl, hY, hZ, fun _ => by rw [w26]; exact ⟨by decide, by decide⟩, fun J hJ hF => ?_⟩
    have jF : ∀ c j, ¬ (c = 460 ∧ 3 ≤ j ∧ j ≤ 8) → J c j = I c j := fun c j d => hF _ _ d
    refine ⟨fr.length, _, _, _, rfl, hT, by rw [jF _ _ (by omega)]; exact h72, by omega, ?_⟩
    refine h _ _ (am_B_of hv hl hI0 hs he (pm_Z_fr hJ (fun j d1 d2 => pm_ps_no (by omega) (by omega))) (fun hf => ⟨rfl, m1, pm_Z_fr hJ (fun j d1 d2 => pm_ps_no (by omega) (by omega)), pn_M_c hM (fun c j d => by rw [pm_ps_no (by omega) (by omega)]; exact jF c j (by omega)), by rw [b2]; exact Nat.le_succ_of_le hm1, pm_fr_1 (k := 10) (x := 0) (c := 0) (pm_fr_c hfr (fun c k a b hk => jF c k (by omega))), pm_ps_72, by rw [pm_ps_no (by omega) (by omega)]; exact (jF _ _ (by omega)).trans h9, by rw [pm_ps_no (by omega) (by omega), jF _ _ (by omega)]; exact h20⟩)) (fun c j d1 d2 d3 => by rw [pm_ps_no (by omega) (by omega)]; exact jF c j (by omega))
