/-! ===== the reference: a property ended ===== -/
theorem am_B_of {t : Nat → Int32} {ts : List wt_t} {n : Nat} {I1 : Nat → Nat → Int32} {S : rn_N} {fr : List ap_F} {p : Option Nat} {o : Nat} {s : wt_q} {sq : List Nat} {v : Int32} {S2 : rn_N} {fr2 : List ap_F} {p2 : Option Nat} {o2 : Nat} {s2 : wt_q} {sq2 : List Nat} {d2 : Bool} (hv : ∀ y, y ∈ ts → pr_vt y) (hl : ts.length ≤ 401) (hI : ap_I ts S fr p o s sq) (hs : s.2 = none) (h2 : ap_1 ts n (S, fr, p, o, s, sq, false) = (S2, fr2, p2, o2, s2, sq2, d2)) (hZ : pm_Z t ts n s2 I1) (hA : s2.2 = none → v = ap_v p2 ∧ ∃ m1, am_A t ts n I1 S2 fr2 o2 s2 sq2 m1) : am_B t ts n I1 (ap_1 ts n (S, fr, p, o, s, sq, false)) v := by
  refine ⟨by rw [h2]; exact hZ, fun hf => ?_⟩
  rw [h2] at hf
  obtain ⟨a, m1, b⟩ := hA hf
  exact ⟨m1, by rw [h2]; exact a, by rw [h2]; exact (ap_1_I hv hl hI hs h2 hf).1, by rw [h2]; exact b⟩
theorem ap_k {a b : Nat} {k : Int32} (ha : a < 1000) (hb : b < 1000) (hk : k = Int32.ofNat b) : Int32.ofNat a = k ↔ a = b := by
  rw [hk, wi_eq, wi_on (by omega), wi_on (by omega)]
  omega
def pm_h370 (x : Nat) (f : ap_F) (T : wv_T) (N : Nat) (I : Nat → Nat → Int32) (L : Nat → Nat → Int64) (R : Nat → Nat → Option Nat) : Nat → Option (Nat → wv_P) := fun pc =>
  if pc = 47 then some (fun mm lv st T1 N1 I1 L1 R1 nc ns => mm = 0 ∧ lv = [some (.ref 460), some (.int (Int32.ofNat x)), some (.int (Int32.ofNat f.1)), some (.int (Int32.ofNat f.2.1)), some (.int (Int32.ofNat f.2.2)), none, none, none] ∧ st = [] ∧ T1 = T ∧ N1 = N ∧ I1 = wv_u I 460 72 (I 460 72 - Int32.ofInt 1) ∧ L1 = L ∧ R1 = R ∧ nc = 0 ∧ ns = 0) else none
def pm_c370 : wv_c1 := fun as T N I L R q => ∃ (t : Nat → Int32) (ts : List wt_t) (n x o m1 : Nat) (S : rn_N) (f : ap_F) (fr : List ap_F) (s : wt_q) (sq : List Nat), as = [.ref 460, .int (Int32.ofNat x)] ∧ wp_Y T I t n ∧ pm_T ts n ∧ ts.length ≤ 401 ∧ s.2 = none ∧ ap_I ts S (f :: fr) (some x) o s sq ∧ am_A t ts n I S (f :: fr) o s sq m1 ∧ ∀ v I1, am_B t ts n I1 (ap_1 ts n (S, f :: fr, some x, o, s, sq, false)) v → pm_FP I I1 → q (.inl (some (.int v))) T N I1 L R 0 0
set_option maxRecDepth 100000 in
theorem wM_370 : ∃ cb ci np, pt_mt 370 = some (32, cb, 6, false, some .int, ci, np) := ⟨_, _, _, rfl⟩
set_option maxRecDepth 100000 in
set_option maxHeartbeats 20000000 in
theorem pm_ending {sc : pt_Sc} {d : Nat} : wv_C wm_fx sc (d + 1 + 1 + 1 + 1 + 1 + 1 + 1 + 1) 370 pm_c370 := by
  rintro as T N I L R q ⟨t, ts, n, x, o, m1, S, f, fr, s, sq, rfl, hY, hTs, hl, hs, hI, ⟨hZ, hM, hm1, ⟨⟨f1, f2, f3⟩, hfr⟩, h72, h9, h20⟩, h⟩ w0 HR
  obtain ⟨cb, ci, np, hm⟩ := wM_370
  have hc348 : wv_C wm_fx sc (d + 1 + 1 + 1 + 1 + 1 + 1 + 1) 348 pm_c348 := wv_C_deep (by omega) (pm_next (d := d))
  have hc357 : wv_C wm_fx sc (d + 1 + 1 + 1 + 1 + 1 + 1 + 1) 357 pm_c357 := wv_C_deep (by omega) (pm_push (d := d))
  have hc358 : wv_C wm_fx sc (d + 1 + 1 + 1 + 1 + 1 + 1 + 1) 358 wp_c358 := wv_C_deep (by omega) (wp_badC (d := d))
  have hc361 : wv_C wm_fx sc (d + 1 + 1 + 1 + 1 + 1 + 1 + 1) 361 pm_c361 := wv_C_deep (by omega) (pm_take (d := d))
  have hc365 : wv_C wm_fx sc (d + 1 + 1 + 1 + 1 + 1 + 1 + 1) 365 pm_c365 := wv_C_deep (by omega) (pm_make (d := d))
  have hc371 : wv_C wm_fx sc (d + 1 + 1 + 1 + 1 + 1 + 1 + 1) 371 pm_c371 := wv_C_deep (by omega) (pm_condEnd (d := d))
  refine wv_meth (hh := none) rfl (sp := wv_sp [(348, pm_c348), (357, pm_c357), (358, wp_c358), (361, pm_c361), (365, pm_c365), (371, pm_c371)]) (hd := pm_h370 x f T N I L R) (n := 300) (n1 := 300) hm zc_370 rfl (wv_sp_ok (fun q hq => by
    rcases List.mem_cons.mp hq with h | h
    · rw [h]; exact hc348
    rcases List.mem_cons.mp h with h | h
    · rw [h]; exact hc357
    rcases List.mem_cons.mp h with h | h
    · rw [h]; exact hc358
    rcases List.mem_cons.mp h with h | h
    · rw [h]; exact hc361
    rcases List.mem_cons.mp h with h | h
    · rw [h]; exact hc365
    rw [List.mem_singleton.mp h]; exact hc371)) ?_ ?_ HR
  · have hT := hY.1.1
    have hv := hTs.1
    have hI0 := hI
    obtain ⟨i1, iq, i2, i3, i4, i5, i6, i7, i8⟩ := hI
    obtain ⟨hx1, hx2, hx3⟩ := i3 x rfl
    obtain ⟨hf9, hf1⟩ := i2 f List.mem_cons_self
    simp only [List.length_cons] at i6
    have e72 : I 460 72 - Int32.ofInt 1 = Int32.ofNat fr.length := by rw [h72]; exact wq_s1 (by omega)
    have efn := wi_onn (n := fr.length) (by omega)
    have bd := pp_b (m := fr.length) (c := 420) (by omega) (by omega)
    have fk : f.1 < 1000 := by omega
    refine ⟨_, wm_t hT rfl, by rw [e72]; exact bd, ?_⟩
    rw [e72, efn, f1]
    refine ⟨_, wm_t hT rfl, by rw [e72]; exact bd, ?_⟩
    rw [e72, efn, f2]
    refine ⟨_, wm_t hT rfl, by rw [e72]; exact bd, ?_⟩
    rw [e72, efn, f3]
    exact ⟨_, rfl, rfl, rfl, rfl, rfl, rfl, rfl, rfl, rfl, rfl⟩
  · intro pc P hP m lv st T1 N1 I1 L1 R1 nc ns hh
    unfold pm_h370 at hP
    split at hP
    · cases hP
      rename_i hpc
      subst hpc
      obtain ⟨rfl, rfl, rfl, rfl, rfl, rfl, rfl, rfl, rfl, rfl⟩ := hh
      have hT := hY.1.1
      have hv := hTs.1
      have hI0 := hI
      obtain ⟨i1, iq, i2, i3, i4, i5, i6, i7, i8⟩ := hI
      obtain ⟨hx1, hx2, hx3⟩ := i3 x rfl
      obtain ⟨hf9, hf1⟩ := i2 f List.mem_cons_self
      simp only [List.length_cons] at i6
      have e72 : I 460 72 - Int32.ofInt 1 = Int32.ofNat fr.length := by rw [h72]; exact wq_s1 (by omega)
      have efn := wi_onn (n := fr.length) (by omega)
      have bd := pp_b (m := fr.length) (c := 420) (by omega) (by omega)
      have fk : f.1 < 1000 := by omega
      obtain ⟨K, hK⟩ : ∃ K, wv_u I 460 72 (I 460 72 - Int32.ofInt 1) = K := ⟨_, rfl⟩
      have kF : ∀ c j, ¬ (c = 460 ∧ j = 72) → K c j = I c j := fun c j a => by rw [← hK]; exact wv_u_no _ _ a
      have k72 : K 460 72 = Int32.ofNat fr.length := by rw [← hK, wv_u_at]; exact e72
      have kZ : pm_Z t ts n s K := pm_Z_fr hZ (fun j d1 d2 => kF _ _ (by omega))
      have kM : pn_M K S m1 := pn_M_c hM (fun c j d => kF _ _ (by omega))
      have kFP : pm_FP I K := fun c j d1 d2 d3 => kF _ _ (by omega)
      have kY := pm_YP hY kFP
      have kfr : pm_fr K fr := pm_fr_c hfr (fun c k a b hk => kF _ _ (by omega))
      have k9 : K 460 9 = Int32.ofNat o := by rw [kF _ _ (by omega)]; exact h9
      have k20 : K 460 20 = ap_first sq := by rw [kF _ _ (by omega)]; exact h20
      have eo : ap_o (f :: fr) = (if f.1 = 29 ∨ f.1 = 15 then 1 else 0) + ap_o fr := rfl
      have c15 := ap_k (b := 15) (k := (Int8.ofInt 15).toInt32) fk (by omega) rfl
      have c29 := ap_k (b := 29) (k := (Int8.ofInt 29).toInt32) fk (by omega) rfl
      have c10 := ap_k (b := 10) (k := (Int8.ofInt 10).toInt32) fk (by omega) rfl
      have c12 := ap_k (b := 12) (k := (Int8.ofInt 12).toInt32) fk (by omega) rfl
      subst hK
      refine ⟨fun w15 => ?_, fun w15 => ?_⟩
      · have w15 : ¬ f.1 = 15 := fun z => w15 (c15.mpr z)
        refine ⟨fun w29 => ?_, fun w29 => ?_⟩
        · have w29 : f.1 = 29 := c29.mp w29
          have hk31 := pm_kind hTs kZ hs pr_kc_31
          have hk29 := pm_kind hTs kZ hs pr_kc_29
          have hk30 := pm_kind hTs kZ hs pr_kc_30
          rw [if_pos (Or.inl w29)] at eo
          have he1 : ap_1 ts n (S, f :: fr, some x, o, s, sq, false) = (if tk_now ts s = (Int8.ofInt 31).toInt32 then (S, (15, x, 0) :: fr, none, o, tk_adv ts s, sq, false) else if tk_now ts s = (Int8.ofInt 29).toInt32 then ap_u ts n 13 S fr x o s sq else if tk_now ts s = (Int8.ofInt 30).toInt32 ∧ rn_k S x = 60 then ap_u ts n 14 S fr x o s sq else (S, fr, some x, o, tk_ref ts n s, sq, false)) := by
            show ap_e1 ts n S x o s sq f fr = _
            unfold ap_e1
            rw [if_neg w15, if_neg (fun z => z w29)]
          have k9b : wv_u I 460 72 (I 460 72 - Int32.ofInt 1) 460 9 = Int32.ofNat (o - 1 + 1) := by rw [k9, show o = o - 1 + 1 by omega]; rfl
          refine ⟨fun w31 => ?_, fun w31 => ?_⟩
          · have w31 : ¬ tk_now ts s = (Int8.ofInt 31).toInt32 := fun z => w31 (hk31.mpr z)
            rw [if_neg w31] at he1
            refine ⟨fun w13 => ?_, fun w13 => ?_⟩
            · have w13 : ¬ tk_now ts s = (Int8.ofInt 29).toInt32 := fun z => w13 (hk29.mpr z)
              rw [if_neg w13] at he1
              have bad : ¬ (tk_now ts s = (Int8.ofInt 30).toInt32 ∧ rn_k S x = 60) → q (.inl (some (.int (Int32.ofNat x)))) T1 N1 (wp_bad (wv_u I 460 72 (I 460 72 - Int32.ofInt 1) 460 4) (wv_u I 460 72 (I 460 72 - Int32.ofInt 1))) L1 R1 0 0 := fun hno => by
                rw [if_neg hno] at he1
                exact h _ _ (am_B_of hv hl hI0 hs he1 (pm_bad hTs kZ hs) (fun hf => by rw [tk_rf1 hs] at hf; cases hf)) (fun c j d1 d2 d3 => by rw [wp_bad_no (by omega)]; exact kFP c j d1 d2 d3)
              refine ⟨fun w14 => ?_, fun w14 => ?_⟩
              · exact ⟨_, rfl, bad (fun z => w14 (hk30.mpr z.1))⟩
              have w14 := hk30.mp (Decidable.not_not.mp w14)
              have hxM := kM.2.2 x hx1
              have exn := wi_onn (n := x) (by omega)
              have ck := ap_k (a := rn_k S x) (b := 60) (k := (Int8.ofInt 60).toInt32) (by unfold fl_prop at hx2; omega) (by omega) rfl
              refine ⟨_, wm_t hT rfl, pp_b (m := x) (c := 800) (by omega) (by omega), ?_⟩
              rw [exn, hxM.1]
              refine ⟨fun w60 => ?_, fun w60 => ?_⟩
              · exact ⟨_, rfl, bad (fun z => w60 (ck.mpr z.2))⟩
              have w60 := ck.mp (Decidable.not_not.mp w60)
              rw [if_pos ⟨w14, w60⟩] at he1
              refine ⟨t, ts, n, m1, o - 1, S, s, rfl, kY, hTs, hl, kZ, hs, by rw [w14]; decide, by rw [w14]; decide, by rw [w14]; decide, kM, hm1, by omega, k9b, by omega, fun v J hJ hJ16 hJc hJF => ?_⟩
              obtain ⟨k, hk1, hk2⟩ := hJ16
              refine ⟨k, _, _, _, _, _, rfl, hT, hk1, by omega, ?_⟩
              refine h _ _ (am_B_of hv hl hI0 hs he1 (pm_Z_fr hJ (fun j d1 d2 => pm_mk_no (by omega) (by omega))) (fun hf => ?_)) (fun c j d1 d2 d3 => by rw [pm_mk_no (by omega) (by omega), hJF _ _ (by omega) d2]; exact kFP c j d1 d2 d3)
              obtain ⟨y1, y2, y3, y4⟩ := tk_take_ok hf (by decide)
              obtain ⟨z1, z2, m2, z3, z4⟩ := hJc y1
              have ek : k = rn_n S + 1 := by
                have := wi_eq.mp (hk1.symm.trans z4.1)
                rw [wi_on (by omega), wi_on (show rn_n (sm_c ts n S (tk_adv ts s)) < 2147483648 from by show rn_n S + 1 < _; omega)] at this
                have e : rn_n (sm_c ts n S (tk_adv ts s)) = rn_n S + 1 := rfl
                omega
              subst ek
              refine ⟨rfl, m2, pm_Z_fr hJ (fun j d1 d2 => pm_mk_no (by omega) (by omega)), ?_, by rw [y3]; dsimp only; omega, ?_, ?_, ?_, ?_⟩
              · rw [z1]
                exact pn_M_m (x := (14, x, rn_n S, 0, 0)) z4 (show ¬ (14 : Nat) = 60 by decide) (fun _ => rfl) (fun _ => rfl)
              · exact pm_fr_c kfr (fun c k a b hk => by rw [pm_mk_no (by omega) (by omega), hJF _ _ (by omega) (by omega)])
              · rw [pm_mk_no (by omega) (by omega), hJF _ _ (by omega) (by omega)]; exact k72
              · rw [pm_mk_no (by omega) (by omega)]; exact z2
              · rw [pm_mk_no (by omega) (by omega), hJF _ _ (by omega) (by omega)]; exact k20
            · have w13 := hk29.mp (Decidable.not_not.mp w13)
              rw [if_pos w13] at he1
              refine ⟨t, ts, n, m1, o - 1, S, s, rfl, kY, hTs, hl, kZ, hs, by rw [w13]; decide, by rw [w13]; decide, by rw [w13]; decide, kM, hm1, by omega, k9b, by omega, fun v J hJ hJ16 hJc hJF => ?_⟩
              obtain ⟨k, hk1, hk2⟩ := hJ16
              refine ⟨k, _, _, _, _, _, rfl, hT, hk1, by omega, ?_⟩
              refine h _ _ (am_B_of hv hl hI0 hs he1 (pm_Z_fr hJ (fun j d1 d2 => pm_mk_no (by omega) (by omega))) (fun hf => ?_)) (fun c j d1 d2 d3 => by rw [pm_mk_no (by omega) (by omega), hJF _ _ (by omega) d2]; exact kFP c j d1 d2 d3)
              obtain ⟨y1, y2, y3, y4⟩ := tk_take_ok hf (by decide)
              obtain ⟨z1, z2, m2, z3, z4⟩ := hJc y1
              have ek : k = rn_n S + 1 := by
                have := wi_eq.mp (hk1.symm.trans z4.1)
                rw [wi_on (by omega), wi_on (show rn_n (sm_c ts n S (tk_adv ts s)) < 2147483648 from by show rn_n S + 1 < _; omega)] at this
                have e : rn_n (sm_c ts n S (tk_adv ts s)) = rn_n S + 1 := rfl
                omega
              subst ek
              refine ⟨rfl, m2, pm_Z_fr hJ (fun j d1 d2 => pm_mk_no (by omega) (by omega)), ?_, by rw [y3]; dsimp only; omega, ?_, ?_, ?_, ?_⟩
              · rw [z1]
                exact pn_M_m (x := (13, x, rn_n S, 0, 0)) z4 (show ¬ (13 : Nat) = 60 by decide) (fun _ => rfl) (fun _ => rfl)
              · exact pm_fr_c kfr (fun c k a b hk => by rw [pm_mk_no (by omega) (by omega), hJF _ _ (by omega) (by omega)])
              · rw [pm_mk_no (by omega) (by omega), hJF _ _ (by omega) (by omega)]; exact k72
              · rw [pm_mk_no (by omega) (by omega)]; exact z2
              · rw [pm_mk_no (by omega) (by omega), hJF _ _ (by omega) (by omega)]; exact k20
          · have w31 := hk31.mp (Decidable.not_not.mp w31)
            rw [if_pos w31] at he1
            obtain ⟨b1, b2, b3⟩ := tk_ad1 (s := s) (ts := ts) (by rw [w31]; decide)
            refine ⟨t, ts, n, s, rfl, kY, kZ, fun _ => by rw [w31]; exact ⟨by decide, by decide⟩, fun J hJ hF => ?_⟩
            have j72 : J 460 72 = Int32.ofNat fr.length := by rw [hF _ _ (by omega)]; exact k72
            refine ⟨fr.length, _, _, _, rfl, hT, j72, by omega, ?_⟩
            refine h _ _ (am_B_of hv hl hI0 hs he1 (pm_Z_fr hJ (fun j d1 d2 => pm_ps_no (by omega) (by omega))) (fun hf => ⟨rfl, m1, pm_Z_fr hJ (fun j d1 d2 => pm_ps_no (by omega) (by omega)), pn_M_c kM (fun c j d => by rw [pm_ps_no (by omega) (by omega), hF _ _ (by omega)]), by rw [b2]; dsimp only; omega, pm_fr_1 (k := 15) (x := x) (c := 0) (pm_fr_c kfr (fun c k a b hk => hF _ _ (by omega))), pm_ps_72, ?_, ?_⟩)) (fun c j d1 d2 d3 => by rw [pm_ps_no (by omega) (by omega), hF _ _ (by omega)]; exact kFP c j d1 d2 d3)
            · rw [pm_ps_no (by omega) (by omega), hF _ _ (by omega)]; exact k9
            · rw [pm_ps_no (by omega) (by omega), hF _ _ (by omega)]; exact k20
        · have w29 : ¬ f.1 = 29 := fun z => w29 (c29.mpr z)
          rw [if_neg (by omega)] at eo
          have fin : ∀ lx, lx = (if f.1 = 10 ∨ f.1 = 12 then x else f.2.1) → q (.inl (some (.int (Int32.ofNat (rn_n S))))) T1 N1 (pm_mk (wv_u I 460 72 (I 460 72 - Int32.ofInt 1)) (rn_n S) (Int32.ofNat f.1) (Int32.ofNat lx) (Int32.ofNat x) (Int32.ofNat f.2.2) (Int32.ofInt 0)) L1 R1 0 0 := by
            intro lx hlx
            have he1 : ap_1 ts n (S, f :: fr, some x, o, s, sq, false) = (rn_m S (f.1, lx, x, f.2.2, 0), fr, some (rn_n S), o, s, sq, false) := by
              show ap_e1 ts n S x o s sq f fr = _
              unfold ap_e1
              rw [if_neg w15, if_pos w29, hlx]
            refine h _ _ (am_B_of hv hl hI0 hs he1 (pm_Z_fr kZ (fun j d1 d2 => pm_mk_no (by omega) (by omega))) (fun hf => ⟨rfl, m1, pm_Z_fr kZ (fun j d1 d2 => pm_mk_no (by omega) (by omega)), pn_M_m (x := (f.1, lx, x, f.2.2, 0)) kM (show ¬ f.1 = 60 by omega) (fun _ => rfl) (fun _ => rfl), hm1, pm_fr_c kfr (fun c k a b hk => pm_mk_no (by omega) (by omega)), ?_, ?_, ?_⟩)) (fun c j d1 d2 d3 => by rw [pm_mk_no (by omega) (by omega)]; exact kFP c j d1 d2 d3)
            · rw [pm_mk_no (by omega) (by omega)]; exact k72
            · rw [pm_mk_no (by omega) (by omega)]; exact k9
            · rw [pm_mk_no (by omega) (by omega)]; exact k20
          refine ⟨fun w10 => ?_, fun w10 => ?_⟩
          · have w10 := c10.mp w10
            refine ⟨fun z => absurd z (by decide), fun _ => ?_⟩
            exact ⟨rn_n S, _, _, _, _, _, rfl, hT, kM.1, by omega, fin x (if_pos (Or.inl w10)).symm⟩
          · have w10 : ¬ f.1 = 10 := fun z => w10 (c10.mpr z)
            refine ⟨fun w12 => ?_, fun w12 => ?_⟩
            · have w12 : ¬ f.1 = 12 := fun z => w12 (c12.mpr z)
              refine ⟨fun _ => ?_, fun z => absurd rfl z⟩
              exact ⟨rn_n S, _, _, _, _, _, rfl, hT, kM.1, by omega, fin f.2.1 (if_neg (by omega)).symm⟩
            · have w12 := c12.mp (Decidable.not_not.mp w12)
              refine ⟨fun z => absurd z (by decide), fun _ => ?_⟩
              exact ⟨rn_n S, _, _, _, _, _, rfl, hT, kM.1, by omega, fin x (if_pos (Or.inr w12)).symm⟩
      · have w15 : f.1 = 15 := c15.mp (Decidable.not_not.mp w15)
        rw [if_pos (Or.inr w15)] at eo
        have he1 : ap_1 ts n (S, f :: fr, some x, o, s, sq, false) = (rn_m S (15, f.2.1, x, 0, 0), fr, some (rn_n S), o - 1, tk_take ts n ((Int8.ofInt 16).toInt32) s, sq, false) := by
          show ap_e1 ts n S x o s sq f fr = _
          unfold ap_e1
          rw [if_pos w15]
        refine ⟨t, ts, n, s, (Int8.ofInt 16).toInt32, (Int8.ofInt 30).toInt32, rfl, kY, hTs, kZ, pr_kc_16, by decide, by decide, by decide, fun J hJ hF => ?_⟩
        have j9 : J 460 9 - Int32.ofInt 1 = Int32.ofNat (o - 1) := by
          rw [hF _ _ (by omega), k9, show o = o - 1 + 1 by omega]
          exact wq_s1 (by omega)
        have j16 : wv_u J 460 9 (J 460 9 - Int32.ofInt 1) 460 16 = Int32.ofNat (rn_n S) := by rw [wv_u_no _ _ (by omega), hF _ _ (by omega)]; exact kM.1
        refine ⟨rn_n S, _, _, _, _, _, rfl, hT, j16, by omega, ?_⟩
        have jZ : pm_Z t ts n (tk_take ts n ((Int8.ofInt 16).toInt32) s) (wv_u J 460 9 (J 460 9 - Int32.ofInt 1)) := pm_Z_fr hJ (fun j d1 d2 => wv_u_no _ _ (by omega))
        have jM : pn_M (wv_u J 460 9 (J 460 9 - Int32.ofInt 1)) S m1 := pn_M_c kM (fun c j d => by rw [wv_u_no _ _ (by omega), hF _ _ (by omega)])
        refine h _ _ (am_B_of hv hl hI0 hs he1 (pm_Z_fr jZ (fun j d1 d2 => pm_mk_no (by omega) (by omega))) (fun hf => ⟨rfl, m1, pm_Z_fr jZ (fun j d1 d2 => pm_mk_no (by omega) (by omega)), pn_M_m (x := (15, f.2.1, x, 0, 0)) jM (show ¬ (15 : Nat) = 60 by decide) (fun _ => rfl) (fun _ => rfl), ?_, pm_fr_c kfr (fun c k a b hk => by rw [pm_mk_no (by omega) (by omega), wv_u_no _ _ (by omega), hF _ _ (by omega)]), ?_, ?_, ?_⟩)) (fun c j d1 d2 d3 => by rw [pm_mk_no (by omega) (by omega), wv_u_no _ _ (by omega), hF _ _ (by omega)]; exact kFP c j d1 d2 d3)
        · obtain ⟨_, _, y3, _⟩ := tk_take_ok hf (by decide)
          rw [y3]
          exact Nat.le_succ_of_le hm1
        · rw [pm_mk_no (by omega) (by omega), wv_u_no _ _ (by omega), hF _ _ (by omega)]; exact k72
        · rw [pm_mk_no (by omega) (by omega), wv_u_at]; exact j9
        · rw [pm_mk_no (by omega) (by omega), wv_u_no _ _ (by omega), hF _ _ (by omega)]; exact k20

    · cases hP
