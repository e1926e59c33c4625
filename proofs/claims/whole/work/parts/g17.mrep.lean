/-! ===== the reference: repetitions ===== -/
def rc_is (ts : List wt_t) (b : Bool) (s : wt_q) : Prop := tk_now ts s = (Int8.ofInt 20).toInt32 ∨ tk_now ts s = (Int8.ofInt 21).toInt32 ∨ tk_now ts s = (Int8.ofInt 22).toInt32 ∨ (b = true ∧ (tk_now ts s = (Int8.ofInt 23).toInt32 ∨ tk_now ts s = (Int8.ofInt 24).toInt32))
def rc_bad (ts : List wt_t) (s : wt_q) : Prop := (tk_now ts s = (Int8.ofInt 22).toInt32 ∧ tk_high ts s.1 < tk_low ts s.1) ∨ (tk_now ts s = (Int8.ofInt 23).toInt32 ∧ tk_low ts s.1 = 0)
/-- the weight of a repetition -/
def rc_w (ts : List wt_t) (s : wt_q) (w : Nat) : Nat := if tk_now ts s = (Int8.ofInt 22).toInt32 then min (ww_mx (tk_high ts s.1).toNatClampNeg * w) 1000 else if tk_now ts s = (Int8.ofInt 23).toInt32 then 2 * (tk_low ts s.1).toNatClampNeg else if tk_now ts s = (Int8.ofInt 24).toInt32 then 2 * (tk_low ts s.1).toNatClampNeg + 1 else w
def pm_h366 (ts : List wt_t) (s : wt_q) (m0 x : Nat) (b : Bool) (T : wv_T) (N : Nat) (I : Nat → Nat → Int32) (L : Nat → Nat → Int64) (R : Nat → Nat → Option Nat) : Nat → Option (Nat → wv_P) := fun pc =>
  if pc = 55 then some (fun mm lv st T1 N1 I1 L1 R1 nc ns => ∃ v : Bool, lv = [some (.ref 460), some (.int (Int32.ofNat x)), some (.int (wb_i b)), some (.int (wp_b v)), none, none, none, none, none] ∧ st = [] ∧ T1 = T ∧ N1 = N ∧ I1 = I ∧ L1 = L ∧ R1 = R ∧ nc = 0 ∧ ns = 0 ∧ mm = 3 ∧ (v = true ↔ rc_is ts b s))
  else if pc = 107 then some (fun mm lv st T1 N1 I1 L1 R1 nc ns => ∃ v : Int32, lv = [some (.ref 460), some (.int (Int32.ofNat x)), some (.int (wb_i b)), some (.int v), none, none, none, none, none] ∧ st = [] ∧ T1 = T ∧ N1 = N ∧ I1 = I ∧ L1 = L ∧ R1 = R ∧ nc = 0 ∧ ns = 0 ∧ mm = 2 ∧ rc_is ts b s ∧ ¬ rc_bad ts s)
  else if pc = 145 then some (fun mm lv st T1 N1 I1 L1 R1 nc ns => ∃ (v : Int32) (mx : Int32), lv = [some (.ref 460), some (.int (Int32.ofNat x)), some (.int (wb_i b)), some (.int v), some (.int (Int32.ofNat m0)), some (.int mx), none, none, none] ∧ st = [] ∧ T1 = T ∧ N1 = N ∧ I1 = (pm_mk I m0 (I 460 3) (Int32.ofNat x) (Int32.ofInt 0) (I 460 6) (I 460 7)) ∧ L1 = L ∧ R1 = R ∧ nc = 0 ∧ ns = 0 ∧ mm = 1 ∧ rc_is ts b s ∧ ¬ rc_bad ts s ∧ (tk_now ts s = (Int8.ofInt 22).toInt32 → mx = Int32.ofNat (ww_mx (tk_high ts s.1).toNatClampNeg)))
  else none
def pm_c366 : wv_c1 := fun as T N I L R q => ∃ (t : Nat → Int32) (ts : List wt_t) (n m0 x wx : Nat) (s : wt_q) (b : Bool), as = [.ref 460, .int (Int32.ofNat x), .int (wb_i b)] ∧ wm_T T ∧ wp_Y T I t n ∧ pm_T ts n ∧ pm_Z t ts n s I ∧ s.2 = none ∧ I 460 16 = Int32.ofNat m0 ∧ m0 < 800 ∧ x < m0 ∧ I 467 x = Int32.ofNat wx ∧ wx ≤ 1000 ∧ (¬ rc_is ts b s → q (.inl (some (.int (Int32.ofNat x)))) T N I L R 0 0) ∧ (rc_is ts b s → rc_bad ts s → ∀ I1, pm_Z t ts n (tk_ref ts n s) I1 → pm_F I I1 → q (.inl (some (.int (Int32.ofNat x)))) T N I1 L R 0 0) ∧ (rc_is ts b s → ¬ rc_bad ts s → ∀ I1, pm_Z t ts n (tk_adv ts s) I1 → pm_F (wv_u (pm_mk I m0 (I 460 3) (Int32.ofNat x) (Int32.ofInt 0) (I 460 6) (I 460 7)) 467 m0 (Int32.ofNat (rc_w ts s wx))) I1 → q (.inl (some (.int (Int32.ofNat m0)))) T N I1 L R 0 0)
set_option maxRecDepth 100000 in
theorem wM_366 : ∃ cb ci np, pt_mt 366 = some (32, cb, 6, false, some .int, ci, np) := ⟨_, _, _, rfl⟩
set_option maxRecDepth 100000 in
set_option maxHeartbeats 4000000 in
theorem pm_counted {sc : pt_Sc} {d : Nat} : wv_C wm_fx sc (d + 1 + 1 + 1 + 1 + 1) 366 pm_c366 := by
  rintro as T N I L R q ⟨t, ts, n, m0, x, wx, s, b, rfl, hT, hY, hTs, hZ, hs, h16, hm0, hx, ix, hwx, q0, q1, q2⟩ w0 HR
  obtain ⟨cb, ci, np, hm⟩ := wM_366
  have hc358 : wv_C wm_fx sc (d + 1 + 1 + 1 + 1) 358 wp_c358 := wv_C_deep (by omega) (wp_badC (d := d))
  have hc348 : wv_C wm_fx sc (d + 1 + 1 + 1 + 1) 348 pm_c348 := wv_C_deep (by omega) (pm_next (d := d))
  have hc365 : wv_C wm_fx sc (d + 1 + 1 + 1 + 1) 365 pm_c365 := wv_C_deep (by omega) (pm_make (d := d))
  have hc367 : wv_C wm_fx sc (d + 1 + 1 + 1 + 1) 367 pm_c367 := wv_C_deep (by omega) (pm_capped (d := d))
  refine wv_meth (hh := none) rfl (sp := wv_sp [(358, wp_c358), (348, pm_c348), (365, pm_c365), (367, pm_c367)]) (hd := pm_h366 ts s m0 x b T N I L R) (n := 300) (n1 := 300) hm zc_366 rfl (wv_sp_ok (fun q hq => by
    rcases List.mem_cons.mp hq with h | h
    · rw [h]; exact hc358
    rcases List.mem_cons.mp h with h | h
    · rw [h]; exact hc348
    rcases List.mem_cons.mp h with h | h
    · rw [h]; exact hc365
    rw [List.mem_singleton.mp h]; exact hc367)) ?_ ?_ HR
  · have k20 := pm_kind hTs hZ hs pr_kc_20
    have k21 := pm_kind hTs hZ hs pr_kc_21
    have k22 := pm_kind hTs hZ hs pr_kc_22
    have k23 := pm_kind hTs hZ hs pr_kc_23
    have k24 := pm_kind hTs hZ hs pr_kc_24
    refine ⟨fun z => ?_, fun z0 => ?_⟩
    · exact ⟨3, true, rfl, rfl, rfl, rfl, rfl, rfl, rfl, rfl, rfl, rfl, ⟨fun _ => Or.inl (k20.mp z), fun _ => rfl⟩⟩
    refine ⟨fun z => ?_, fun z1 => ?_⟩
    · exact ⟨3, true, rfl, rfl, rfl, rfl, rfl, rfl, rfl, rfl, rfl, rfl, ⟨fun _ => Or.inr (Or.inl (k21.mp z)), fun _ => rfl⟩⟩
    refine ⟨fun z => ?_, fun z2 => ?_⟩
    · exact ⟨3, true, rfl, rfl, rfl, rfl, rfl, rfl, rfl, rfl, rfl, rfl, ⟨fun _ => Or.inr (Or.inr (Or.inl (k22.mp z))), fun _ => rfl⟩⟩
    refine ⟨fun z => ?_, fun z3 => ?_⟩
    · have eb : b = false := wb_i_0.mp z
      exact ⟨3, false, rfl, rfl, rfl, rfl, rfl, rfl, rfl, rfl, rfl, rfl, ⟨fun w => (by cases w), fun w => w.elim (fun w => (z0 (k20.mpr w)).elim) (fun w => w.elim (fun w => (z1 (k21.mpr w)).elim) (fun w => w.elim (fun w => (z2 (k22.mpr w)).elim) (fun w => by rw [eb] at w; cases w.1)))⟩⟩
    have eb : b = true := wb_i_1.mp z3
    refine ⟨fun z => ?_, fun z4 => ?_⟩
    · exact ⟨3, true, rfl, rfl, rfl, rfl, rfl, rfl, rfl, rfl, rfl, rfl, ⟨fun _ => Or.inr (Or.inr (Or.inr ⟨eb, Or.inl (k23.mp z)⟩)), fun _ => rfl⟩⟩
    refine ⟨fun z => ?_, fun z => ?_⟩
    · exact ⟨3, false, rfl, rfl, rfl, rfl, rfl, rfl, rfl, rfl, rfl, rfl, ⟨fun w => (by cases w), fun w => w.elim (fun w => (z0 (k20.mpr w)).elim) (fun w => w.elim (fun w => (z1 (k21.mpr w)).elim) (fun w => w.elim (fun w => (z2 (k22.mpr w)).elim) (fun w => w.2.elim (fun w => (z4 (k23.mpr w)).elim) (fun w => (z (k24.mpr w)).elim))))⟩⟩
    · exact ⟨3, true, rfl, rfl, rfl, rfl, rfl, rfl, rfl, rfl, rfl, rfl, ⟨fun _ => Or.inr (Or.inr (Or.inr ⟨eb, Or.inr (k24.mp (Decidable.not_not.mp z))⟩)), fun _ => rfl⟩⟩
  · intro pc P hP m lv st T1 N1 I1 L1 R1 nc ns hh
    have k22 := pm_kind hTs hZ hs pr_kc_22
    have k23 := pm_kind hTs hZ hs pr_kc_23
    have k24 := pm_kind hTs hZ hs pr_kc_24
    have ct : (tk_now ts s = (Int8.ofInt 22).toInt32 ∨ tk_now ts s = (Int8.ofInt 23).toInt32 ∨ tk_now ts s = (Int8.ofInt 24).toInt32) → ∃ lo hi, lo < 10 ∧ hi < 10 ∧ tk_low ts s.1 = Int32.ofNat lo ∧ tk_high ts s.1 = Int32.ofNat hi ∧ I 460 6 = Int32.ofNat lo ∧ I 460 7 = Int32.ofNat hi := by
      intro hk
      obtain ⟨y, l, e, _, ha, hn, hv, _, _, _, _, hc⟩ := pm_at hTs hZ hs
      have hct : pr_ct y := by
        rw [hn] at hk
        rcases hk with z | z | z
        · exact Or.inl z
        · exact Or.inr (Or.inl z)
        · exact Or.inr (Or.inr (Or.inl z))
      obtain ⟨lo, hi, l1, h1, l2, h2⟩ := hv.2.2.2 hct
      obtain ⟨c6, c7⟩ := hc hct
      refine ⟨lo, hi, l1, h1, ?_, ?_, by rw [c6]; exact l2, by rw [c7]; exact h2⟩
      · unfold tk_low; rw [ha]; exact l2
      · unfold tk_high; rw [ha]; exact h2
    have em := wi_on (n := m0) (by omega)
    have emn := wi_onn (n := m0) (by omega)
    have ex := wi_on (n := x) (by omega)
    have exn := wi_onn (n := x) (by omega)
    unfold pm_h366 at hP
    split at hP
    · cases hP
      rename_i hpc
      subst hpc
      obtain ⟨v, rfl, rfl, rfl, rfl, rfl, rfl, rfl, rfl, rfl, hmm, hv⟩ := hh
      refine ⟨fun w => ?_, fun w => ?_⟩
      · have his := hv.mp (wp_b1 w)
        have badq : rc_bad ts s → q (.inl (some (.int (Int32.ofNat x)))) T1 N1 (wp_bad (I1 460 4) I1) L1 R1 0 0 := fun hb => q1 his hb _ (pm_bad hTs hZ hs) pm_F_bad
        refine ⟨fun w2 => ?_, fun w2 => ?_⟩
        · have n22 : ¬ tk_now ts s = (Int8.ofInt 22).toInt32 := fun z => w2 (k22.mpr z)
          refine ⟨fun w3 => ?_, fun w3 => ?_⟩
          · have n23 : ¬ tk_now ts s = (Int8.ofInt 23).toInt32 := fun z => w3 (k23.mpr z)
            exact ⟨2, by omega, _, rfl, rfl, rfl, rfl, rfl, rfl, rfl, rfl, rfl, rfl, his, fun z => z.elim (fun z => n22 z.1) (fun z => n23 z.1)⟩
          · have e23 := k23.mp (Decidable.not_not.mp w3)
            obtain ⟨lo, hi, l1, h1, l2, h2, i6, i7⟩ := ct (Or.inr (Or.inl e23))
            refine ⟨fun w4 => ?_, fun w4 => ?_⟩
            · exact ⟨2, by omega, _, rfl, rfl, rfl, rfl, rfl, rfl, rfl, rfl, rfl, rfl, his, fun z => z.elim (fun z => n22 z.1) (fun z => w4 (by rw [i6, ← l2]; exact z.2))⟩
            · exact ⟨_, rfl, badq (Or.inr ⟨e23, by rw [l2, ← i6]; exact Decidable.not_not.mp w4⟩)⟩
        · have e22 := k22.mp (Decidable.not_not.mp w2)
          obtain ⟨lo, hi, l1, h1, l2, h2, i6, i7⟩ := ct (Or.inl e22)
          have n23 : ¬ tk_now ts s = (Int8.ofInt 23).toInt32 := by rw [e22]; decide
          refine ⟨fun w3 => ?_, fun w3 => ?_⟩
          · exact ⟨_, rfl, badq (Or.inl ⟨e22, by rw [l2, h2, ← i6, ← i7]; exact w3⟩)⟩
          · refine ⟨fun w4 => ?_, fun w4 => (n23 (k23.mp (Decidable.not_not.mp w4))).elim⟩
            exact ⟨2, by omega, _, rfl, rfl, rfl, rfl, rfl, rfl, rfl, rfl, rfl, rfl, his, fun z => z.elim (fun z => w3 (by rw [i6, i7, ← l2, ← h2]; exact z.2)) (fun z => n23 z.1)⟩
      · have e := wp_b0 (Decidable.not_not.mp w)
        exact q0 (fun z => by rw [hv.mpr z] at e; cases e)
    · split at hP
      · cases hP
        rename_i hpc
        subst hpc
        obtain ⟨v, rfl, rfl, rfl, rfl, rfl, rfl, rfl, rfl, rfl, hmm, his, hnb⟩ := hh
        refine ⟨m0, _, _, _, _, _, rfl, hT, h16, hm0, ?_⟩
        have j7 : (pm_mk I1 m0 (I1 460 3) (Int32.ofNat x) (Int32.ofInt 0) (I1 460 6) (I1 460 7)) 460 7 = I1 460 7 := pm_mk_no (by omega) (by omega)
        refine ⟨fun w => ?_, fun w => ?_⟩
        · refine ⟨1, by omega, _, _, rfl, rfl, rfl, rfl, rfl, rfl, rfl, rfl, rfl, rfl, his, hnb, fun e22 => ?_⟩
          obtain ⟨lo, hi, l1, h1, l2, h2, i6, i7⟩ := ct (Or.inl e22)
          rw [j7, i7, wi_le, wi_on (by omega), show (Int32.ofInt 1).toInt = 1 from rfl] at w
          rw [h2, wi_onn (by omega)]
          unfold ww_mx
          split
          · rfl
          · rw [show hi = 1 by omega]; rfl
        · refine ⟨1, by omega, _, _, rfl, rfl, rfl, rfl, rfl, rfl, rfl, rfl, rfl, rfl, his, hnb, fun e22 => ?_⟩
          obtain ⟨lo, hi, l1, h1, l2, h2, i6, i7⟩ := ct (Or.inl e22)
          rw [j7, i7, wi_le, wi_on (by omega), show (Int32.ofInt 1).toInt = 1 from rfl] at w
          rw [h2, wi_onn (by omega), j7, i7]
          unfold ww_mx
          rw [if_neg (by omega)]
      · split at hP
        · cases hP
          rename_i hpc
          subst hpc
          obtain ⟨v, mx, rfl, rfl, rfl, rfl, rfl, rfl, rfl, rfl, rfl, hmm, his, hnb, hmx⟩ := hh
          have j3 : (pm_mk I m0 (I 460 3) (Int32.ofNat x) (Int32.ofInt 0) (I 460 6) (I 460 7)) 460 3 = I 460 3 := pm_mk_no (by omega) (by omega)
          have j6 : (pm_mk I m0 (I 460 3) (Int32.ofNat x) (Int32.ofInt 0) (I 460 6) (I 460 7)) 460 6 = I 460 6 := pm_mk_no (by omega) (by omega)
          have jx : (pm_mk I m0 (I 460 3) (Int32.ofNat x) (Int32.ofInt 0) (I 460 6) (I 460 7)) 467 x = Int32.ofNat wx := by rw [pm_mk_no (by omega) (by omega)]; exact ix
          have bm : 0 ≤ Int32.ofNat m0 ∧ (Int32.ofNat m0).toInt < (800 : Nat) := ⟨by rw [wi_le, em, wi_0]; omega, by rw [em]; omega⟩
          have bx : 0 ≤ Int32.ofNat x ∧ (Int32.ofNat x).toInt < (800 : Nat) := ⟨by rw [wi_le, ex, wi_0]; omega, by rw [ex]; omega⟩
          have fin : ∀ W : Nat, W = rc_w ts s wx → wp_Y T1 (wv_u (pm_mk I m0 (I 460 3) (Int32.ofNat x) (Int32.ofInt 0) (I 460 6) (I 460 7)) 467 m0 (Int32.ofNat W)) t n ∧ pm_Z t ts n s (wv_u (pm_mk I m0 (I 460 3) (Int32.ofNat x) (Int32.ofInt 0) (I 460 6) (I 460 7)) 467 m0 (Int32.ofNat W)) ∧ (s.2 = none → ¬ tk_now ts s = 0 ∧ ¬ tk_now ts s = 1) ∧ ∀ I2, pm_Z t ts n (tk_adv ts s) I2 → pm_F (wv_u (pm_mk I m0 (I 460 3) (Int32.ofNat x) (Int32.ofInt 0) (I 460 6) (I 460 7)) 467 m0 (Int32.ofNat W)) I2 → q (.inl (some (.int (Int32.ofNat m0)))) T1 N1 I2 L1 R1 0 0 := by
            rintro W rfl
            refine ⟨wp_Y_D hY ?_ (fun k => ?_), pm_Z_fr hZ (fun j a c => ?_), fun _ => ?_, fun I2 a c => q2 his hnb I2 a c⟩
            · rw [wv_u_no _ _ (by omega), pm_mk_no (by omega) (by omega)]
            · rw [wv_u_no _ _ (by omega), pm_mk_no (by omega) (by omega)]
            · rw [wv_u_no _ _ (by omega), pm_mk_no (by omega) (by omega)]
            · rcases his with z | z | z | ⟨_, z | z⟩ <;> (rw [z]; exact ⟨by decide, by decide⟩)
          rw [← j3] at k22 k23 k24
          refine ⟨fun w => ?_, fun w => ?_⟩
          · have n22 : ¬ tk_now ts s = (Int8.ofInt 22).toInt32 := fun z => w (k22.mpr z)
            refine ⟨fun w2 => ?_, fun w2 => ?_⟩
            · have n23 : ¬ tk_now ts s = (Int8.ofInt 23).toInt32 := fun z => w2 (k23.mpr z)
              refine ⟨fun w3 => ?_, fun w3 => ?_⟩
              · have n24 : ¬ tk_now ts s = (Int8.ofInt 24).toInt32 := fun z => w3 (k24.mpr z)
                refine ⟨_, wm_t hT rfl, bx, ?_⟩
                rw [exn, jx]
                refine ⟨_, wm_t hT rfl, bm, by decide, ?_⟩
                rw [emn]
                obtain ⟨f1, f2, f3, f4⟩ := fin wx (by unfold rc_w; rw [if_neg n22, if_neg n23, if_neg n24])
                exact ⟨t, ts, n, s, rfl, f1, f2, f3, f4⟩
              · have e24 := k24.mp (Decidable.not_not.mp w3)
                obtain ⟨lo, hi, l1, h1, l2, h2, i6, i7⟩ := ct (Or.inr (Or.inr e24))
                refine ⟨_, wm_t hT rfl, bm, by decide, ?_⟩
                rw [emn, j6.trans i6, show Int32.ofInt 2 * Int32.ofNat lo + Int32.ofInt 1 = Int32.ofNat (2 * lo + 1) from by rw [show Int32.ofInt 2 = Int32.ofNat 2 from rfl, wi_mn (by omega), wq_4s]]
                obtain ⟨f1, f2, f3, f4⟩ := fin (2 * lo + 1) (by unfold rc_w; rw [if_neg n22, if_neg n23, if_pos e24, l2, wi_onn (by omega)])
                exact ⟨t, ts, n, s, rfl, f1, f2, f3, f4⟩
            · have e23 := k23.mp (Decidable.not_not.mp w2)
              obtain ⟨lo, hi, l1, h1, l2, h2, i6, i7⟩ := ct (Or.inr (Or.inl e23))
              refine ⟨_, wm_t hT rfl, bm, by decide, ?_⟩
              rw [emn, j6.trans i6, show Int32.ofInt 2 * Int32.ofNat lo = Int32.ofNat (2 * lo) from by rw [show Int32.ofInt 2 = Int32.ofNat 2 from rfl, wi_mn (by omega)]]
              obtain ⟨f1, f2, f3, f4⟩ := fin (2 * lo) (by unfold rc_w; rw [if_neg n22, if_pos e23, l2, wi_onn (by omega)])
              exact ⟨t, ts, n, s, rfl, f1, f2, f3, f4⟩
          · have e22 := k22.mp (Decidable.not_not.mp w)
            obtain ⟨lo, hi, l1, h1, l2, h2, i6, i7⟩ := ct (Or.inl e22)
            have hmx := hmx e22
            rw [h2, wi_onn (by omega)] at hmx
            have hm9 : ww_mx hi ≤ 9 := by unfold ww_mx; split <;> omega
            have hb : ww_mx hi * wx ≤ 9 * 1000 := Nat.mul_le_mul hm9 hwx
            refine ⟨_, wm_t hT rfl, bx, ?_⟩
            rw [exn, jx, hmx]
            refine ⟨ww_mx hi * wx, congrArg (fun x => [Value.int x]) (wi_mn (by omega)), by omega, ?_⟩
            refine ⟨_, wm_t hT rfl, bm, by decide, ?_⟩
            rw [emn]
            obtain ⟨f1, f2, f3, f4⟩ := fin (min (ww_mx hi * wx) 1000) (by unfold rc_w; rw [if_pos e22, h2, wi_onn (by omega)])
            exact ⟨t, ts, n, s, rfl, f1, f2, f3, f4⟩
        · cases hP
