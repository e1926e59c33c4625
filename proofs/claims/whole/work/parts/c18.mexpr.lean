/-! ===== the reference: an expression, read ===== -/
/-- an expression and its end, as the class has them -/
def dm_E (ts : List wt_t) (n : Nat) (nm : ds_n) (A B : Nat) (x : ds_q) : Int32 × ds_q := ((ds_E20 ts n nm A B x).1, (tk_take ts n (Int8.ofInt 9).toInt32 (ds_E20 ts n nm A B x).2.1, (ds_E20 ts n nm A B x).2.2))
theorem dm_rn_e {ts : List wt_t} {n : Nat} {nm : ds_n} {A B : Nat} {x : ds_q} (a b c : Int32) : dm_rn ts n nm A B x (Int32.ofInt (-1), a, b, Int32.ofInt (-1), c, Int32.ofInt 0) [] = dm_E ts n nm A B x := by
  have e := dm_up_e (ts := ts) (n := n) (nm := nm) (A := A) (B := B) 20 a b c x
  have e2 : dm_rn ts n nm A B x (Int32.ofInt (-1), a, b, Int32.ofInt (-1), c, Int32.ofInt 0) [] = dm_KE ts n nm A B [] (dm_up ts n nm A B 20 (Int32.ofInt (-1), a, b, Int32.ofInt (-1), c, Int32.ofInt 0) (ds_fc ts n nm A B 20 x)) := rfl
  rw [e2, e]
  rfl
theorem dm_E_some {ts : List wt_t} {n : Nat} {nm : ds_n} {A B : Nat} {x : ds_q} {z : Nat} (h : x.1.2 = some z) : (dm_E ts n nm A B x).2.1.2 = some z := by
  have := ds_E20_some (ts := ts) (n := n) (nm := nm) (A := A) (B := B) h
  show (tk_take ts n (Int8.ofInt 9).toInt32 (ds_E20 ts n nm A B x).2.1).2 = _
  rw [tk_take_some this (by decide)]
  exact this
theorem dm_M_p {T : wv_T} {t : Nat → Int32} {ts : List wt_t} {n : Nat} {nm : ds_n} {A B : Nat} {X : dm_x} {I : Nat → Nat → Int32} {z : Nat} (a : Nat) (h : dm_M T t ts n nm A B X I) (hz : X.1.1.2 = some z) : dm_M T t ts n nm A B (((a, some z), X.1.2), X.2) I := by
  obtain ⟨h1, h2, h3, h4, h5, h6, h7, h8, h9, h10⟩ := h
  refine ⟨h1, h2, h3, h4, h5, ?_, h7, h8, h9, h10⟩
  unfold dm_Z at h6
  rw [hz] at h6
  exact h6
theorem dm_frs_of {fr : List dm_r} (h : ∀ f, f ∈ fr → dm_vr f) : dm_frs fr := by
  intro f hf
  refine ⟨(h f hf).1, fun w => ?_⟩
  rcases (h f hf).2.1 with e | e
  · rw [e] at w
    exact absurd (show Int32.ofInt (-1) < 0 by decide) w
  · exact e.2
/-- behind the end of a part: what the reference finds -/
theorem dm_end_B4 {ts : List wt_t} {n : Nat} {nm : ds_n} {A B : Nat} {R0 : Int32 × ds_q} {x : ds_q} {r : dm_r} {fr : List dm_r} {X2 : dm_x} {bb b' : Bool} (hl : ts.length ≤ 401) (hA : A ≤ 3) (hB : B ≤ 5) (hn : x.1.2 = none) (hg : x.2.length ≤ 60) (ha : 1 ≤ x.1.1) (hpl : tk_place ts n x.1.1 ≤ 400) (hf : fr.length ≤ 20) (hfr : ∀ f, f ∈ fr → dm_vr f) (hr : dm_vs r) (hk : ¬ tk_now ts x.1 = (Int8.ofInt 7).toInt32) (hR : dm_rs ts n nm A B x r fr = R0)
    (h1 : (dm_end A B x r).1.1.2 = none → X2 = (dm_bhd A B (tk_now ts (dm_end A B x r).1.1) (tk_place ts n (dm_end A B x r).1.1.1) (dm_end A B x r).1 (dm_end A B x r).2 fr).2 ∧ (X2.1.1.2 = none → bb = (dm_bhd A B (tk_now ts (dm_end A B x r).1.1) (tk_place ts n (dm_end A B x r).1.1.1) (dm_end A B x r).1 (dm_end A B x r).2 fr).1)) (h2 : ¬ (dm_end A B x r).1.1.2 = none → X2.1.1.2 = (dm_end A B x r).1.1.2) (h3 : X2.1.1.2 = none → b' = decide (tk_now ts X2.1.1 = (Int8.ofInt 8).toInt32 ∨ tk_now ts X2.1.1 = (Int8.ofInt 38).toInt32)) : (∃ z, X2.1.1.2 = some z ∧ R0.2.1.2 = some z) ∨ (X2.1.1.2 = none ∧ X2.1.1.1 = x.1.1 ∧ dm_B4 ts n nm A B R0 X2 b' bb) := by
  rw [dm_rs_ss hk] at hR
  rcases dm_end_rel hA hB hn hg hr with ⟨g, u, e, hu, hg2, hp⟩ | ⟨z, e, hp⟩
  · rw [e] at h1
    obtain ⟨a1, a2⟩ := h1 hn
    rw [hp] at hR
    obtain ⟨c1, c2⟩ := dm_bhd_B4 (a := r.2.1) (b := r.2.2.1) (c := r.2.2.2.2.1) hl hA hB hn hg2 ha hpl hf hfr hu hR
    rw [← a1] at c1 c2
    by_cases hX : X2.1.1.2 = none
    · right
      refine ⟨hX, c2, ?_⟩
      have es : X2.1.1 = x.1 := Prod.ext c2 (by rw [hX, hn])
      rw [h3 hX, a2 hX, es]
      exact c1
    · left
      rcases c1 with ⟨z, y1, y2⟩ | y
      · exact ⟨z, y1, y2⟩
      · exact (hX y.1).elim
  · left
    refine ⟨z, ?_, ?_⟩
    · rw [h2 (by rw [e]; exact fun w => by cases w), e]
    · rw [← hR]
      exact dm_KE_some _ _ (ds_XL_some hp)
def dm_c474 : wv_c1 := fun as T N I L R q => ∃ (t : Nat → Int32) (ts : List wt_t) (n : Nat) (nm : ds_n) (A B : Nat) (x : ds_q), as = [.ref 460] ∧ wm_T T ∧ wp_Y T I t n ∧ dm_T t ts n ∧ A ≤ 3 ∧ B ≤ 5 ∧ dm_Z t ts n x.1 I ∧ dm_G I A B x.2 ∧ dm_N t n nm I ∧ (x.1.2 = none → 1 ≤ x.1.1) ∧ ts.length ≤ 401 ∧ (∀ y, y ∈ nm → ds_lp y.2) ∧ ∀ v x2 I1, dm_Z t ts n x2.1 I1 → dm_G I1 A B x2.2 → dm_MF I I1 → x2.1.2 = (dm_E ts n nm A B x).2.1.2 → (x2.1.2 = none → (v, x2) = dm_E ts n nm A B x ∧ ds_lp v) → q (.inl (some (.int v))) T N I1 L R 0 0
set_option maxRecDepth 100000 in
theorem wM_474 : ∃ cb ci np, pt_mt 474 = some (32, cb, 4, false, some .int, ci, np) := ⟨_, _, _, rfl⟩
set_option maxRecDepth 100000 in
set_option maxHeartbeats 4000000 in
theorem dm_expression {sc : pt_Sc} {d : Nat} : wv_C wm_fx sc (d + 1 + 1 + 1 + 1 + 1 + 1) 474 dm_c474 := by
  rintro as T N I L R q ⟨t, ts, n, nm, A, B, x, rfl, hT, hY, hTs, hA, hB, hZ, hG, hN, h1p, hl, hnm, h⟩ w0 HR
  obtain ⟨cb, ci, np, hm⟩ := wM_474
  obtain ⟨R0, hR0⟩ : ∃ r, dm_E ts n nm A B x = r := ⟨_, rfl⟩
  rw [hR0] at h
  have hc475 : wv_C wm_fx sc (d + 1 + 1 + 1 + 1 + 1) 475 dm_c475 := wv_C_deep (by omega) (dm_operand (d := d))
  have hc480 : wv_C wm_fx sc (d + 1 + 1 + 1 + 1 + 1) 480 dm_c480 := wv_C_deep (by omega) (dm_endPart (d := d))
  have hc481 : wv_C wm_fx sc (d + 1 + 1 + 1 + 1 + 1) 481 dm_c481 := wv_C_deep (by omega) (dm_behindPart (d := d))
  have hc466 : wv_C wm_fx sc (d + 1 + 1 + 1 + 1 + 1) 466 wp_c466 := wv_C_deep (by omega) (wp_nextOfDesign (d := d))
  refine wv_meth (hh := none) rfl (sp := wv_sp [(475, dm_c475), (480, dm_c480), (481, dm_c481), (466, wp_c466)]) (hd := dm_h474 T t ts n nm A B R0 N I L R) (n := 300) (n1 := 300) hm zc_474 rfl (wv_sp_ok (fun q hq => by
    rcases List.mem_cons.mp hq with h | h
    · rw [h]; exact hc475
    rcases List.mem_cons.mp h with h | h
    · rw [h]; exact hc480
    rcases List.mem_cons.mp h with h | h
    · rw [h]; exact hc481
    rw [List.mem_singleton.mp h]; exact hc466)) ?_ ?_ HR
  · have hZ1 : dm_Z t ts n x.1 (wv_u (wv_u (wv_u (wv_u I 460 110 (Int32.ofInt 0)) 460 111 (Int32.ofInt (-1))) 460 114 (Int32.ofInt (-1))) 460 116 (Int32.ofInt 0)) := dm_Z_u hZ (fun j hj => by rw [wv_u_no _ _ (by omega), wv_u_no _ _ (by omega), wv_u_no _ _ (by omega), wv_u_no _ _ (by omega)])
    have hF1 : ∀ c j, ¬ (c = 460 ∧ (j = 110 ∨ j = 111 ∨ j = 114 ∨ j = 116)) → wv_u (wv_u (wv_u (wv_u I 460 110 (Int32.ofInt 0)) 460 111 (Int32.ofInt (-1))) 460 114 (Int32.ofInt (-1))) 460 116 (Int32.ofInt 0) c j = I c j := fun c j hc => by rw [wv_u_no _ _ (by omega), wv_u_no _ _ (by omega), wv_u_no _ _ (by omega), wv_u_no _ _ (by omega)]
    have hM1 : dm_M T t ts n nm A B (x, (Int32.ofInt (-1), I 460 112, I 460 113, Int32.ofInt (-1), I 460 115, Int32.ofInt 0), []) (wv_u (wv_u (wv_u (wv_u I 460 110 (Int32.ofInt 0)) 460 111 (Int32.ofInt (-1))) 460 114 (Int32.ofInt (-1))) 460 116 (Int32.ofInt 0)) := by
      refine ⟨hT, wp_Y_D hY (hF1 _ _ (by omega)) (fun k => hF1 _ _ (by omega)), hTs, hA, hB, hZ1, dm_G_F hG (fun j hj => hF1 _ _ (by omega)) (fun c j hc => hF1 _ _ (by omega)), ?_, ?_, dm_N_F hN (hF1 _ _ (by omega)) (fun c j hc => hF1 _ _ (by omega))⟩
      · refine ⟨?_, hF1 _ _ (by omega), hF1 _ _ (by omega), ?_, hF1 _ _ (by omega), wv_u_at _ _ _ _⟩
        · rw [wv_u_no _ _ (by omega), wv_u_no _ _ (by omega), wv_u_at]
        · rw [wv_u_no _ _ (by omega), wv_u_at]
      · refine ⟨?_, Nat.zero_le _, fun i f hf => by cases hf⟩
        rw [wv_u_no _ _ (by omega), wv_u_no _ _ (by omega), wv_u_no _ _ (by omega), wv_u_at]
        rfl
    refine ⟨⟨rfl, rfl⟩, _, _, true, false, none, rfl, rfl, rfl, rfl, rfl, rfl, rfl, rfl, rfl, hM1, fun c j a b => hF1 c j (by omega), ?_⟩
    by_cases hn : x.1.2 = none
    · right
      exact ⟨hn, h1p hn, Or.inr ⟨rfl, Nat.zero_le _, (fun f hf => by cases hf), Or.inl ⟨rfl, ⟨Or.inl rfl, Or.inl rfl, Or.inl rfl⟩, (dm_rn_e _ _ _).trans hR0⟩⟩⟩
    · left
      obtain ⟨z, hz⟩ := Option.ne_none_iff_exists'.mp hn
      exact ⟨z, hz, by rw [← hR0]; exact dm_E_some hz⟩
  · intro pc P hP m lv st T1 N1 I1 L1 R1 nc ns hh
    unfold dm_h474 at hP
    split at hP
    · cases hP
      rename_i hpc
      subst hpc
      obtain ⟨X, b, d, x3, rfl, rfl, rfl, rfl, rfl, rfl, rfl, rfl, hm, hM, hF, hD⟩ := hh
      have h8 := dm_Z_8 hM.2.2.2.2.2.1
      have r1 := hM.2.2.2.2.2.2.2.1.1
      have hZ2 := hM.2.2.2.2.2.1
      have hG2 := hM.2.2.2.2.2.2.1
      by_cases hn : X.1.1.2 = none
      rotate_left
      · refine ⟨fun _ => ?_, fun w => (w (h8.mpr hn)).elim⟩
        obtain ⟨z, y1, y2⟩ : dm_Ft R0 X.1 := hD.elim id (fun y => (hn y.1).elim)
        exact h _ X.1 I1 hZ2 hG2 hF (by rw [y1, y2]) (fun z => (hn z).elim)
      rw [if_pos hn] at hm
      have hGd : dm_Gd ts n nm A B R0 X.1 X.2.1 X.2.2 b d := by
        rcases hD with ⟨z, y1, y2⟩ | y
        · rw [hn] at y1; cases y1
        · exact y.2
      refine ⟨fun w => (h8.mp w hn).elim, fun _ => ?_⟩
      obtain ⟨ha, hGd⟩ := hGd
      have hal : X.1.1.1 < 401 := by
        have hZ3 := hZ2
        unfold dm_Z at hZ3
        rw [hn] at hZ3
        obtain ⟨_, xx, l, e, hd, _⟩ := hZ3
        obtain ⟨hlt, _⟩ := List.getElem?_eq_some_iff.mp (tk_drop hd).1
        omega
      cases d with
      | true =>
        refine ⟨fun _ => ?_, fun w => (w (by decide)).elim⟩
        rcases hGd with ⟨_, y, yl⟩ | ⟨y, _⟩
        · refine h _ X.1 I1 hZ2 hG2 hF (by rw [y]) (fun _ => ⟨?_, by rw [r1]; exact yl⟩)
          rw [y, r1]
        · cases y
      | false =>
        refine ⟨fun w => (w rfl).elim, fun _ => ?_⟩
        obtain ⟨hfl, hfr, hb⟩ : X.2.2.length ≤ 20 ∧ (∀ f, f ∈ X.2.2 → dm_vr f) ∧ ((b = true ∧ dm_vr X.2.1 ∧ dm_rn ts n nm A B X.1 X.2.1 X.2.2 = R0) ∨ (b = false ∧ dm_vs X.2.1 ∧ dm_rs ts n nm A B X.1 X.2.1 X.2.2 = R0)) := by
          rcases hGd with ⟨y, _⟩ | ⟨_, y⟩
          · cases y
          · exact y
        have hA2 := hM.2.2.2.1
        have hB2 := hM.2.2.2.2.1
        have hgl := hG2.2.2.2.1
        obtain ⟨k3, k4, kv, kp⟩ := dm_tok_of hM hn
        have kk : ∀ (K C : Int32), ds_kc K C → (I1 460 3 = C ↔ tk_now ts X.1.1 = K) := fun K C hkc => by rw [k3]; exact hkc _ kv
        obtain ⟨x1, r, fr⟩ := X
        cases b with
        | true =>
          obtain ⟨hvr, hRr⟩ : dm_vr r ∧ dm_rn ts n nm A B x1 r fr = R0 := by
            rcases hb with y | ⟨y, _⟩
            · exact y.2
            · cases y
          have hok : ¬ r.2.2.2.1 < 0 → dm_ok r.2.2.2.2.1 := by
            intro w
            rcases hvr.2.1 with e | e
            · rw [e] at w
              exact absurd (show Int32.ofInt (-1) < 0 by decide) w
            · exact e.2
          obtain ⟨b4, p4⟩ := dm_opd_B4 hl hA2 hB2 hn hgl ha hfl hfr hvr hnm hRr
          refine ⟨fun w => absurd w (by decide), fun _ => ?_⟩
          refine ⟨fun w1 => ?_, fun w1 => ?_⟩
          · rw [decide_eq_true (Or.inl ((kk _ _ ds_kc_6).mp w1))] at b4
            refine ⟨t, ts, n, nm, A, B, x1, r, fr, rfl, hM, hn, hfl, hvr.1, hok, fun I2 m2 f2 => ?_⟩
            exact ⟨_, by rw [hm]; exact Nat.lt_succ_self _, dm_opd ts n nm A B x1 r fr, true, false, _, rfl, rfl, rfl, rfl, rfl, rfl, rfl, rfl, by rw [p4], m2, dm_MF_tr hF f2, b4⟩
          · refine ⟨fun w2 => ?_, fun w2 => ?_⟩
            · rw [decide_eq_false (fun z => z.elim (fun z => w1 ((kk _ _ ds_kc_6).mpr z)) (fun z => w2 ((kk _ _ ds_kc_15).mpr z)))] at b4
              refine ⟨t, ts, n, nm, A, B, x1, r, fr, rfl, hM, hn, hfl, hvr.1, hok, fun I2 m2 f2 => ?_⟩
              exact ⟨_, by rw [hm]; exact Nat.lt_succ_self _, dm_opd ts n nm A B x1 r fr, false, false, _, rfl, rfl, rfl, rfl, rfl, rfl, rfl, rfl, by rw [p4], m2, dm_MF_tr hF f2, b4⟩
            · rw [decide_eq_true (Or.inr ((kk _ _ ds_kc_15).mp (Decidable.not_not.mp w2)))] at b4
              refine ⟨t, ts, n, nm, A, B, x1, r, fr, rfl, hM, hn, hfl, hvr.1, hok, fun I2 m2 f2 => ?_⟩
              exact ⟨_, by rw [hm]; exact Nat.lt_succ_self _, dm_opd ts n nm A B x1 r fr, true, false, _, rfl, rfl, rfl, rfl, rfl, rfl, rfl, rfl, by rw [p4], m2, dm_MF_tr hF f2, b4⟩
        | false =>
          obtain ⟨hvs, hRr⟩ : dm_vs r ∧ dm_rs ts n nm A B x1 r fr = R0 := by
            rcases hb with ⟨y, _⟩ | y
            · cases y
            · exact y.2
          refine ⟨fun _ => ?_, fun w => (w rfl).elim⟩
          have hdk : dm_ok (Int32.ofNat (tk_place ts n x1.1.1)) := by
            have kp : tk_place ts n x1.1.1 ≤ 400 := kp
            unfold dm_ok
            rw [wi_on (by omega)]
            omega
          refine ⟨fun w1 => ?_, fun w1 => ?_⟩
          rotate_left
          · -- AND
            have h7 := (kk _ _ ds_kc_7).mp (Decidable.not_not.mp w1)
            have e := dm_rs_and (nm := nm) (A := A) (B := B) (fr := fr) hl ha hdk kp h7 hvs
            obtain ⟨q1, q2, q3, q4, q5, q6⟩ := hM.2.2.2.2.2.2.2.1
            have hM2 : dm_M T1 t ts n nm A B (x1, (r.1, r.2.1, r.2.2.1, r.2.2.2.1, Int32.ofNat (tk_place ts n x1.1.1), r.2.2.2.2.2), fr) (wv_u I1 460 115 (I1 460 4)) := dm_M_r hM ⟨by rw [wv_u_no _ _ (by omega)]; exact q1, by rw [wv_u_no _ _ (by omega)]; exact q2, by rw [wv_u_no _ _ (by omega)]; exact q3, by rw [wv_u_no _ _ (by omega)]; exact q4, by rw [wv_u_at]; exact k4, by rw [wv_u_no _ _ (by omega)]; exact q6⟩ (fun c j hc => wv_u_no _ _ (by omega))
            refine ⟨_, by rw [hm]; exact Nat.lt_succ_self _, _, true, false, x3, rfl, rfl, rfl, rfl, rfl, rfl, rfl, rfl, rfl, hM2, dm_MF_tr hF (dm_MF_u (by omega)), Or.inr ⟨hn, ?_, ?_, Nat.le_trans ha tk_adv_le, Or.inr ⟨rfl, hfl, hfr, Or.inl ⟨rfl, ⟨Or.inl hvs.1, Or.inr ⟨hvs.2.1, hdk⟩, hvs.2.2⟩, e.symm.trans hRr⟩⟩⟩⟩
            · show ¬ tk_now ts x1.1 = 0
              rw [h7]; decide
            · show ¬ tk_now ts x1.1 = 1
              rw [h7]; decide
          have h7 : ¬ tk_now ts x1.1 = (Int8.ofInt 7).toInt32 := fun z => w1 ((kk _ _ ds_kc_7).mpr z)
          have hok : ¬ r.1 < 0 → dm_ok r.2.2.1 := by
            intro w
            rcases hvs.2.2 with e | e
            · rw [e] at w
              exact absurd (show Int32.ofInt (-1) < 0 by decide) w
            · exact e.2.1
          refine ⟨t, ts, n, nm, A, B, x1, r, fr, rfl, hM, hok, fun I2 m2 f2 => ?_⟩
          refine ⟨t, ts, n, nm, A, B, (dm_end A B x1 r).1, (dm_end A B x1 r).2, fr, rfl, m2, dm_frs_of hfr, fun bb X2 I3 m3 f3 y1 y2 => ?_⟩
          have hF3 := dm_MF_tr (dm_MF_tr hF f2) f3
          have fin : ∀ (b' : Bool) (y3 : Option Value), (X2.1.1.2 = none → b' = decide (tk_now ts X2.1.1 = (Int8.ofInt 8).toInt32 ∨ tk_now ts X2.1.1 = (Int8.ofInt 38).toInt32)) → ∃ m1, m1 < m ∧ ∃ (X : dm_x) (b d : Bool) (x3 : Option Value), [some (Value.ref 460), some (.int (wp_b b')), some (.int (wp_b bb)), y3, none] = dm_l474 b d x3 ∧ ([] : List Value) = [] ∧ T1 = T1 ∧ N1 = N1 ∧ L1 = L1 ∧ R1 = R1 ∧ 0 = 0 ∧ 0 = 0 ∧ m1 = 3 * (500 - X.1.1.1) + 1 ∧ dm_M T1 t ts n nm A B X I3 ∧ dm_MF I I3 ∧ dm_B4 ts n nm A B R0 X b d := by
            intro b' y3 hb'
            rcases dm_end_B4 hl hA2 hB2 hn hgl ha kp hfl hfr hvs h7 hRr y1 y2 hb' with ⟨z, z1, z2⟩ | ⟨z1, z2, z3⟩
            · exact ⟨_, by rw [hm]; exact Nat.lt_succ_self _, _, b', bb, y3, rfl, rfl, rfl, rfl, rfl, rfl, rfl, rfl, rfl, dm_M_p x1.1.1 m3 z1, hF3, Or.inl ⟨z, rfl, z2⟩⟩
            · exact ⟨_, by rw [hm]; exact Nat.lt_succ_self _, X2, b', bb, y3, rfl, rfl, rfl, rfl, rfl, rfl, rfl, rfl, by rw [z2], m3, hF3, z3⟩
          have kk3 : X2.1.1.2 = none → ∀ (K C : Int32), ds_kc K C → (I3 460 3 = C ↔ tk_now ts X2.1.1 = K) := fun hX K C hkc => by
            obtain ⟨k3, k4, kv, kp⟩ := dm_tok_of m3 hX
            rw [k3]; exact hkc _ kv
          refine ⟨fun w2 => ?_, fun w2 => ?_⟩
          · exact fin true x3 (fun hX => (decide_eq_true (Or.inl ((kk3 hX _ _ ds_kc_8).mp w2))).symm)
          refine ⟨fun w3 => ?_, fun w3 => ?_⟩
          · exact fin false x3 (fun hX => (decide_eq_false (fun z => z.elim (fun z => w2 ((kk3 hX _ _ ds_kc_8).mpr z)) (fun z => w3 ((kk3 hX _ _ ds_kc_38).mpr z)))).symm)
          · exact fin true x3 (fun hX => (decide_eq_true (Or.inr ((kk3 hX _ _ ds_kc_38).mp (Decidable.not_not.mp w3)))).symm)
    · split at hP
      · cases hP
        rename_i hpc0 hpc
        subst hpc
        obtain ⟨X, b, d, x3, rfl, rfl, rfl, rfl, rfl, rfl, rfl, rfl, hm, hM, hF, hD⟩ := hh
        have h8 := dm_Z_8 hM.2.2.2.2.2.1
        by_cases hn : X.1.1.2 = none
        rotate_left
        · refine ⟨fun _ => ?_, fun w => (w (h8.mpr hn)).elim⟩
          have hft : dm_Ft R0 X.1 := hD.elim id (fun y => (hn y.1).elim)
          exact ⟨3 * (500 - X.1.1.1), by omega, X, b, d, x3, rfl, rfl, rfl, rfl, rfl, rfl, rfl, rfl, by rw [if_neg hn, Nat.add_zero], hM, hF, Or.inl hft⟩
        · refine ⟨fun w => (h8.mp w hn).elim, fun _ => ?_⟩
          obtain ⟨_, n0, n1, hGd⟩ : X.1.1.2 = none ∧ ¬ tk_now ts X.1.1 = 0 ∧ ¬ tk_now ts X.1.1 = 1 ∧ dm_Gd ts n nm A B R0 (tk_adv ts X.1.1, X.1.2) X.2.1 X.2.2 b d := by
            rcases hD with ⟨z, y1, y2⟩ | y
            · rw [hn] at y1; cases y1
            · exact y
          have hZ3 := hM.2.2.2.2.2.1
          unfold dm_Z at hZ3
          rw [hn] at hZ3
          obtain ⟨i8, xx, l, e, hd, htk, i3, i4, i5⟩ := hZ3
          obtain ⟨hta, htd⟩ := tk_drop hd
          obtain ⟨hlt, _⟩ := List.getElem?_eq_some_iff.mp hta
          rw [tk_now_at hn hta] at n0 n1
          obtain ⟨hlx, _⟩ := htk.2.2.1 n0 n1
          have ead := tk_adv_at hn hta
          refine ⟨t, n, e, rfl, hM.2.1, i5, htk.2.1, fun x2 l2 e2 I2 a1 a2 a3 a4 a5 a6 => ?_⟩
          have hZ4 : dm_Z t ts n (tk_adv ts X.1.1) I2 := by
            rw [ead]
            exact ⟨by rw [a6 _ _ (by omega)]; exact i8, x2, l2, e2, by rw [htd, hlx]; exact a1, a2, a3, a4, a5⟩
          have hM4 := dm_M_d (x := X.1) (r := X.2.1) (fr := X.2.2) hM hZ4 (dm_F_N a6)
          exact ⟨3 * (500 - (X.1.1.1 + 1)) + 2, by omega, ((tk_adv ts X.1.1, X.1.2), X.2.1, X.2.2), b, d, x3, rfl, rfl, rfl, rfl, rfl, rfl, rfl, rfl, by rw [ead]; rfl, hM4, dm_MF_tr hF (dm_MF_F (dm_F_N a6)), Or.inr ⟨by rw [ead], hGd⟩⟩
      · cases hP
