/-! ===== the class: an item wanted ===== -/
theorem ww_I_a {fl : Bool} {m : Nat → Bool} {l : ww_s} (h : ww_I fl l) : ww_I (ww_fl fl (ww_sz l + 1)) ((1, nt_cond m) :: l) := by
  obtain ⟨a, b⟩ := h
  have bl := ww_sz_le (ps := l) b
  refine ⟨fun e => ?_, fun w hw => ?_⟩
  · show 41 ≤ 1 + ww_sum l
    rcases (Bool.or_eq_true _ _).mp (show (fl || decide (41 ≤ ww_sz l + 1)) = true from e) with e | e
    · have := a e
      omega
    · have e := of_decide_eq_true e
      omega
  · rcases List.mem_cons.mp hw with e | e
    · rw [e]
      exact Or.inl (Nat.le_refl _)
    · exact b w e
/-- what wanting an item leaves alone -/
def wi_F (I : Nat → Nat → Int32) (L : Nat → Nat → Int64) (I1 : Nat → Nat → Int32) (L1 : Nat → Nat → Int64) : Prop := (∀ c j, ¬ (c = 1 ∧ (j = 8 ∨ j = 9)) → ¬ (c = 9 ∧ (j = 8 ∨ j = 11)) → ¬ (c = 10 ∧ 8 ≤ j ∧ j ≤ 10) → ¬ (c = 14 ∨ c = 15 ∨ c = 18) → I1 c j = I c j) ∧ ∀ c j, ¬ (c = 11 ∨ c = 12 ∨ c = 13 ∨ c = 16 ∨ c = 17) → L1 c j = L c j
def pj_c134 : wv_c1 := fun as T N I L R q => ∃ (ts : List wt_t) (n o g : Nat) (s : wt_q) (js : List Nat) (fl : Bool) (ps : ww_s), as = [.ref 9] ∧ wm_T T ∧ wt_LW T L ∧ wt_K I L ts n s.1 s.2 ∧ (∀ y, y ∈ ts → pr_vt y) ∧ pj_J I js ∧ js.length < 400 ∧ I 9 7 = Int32.ofNat o ∧ o ≤ 20 ∧ I 9 11 = Int32.ofNat g ∧ g < 64 ∧ ww_W fl I L ps ∧ ww_I fl ps ∧ ps.length ≤ 200 ∧ (tk_now ts s = (Int8.ofInt 13).toInt32 → ¬ o < 20 → ∀ I1, wt_Q I L ts n (tk_ref ts n s) I1 → q (.inl none) T N I1 L R 0 0) ∧ (tk_now ts s = (Int8.ofInt 13).toInt32 → o < 20 → ∀ I1, wt_K I1 L ts n (tk_adv ts s).1 (tk_adv ts s).2 → pj_J I1 (0 :: js) → I1 9 7 = Int32.ofNat (o + 1) → (∀ c j, ¬ (c = 9 ∧ (j = 6 ∨ j = 7)) → ¬ c = 21 → ¬ (c = 1 ∧ (j = 8 ∨ j = 9)) → I1 c j = I c j) → q (.inl none) T N I1 L R 0 0) ∧ (¬ tk_now ts s = (Int8.ofInt 13).toInt32 → ∀ (m0 : Nat → Bool) fl1 g2 I1 L1, ((cd_all ts n s).2.2.2 = none → m0 = cd_h (cd_all ts n s)) → ww_W fl1 I1 L1 ((rp ts n (some m0) (cd_all ts n s).2.2 (1, nt_cond m0)).1 :: ps) → ww_I fl1 ((rp ts n (some m0) (cd_all ts n s).2.2 (1, nt_cond m0)).1 :: ps) → wt_K I1 L1 ts n (rp ts n (some m0) (cd_all ts n s).2.2 (1, nt_cond m0)).2.1 (rp ts n (some m0) (cd_all ts n s).2.2 (1, nt_cond m0)).2.2 → I1 9 11 = Int32.ofNat g2 → g2 < 64 → cd_g (cd_all ts n s) g2 → (∀ i, g.testBit i = true → g2.testBit i = true) → I1 9 8 = Int32.ofInt 3 → wi_F I L I1 L1 → q (.inl none) T N I1 L1 R 0 0)
set_option maxRecDepth 100000 in
theorem wM_134 : ∃ cb ci np, pt_mt 134 = some (4, cb, 1, false, none, ci, np) := ⟨_, _, _, rfl⟩
set_option maxRecDepth 100000 in
set_option maxHeartbeats 4000000 in
theorem pj_wantItem {sc : pt_Sc} {d : Nat} : wv_C wm_fx sc (d + 1 + 1 + 1 + 1 + 1) 134 pj_c134 := by
  rintro as T N I L R q ⟨ts, n, o, g, s, js, fl, ps, rfl, hT, hLW, hK, hv, hJ, hl, h7, ho, hg, hg6, hW, hI, hps, q1, q2, q3⟩ w0 HR
  obtain ⟨cb, ci, np, hm⟩ := wM_134
  have hc50 : wv_C wm_fx sc (d + 1 + 1 + 1 + 1) 50 wt_c50 := wv_C_deep (by omega) (wt_now (d := d))
  have hc118 : wv_C wm_fx sc (d + 1 + 1 + 1 + 1) 118 pj_c118 := wv_C_deep (by omega) (pj_openBrace (d := d))
  have hc124 : wv_C wm_fx sc (d + 1 + 1 + 1 + 1) 124 pc_c124 := wv_C_deep (by omega) (pc_condition (d := d))
  have hc135 : wv_C wm_fx sc (d + 1 + 1 + 1 + 1) 135 ww_c135 := wv_C_deep (by omega) (ww_addCondition (d := d))
  have hc137 : wv_C wm_fx sc (d + 1 + 1 + 1 + 1) 137 pj_c137 := wv_C_deep (by omega) (pj_repeat (d := d))
  refine wv_meth (hh := none) rfl (sp := wv_sp [(50, wt_c50), (118, pj_c118), (124, pc_c124), (135, ww_c135), (137, pj_c137)]) (hd := fun _ => none) (n := 0) (n1 := 300) hm zc_134 rfl (wv_sp_ok (fun q hq => by
    rcases List.mem_cons.mp hq with h | h
    · rw [h]; exact hc50
    rcases List.mem_cons.mp h with h | h
    · rw [h]; exact hc118
    rcases List.mem_cons.mp h with h | h
    · rw [h]; exact hc124
    rcases List.mem_cons.mp h with h | h
    · rw [h]; exact hc135
    rw [List.mem_singleton.mp h]; exact hc137)) ?_ (fun pc P h => by cases h) HR
  refine ⟨ts, n, s, rfl, hT, hK, ?_⟩
  refine ⟨fun w => ?_, fun w => ?_⟩
  · refine ⟨ts, n, g, s, rfl, hT, hLW, hK, hv, hg, hg6, fun y g2 I1 a1 a2 a3 a4 a5 a6 a7 => ?_⟩
    obtain ⟨m0, hm1, hm2⟩ : ∃ m0 : Nat → Bool, ((cd_all ts n s).2.2.2 = none → m0 = cd_h (cd_all ts n s)) ∧ ∀ u, u < 64 → nb y u = m0 u := by
      by_cases hz : (cd_all ts n s).2.2.2 = none
      · exact ⟨cd_h (cd_all ts n s), fun _ => rfl, a1 hz⟩
      · exact ⟨fun u => nb y u, fun z => absurd z hz, fun _ _ => rfl⟩
    have hW1 : ww_W fl I1 L ps := ww_W_c hW (fun c j hc => a3 c j (by omega) (by omega))
    refine ⟨fl, y, m0, ps, rfl, hT, hW1, hps, hm2, fun I2 L2 b1 b2 => ?_⟩
    refine ⟨ts, n, (cd_all ts n s).2.2, some m0, _, (1, nt_cond m0), ps, rfl, hT, wt_K_W a2 b2, hv, b1, ww_I_a hI, fun m e => by cases e; rfl, fun fl1 I3 L3 c1 c2 c3 c4 => ?_⟩
    refine q3 w m0 fl1 g2 _ L3 hm1 (ww_W_9 c1 (fun c j hc => wv_u_no _ _ (fun z => hc z.1))) c2 (wt_K_D (C := 9) (by omega) c3 (fun c j hc => wv_u_no _ _ (by omega))) ?_ a5 a6 a7 (wv_u_at _ _ _ _) ⟨fun c j d1 d2 d3 d4 => ?_, fun c j d => ?_⟩
    · rw [wv_u_no _ _ (by omega), c4.1 _ _ (by omega) (by omega) (by omega), b2.1 _ _ (by omega) (by omega)]
      exact a4
    · rw [wv_u_no _ _ (by omega), c4.1 _ _ d1 d3 d4, b2.1 _ _ d3 d4]
      exact a3 c j d1 (by omega)
    · rw [c4.2 c j d, b2.2 c j d]
  · have w := Decidable.not_not.mp w
    exact ⟨ts, n, o, s, js, rfl, hT, hK, hJ, hl, h7, ho, fun z J hQ => q1 w (fun z2 => z ⟨w, z2⟩) J hQ, fun z J k1 k2 k3 k4 => q2 w z.2 J k1 k2 k3 k4⟩
