/-! ===== the reference: next and signal ===== -/
def dm_XF (cc : Nat) (I I1 : Nat → Nat → Int32) : Prop := ∀ c j, ¬ (c = 460 ∧ (j = 3 ∨ j = 4 ∨ j = 5 ∨ j = 8 ∨ j = 103 ∨ (110 ≤ j ∧ j ≤ 116))) → ¬ (c = 530 ∨ c = 531 ∨ c = 535 ∨ c = cc) → I1 c j = I c j
/-- an index that fits -/
def dm_rg (A B : Nat) (o : Option Nat) : Prop := ∃ i, o = some i ∧ A ≤ i ∧ i < A + B
theorem tk_ref_n {ts : List wt_t} {n : Nat} {s : wt_q} (h : s.2 = none) : tk_ref ts n s = (s.1, some (tk_place ts n s.1)) := by
  unfold tk_ref tk_refAt
  rw [h]
theorem tk_take_bad {ts : List wt_t} {n : Nat} {k : Int32} {s : wt_q} (h : s.2 = none) (hk : ¬ tk_now ts s = k) : tk_take ts n k s = (s.1, some (tk_place ts n s.1)) := by
  unfold tk_take
  rw [if_neg hk]
  exact tk_ref_n h
theorem ds_fit_28 {A B : Nat} {o : Option Nat} {c : Int64} : ds_fit A B (Int8.ofInt 28).toInt32 o c = true ↔ dm_rg A B o := by
  unfold ds_fit
  rw [if_neg (by decide), if_pos rfl]
  unfold dm_rg
  cases o with
  | none => exact ⟨fun h => (by cases h), fun ⟨i, h, _⟩ => (by cases h)⟩
  | some i => exact ⟨fun h => ⟨i, rfl, of_decide_eq_true h⟩, fun ⟨j, h, h2⟩ => by cases h; exact decide_eq_true h2⟩
theorem ds_fit_36 {A B : Nat} {o : Option Nat} {c : Int64} : ds_fit A B (Int8.ofInt 36).toInt32 o c = true ↔ (1 ≤ c.toInt ∧ c.toInt ≤ 6) := by
  unfold ds_fit
  rw [if_neg (by decide), if_neg (by decide), if_pos rfl]
  constructor
  · intro h
    exact ds_sig_i (of_decide_eq_true h)
  · intro h
    apply decide_eq_true
    rw [lg_cmp_lt, Int64.lt_iff_toInt_lt, lg_cmp_gt, Int64.lt_iff_toInt_lt]
    have e1 : (Int64.ofNat 1).toInt = 1 := rfl
    have e6 : (6 : Int64).toInt = 6 := rfl
    omega
/-- what a name that does not fit leads to -/
theorem ds_s2_t {ts : List wt_t} {n A B : Nat} {nm : ds_n} {s s1 : wt_q} (e1 : tk_adv ts s = s1) (hn : s1.2 = none) (hb : ¬ tk_now ts s1 = (Int8.ofInt 32).toInt32 ∨ ¬ ds_fit A B (tk_now ts s) (ds_ix nm (tk_name ts s1.1)) (tk_name ts s1.1) = true) : tk_take ts n (Int8.ofInt 32).toInt32 (ds_s2 ts n A B nm s) = (s1.1, some (tk_place ts n s1.1)) := by
  unfold ds_s2
  rw [e1]
  split
  · rename_i hf
    rcases hb with hb | hb
    · exact tk_take_bad hn hb
    · exact (hb hf).elim
  · rw [tk_ref_n hn]
    exact tk_take_some rfl (by decide)
theorem ds_s2_ok {ts : List wt_t} {n A B : Nat} {nm : ds_n} {s s1 : wt_q} (e1 : tk_adv ts s = s1) (hb : ds_fit A B (tk_now ts s) (ds_ix nm (tk_name ts s1.1)) (tk_name ts s1.1) = true) : ds_s2 ts n A B nm s = s1 := by
  unfold ds_s2
  rw [e1, if_pos hb]
def dm_h483 (t : Nat → Int32) (ts : List wt_t) (n : Nat) (nm : ds_n) (A B : Nat) (s1 S3 : wt_q) (T : wv_T) (N : Nat) (I : Nat → Nat → Int32) (L : Nat → Nat → Int64) (R : Nat → Nat → Option Nat) : Nat → Option (Nat → wv_P) := fun pc =>
  if pc = 31 then some (fun m lv st T1 N1 I1 L1 R1 nc ns => m = 9 ∧ lv = [some (.ref 460), some (.int (wt_f (dm_ki ts nm s1))), none, none] ∧ st = [] ∧ T1 = T ∧ N1 = N ∧ L1 = L ∧ R1 = R ∧ nc = 0 ∧ ns = 0 ∧ dm_Z t ts n s1 I1 ∧ dm_F I I1)
  else if pc = 67 then some (fun m lv st T1 N1 I1 L1 R1 nc ns => ∃ s2 : wt_q, m = 8 ∧ lv = [some (.ref 460), some (.int (wt_f (dm_ki ts nm s1))), none, none] ∧ st = [] ∧ T1 = T ∧ N1 = N ∧ L1 = L ∧ R1 = R ∧ nc = 0 ∧ ns = 0 ∧ dm_Z t ts n s2 I1 ∧ dm_F I I1 ∧ tk_take ts n (Int8.ofInt 32).toInt32 s2 = S3 ∧ (s2.2 = none → dm_rg A B (dm_ki ts nm s1)))
  else none
theorem tk_adv_1 {t : Nat → Int32} {ts : List wt_t} {n : Nat} {s : wt_q} {I : Nat → Nat → Int32} (hZ : dm_Z t ts n s I) (hs : s.2 = none) : tk_adv ts s = (s.1 + 1, none) := by
  unfold dm_Z at hZ
  rw [hs] at hZ
  obtain ⟨i8, x, l, e, hd, htk, i3, i4, i5⟩ := hZ
  exact tk_adv_at hs (tk_drop hd).1
def dm_c483 : wv_c1 := fun as T N I L R q => ∃ (t : Nat → Int32) (ts : List wt_t) (n : Nat) (nm : ds_n) (A B : Nat) (x : ds_q), as = [.ref 460] ∧ dm_W0 T t ts n nm A B x I ∧ tk_now ts x.1 = (Int8.ofInt 28).toInt32 ∧ ∀ v x2 I1, dm_Z t ts n x2.1 I1 → dm_G I1 A B x2.2 → dm_XF 532 I I1 → x2.1.2 = (dm_E ts n nm A B (ds_s3 ts n (ds_s2 ts n A B nm x.1), x.2)).2.1.2 → (x2.1.2 = none → (v, x2) = dm_E ts n nm A B (ds_s3 ts n (ds_s2 ts n A B nm x.1), x.2) ∧ ds_lp v ∧ ∀ j, I1 532 j = ds_up (fun j => I 532 j) ((ds_ix nm (tk_name ts (tk_adv ts x.1).1)).getD 0 - A) v j) → q (.inl none) T N I1 L R 0 0
set_option maxRecDepth 100000 in
theorem wM_483 : ∃ cb ci np, pt_mt 483 = some (32, cb, 3, false, none, ci, np) := ⟨_, _, _, rfl⟩
set_option maxRecDepth 100000 in
set_option maxHeartbeats 4000000 in
theorem dm_nextStatement {sc : pt_Sc} {d : Nat} : wv_C wm_fx sc (d + 1 + 1 + 1 + 1 + 1 + 1 + 1) 483 dm_c483 := by
  rintro as T N I L R q ⟨t, ts, n, nm, A, B, x, rfl, ⟨hT, hY, hTs, hA, hB, hZ, hs, hG, hN, h1p, hl, hlp⟩, hk, h⟩ w0 HR
  obtain ⟨cb, ci, np, hm⟩ := wM_483
  obtain ⟨s1, hs1⟩ : ∃ y, tk_adv ts x.1 = y := ⟨_, rfl⟩
  have hn1 : s1.2 = none := by rw [← hs1, tk_adv_1 hZ hs]
  have ht1 : tk_take ts n (Int8.ofInt 28).toInt32 x.1 = s1 := by unfold tk_take; rw [if_pos hk]; exact hs1
  unfold ds_s3 at h
  obtain ⟨S2, hS2⟩ : ∃ y, ds_s2 ts n A B nm x.1 = y := ⟨_, rfl⟩
  rw [hS2] at h
  obtain ⟨S3, hS3⟩ : ∃ y, tk_take ts n (Int8.ofInt 32).toInt32 S2 = y := ⟨_, rfl⟩
  rw [hS3] at h
  obtain ⟨S4, hS4⟩ : ∃ y, tk_take ts n (Int8.ofInt 37).toInt32 S3 = y := ⟨_, rfl⟩
  rw [hS4, hs1] at h
  have hl1 : 1 ≤ s1.1 := by rw [← hs1]; exact Nat.le_trans h1p tk_adv_le
  have hbad : (¬ tk_now ts s1 = (Int8.ofInt 32).toInt32 ∨ ¬ ds_fit A B (tk_now ts x.1) (ds_ix nm (tk_name ts s1.1)) (tk_name ts s1.1) = true) → S3 = (s1.1, some (tk_place ts n s1.1)) := fun z => by
    rw [← hS3, ← hS2]
    exact ds_s2_t hs1 hn1 z
  have hok : ds_fit A B (tk_now ts x.1) (ds_ix nm (tk_name ts s1.1)) (tk_name ts s1.1) = true → tk_take ts n (Int8.ofInt 32).toInt32 s1 = S3 := fun z => by
    rw [← hS3, ← hS2, ds_s2_ok hs1 z]
  have hl4 : 1 ≤ S4.1 := by
    have a0 : s1.1 ≤ S2.1 := by
      rw [← hS2]
      unfold ds_s2
      rw [hs1]
      split
      · exact Nat.le_refl _
      · rw [tk_ref_n hn1]
        exact Nat.le_refl _
    have a1 : S2.1 ≤ S3.1 := by rw [← hS3]; exact tk_take_le
    have a2 : S3.1 ≤ S4.1 := by rw [← hS4]; exact tk_take_le
    omega
  have hc469 : wv_C wm_fx sc (d + 1 + 1 + 1 + 1 + 1 + 1) 469 dm_c469 := wv_C_deep (by omega) (dm_take (d := d))
  have hc471 : wv_C wm_fx sc (d + 1 + 1 + 1 + 1 + 1 + 1) 471 dm_c471 := wv_C_deep (by omega) (dm_told (d := d))
  have hc358 : wv_C wm_fx sc (d + 1 + 1 + 1 + 1 + 1 + 1) 358 wp_c358 := wv_C_deep (by omega) (wp_badC (d := d))
  have hc474 : wv_C wm_fx sc (d + 1 + 1 + 1 + 1 + 1 + 1) 474 dm_c474 := wv_C_deep (by omega) (dm_expression (d := d))
  refine wv_meth (hh := none) rfl (sp := wv_sp [(469, dm_c469), (471, dm_c471), (358, wp_c358), (474, dm_c474)]) (hd := dm_h483 t ts n nm A B s1 S3 T N I L R) (n := 300) (n1 := 300) hm zc_483 rfl (wv_sp_ok (fun q hq => by
    rcases List.mem_cons.mp hq with h | h
    · rw [h]; exact hc469
    rcases List.mem_cons.mp h with h | h
    · rw [h]; exact hc471
    rcases List.mem_cons.mp h with h | h
    · rw [h]; exact hc358
    rw [List.mem_singleton.mp h]; exact hc474)) ?_ ?_ HR
  · refine ⟨t, ts, n, x.1, _, _, rfl, hY, hTs, hZ, ds_kc_28, by decide, by decide, by decide, fun I2 z2 F2 => ?_⟩
    rw [ht1] at z2
    have h8 := dm_Z_8 z2
    refine ⟨fun w => (h8.mp w hn1).elim, fun _ => ?_⟩
    obtain ⟨k4, kp, k3, kv, _⟩ := dm_tokZ hTs z2 hn1
    refine ⟨fun w => ?_, fun w => ?_⟩
    · have e : dm_ki ts nm s1 = none := if_neg (fun z => w (by rw [k3]; exact (ds_kc_32 _ kv).mpr z))
      exact ⟨9, rfl, by rw [e]; rfl, rfl, rfl, rfl, rfl, rfl, rfl, rfl, z2, F2⟩
    · have h32 : tk_now ts s1 = (Int8.ofInt 32).toInt32 := (ds_kc_32 _ kv).mp (by rw [← k3]; exact Decidable.not_not.mp w)
      have hZ2 := z2
      unfold dm_Z at hZ2
      rw [hn1] at hZ2
      obtain ⟨i8, xx, l, e, hd, htk, i3, i4, i5⟩ := hZ2
      obtain ⟨hta, htd⟩ := tk_drop hd
      have hx32 : xx.1 = (Int8.ofInt 32).toInt32 := by rw [← tk_now_at hn1 hta]; exact h32
      obtain ⟨c1, c2, c3⟩ := htk.2.2.2.1 hx32
      have c0 := htk.1
      have cn := htk.2.1
      have hnm : tk_name ts s1.1 = ds_nm t xx.2.1 (e - xx.2.1) := by unfold tk_name; rw [hta]; exact c1
      have ek : dm_ki ts nm s1 = ds_ix nm (ds_nm t xx.2.1 (e - xx.2.1)) := by unfold dm_ki; rw [if_pos h32, hnm]
      refine ⟨t, n, nm, xx.2.1, e - xx.2.1, rfl, hT, wp_Y_dF hY F2, dm_N_dF hN F2, i4, by rw [show xx.2.1 + (e - xx.2.1) = e by omega]; exact i5, by omega, c2, fun j hj => c3 _ (by omega) (by omega), ?_⟩
      exact ⟨9, rfl, by rw [ek]; rfl, rfl, rfl, rfl, rfl, rfl, rfl, rfl, z2, F2⟩
  · intro pc P hP m lv st T1 N1 I1 L1 R1 nc ns hh
    unfold dm_h483 at hP
    have hki : ∀ i, dm_ki ts nm s1 = some i → i < 60 := by
      intro i hi
      unfold dm_ki at hi
      split at hi
      · obtain ⟨y, y1, y2, y3⟩ := ds_ix_some hi
        have := hN.2.1
        omega
      · cases hi
    split at hP
    · cases hP
      rename_i hpc
      subst hpc
      obtain ⟨rfl, rfl, rfl, rfl, rfl, rfl, rfl, rfl, rfl, z2, F2⟩ := hh
      have h8 := dm_Z_8 z2
      refine ⟨fun w => (h8.mp w hn1).elim, fun _ => ?_⟩
      obtain ⟨k4, kp, k3, kv, _⟩ := dm_tokZ hTs z2 hn1
      have j101 : I1 460 101 = Int32.ofNat A := by rw [F2 _ _ (by omega)]; exact hG.1
      have j102 : I1 460 102 = Int32.ofNat B := by rw [F2 _ _ (by omega)]; exact hG.2.1
      have bad : ¬ dm_rg A B (dm_ki ts nm s1) → ∃ m1, m1 < 9 ∧ ∃ s2 : wt_q, m1 = 8 ∧ [some (Value.ref 460), some (.int (wt_f (dm_ki ts nm s1))), none, none] = [some (Value.ref 460), some (.int (wt_f (dm_ki ts nm s1))), none, none] ∧ ([] : List Value) = [] ∧ T1 = T1 ∧ N1 = N1 ∧ L1 = L1 ∧ R1 = R1 ∧ 0 = 0 ∧ 0 = 0 ∧ dm_Z t ts n s2 (wp_bad (I1 460 4) I1) ∧ dm_F I (wp_bad (I1 460 4) I1) ∧ tk_take ts n (Int8.ofInt 32).toInt32 s2 = S3 ∧ (s2.2 = none → dm_rg A B (dm_ki ts nm s1)) := by
        intro hr
        refine ⟨8, by omega, (s1.1, some (tk_place ts n s1.1)), rfl, rfl, rfl, rfl, rfl, rfl, rfl, rfl, rfl, ?_, dm_F_tr F2 dm_F_bad, ?_, fun w => by cases w⟩
        · rw [k4, ← tk_ref_n (ts := ts) (n := n) hn1]
          exact dm_Z_bad z2 kp
        · rw [tk_take_some (s := (s1.1, some (tk_place ts n s1.1))) rfl (by decide)]
          refine (hbad ?_).symm
          by_cases h32 : tk_now ts s1 = (Int8.ofInt 32).toInt32
          · right
            rw [hk, ds_fit_28]
            unfold dm_ki at hr
            rw [if_pos h32] at hr
            exact hr
          · exact Or.inl h32
      have hcs : dm_ki ts nm s1 = none ∨ ∃ i, dm_ki ts nm s1 = some i := by
        cases dm_ki ts nm s1 with
        | none => exact Or.inl rfl
        | some i => exact Or.inr ⟨i, rfl⟩
      have eA : (I1 460 101).toInt = A := by rw [j101, wi_on (by omega)]
      have eAB : (I1 460 101 + I1 460 102).toInt = (A + B : Nat) := by rw [j101, j102, wi_ona, wi_on (by omega)]
      rcases hcs with hc | ⟨i, hc⟩
      · have e1 : (wt_f (dm_ki ts nm s1)).toInt = -1 := by rw [hc]; rfl
        refine ⟨fun _ => ?_, fun w => (w (by rw [wi_lt, e1, eA]; omega)).elim⟩
        exact ⟨_, rfl, bad (fun ⟨i, hi, _⟩ => by rw [hc] at hi; cases hi)⟩
      · have e1 : (wt_f (dm_ki ts nm s1)).toInt = i := by rw [hc]; exact wi_on (by have := hki i hc; omega)
        refine ⟨fun w => ?_, fun w => ?_⟩
        · rw [wi_lt, e1, eA] at w
          exact ⟨_, rfl, bad (fun ⟨j, hj, h2, _⟩ => by rw [hc] at hj; cases hj; omega)⟩
        · rw [wi_lt, e1, eA] at w
          refine ⟨fun w2 => ?_, fun w2 => ?_⟩
          · rw [wi_lt, e1, eAB] at w2
            have hr : dm_rg A B (dm_ki ts nm s1) := ⟨i, hc, by omega, by omega⟩
            refine ⟨8, by omega, s1, rfl, rfl, rfl, rfl, rfl, rfl, rfl, rfl, rfl, z2, F2, hok ?_, fun _ => hr⟩
            rw [hk, ds_fit_28]
            unfold dm_ki at hr
            split at hr
            · exact hr
            · obtain ⟨j, hj, _⟩ := hr
              cases hj
          · rw [wi_lt, e1, eAB] at w2
            exact ⟨_, rfl, bad (fun ⟨j, hj, _, h2⟩ => by rw [hc] at hj; cases hj; omega)⟩
    · split at hP
      · cases hP
        rename_i hpc0 hpc
        subst hpc
        obtain ⟨s2, rfl, rfl, rfl, rfl, rfl, rfl, rfl, rfl, rfl, z2, F2, e2, r2⟩ := hh
        refine ⟨t, ts, n, s2, _, _, rfl, wp_Y_dF hY F2, hTs, z2, ds_kc_32, by decide, by decide, by decide, fun I3 z3 f3 => ?_⟩
        rw [e2] at z3
        have F3 := dm_F_tr F2 f3
        refine ⟨t, ts, n, S3, _, _, rfl, wp_Y_dF hY F3, hTs, z3, ds_kc_37, by decide, by decide, by decide, fun I4 z4 f4 => ?_⟩
        rw [hS4] at z4
        have F4 := dm_F_tr F3 f4
        have hG4 : dm_G I4 A B x.2 := dm_G_dF hG F4
        have hN4 := dm_N_dF hN F4
        refine ⟨t, ts, n, nm, A, B, (S4, x.2), rfl, hT, wp_Y_dF hY F4, hTs, hA, hB, z4, hG4, hN4, fun _ => hl4, hl, hlp, fun v x2 I5 z5 g5 f5 e5 c5 => ?_⟩
        have F5 : ∀ c j, ¬ (c = 460 ∧ (j = 3 ∨ j = 4 ∨ j = 5 ∨ j = 8 ∨ j = 103 ∨ (110 ≤ j ∧ j ≤ 116))) → ¬ (c = 530 ∨ c = 531 ∨ c = 535) → I5 c j = I c j := fun c j a b => by rw [f5 c j (by omega) (by omega), F4 c j (by omega)]
        have h85 := dm_Z_8 z5
        by_cases hn5 : x2.1.2 = none
        rotate_left
        · refine ⟨fun _ => ?_, fun w => (w (h85.mpr hn5)).elim⟩
          exact h v x2 I5 z5 g5 (fun c j a b => F5 c j (by omega) (by omega)) e5 (fun w => (hn5 w).elim)
        refine ⟨fun w => (h85.mp w hn5).elim, fun _ => ?_⟩
        obtain ⟨y1, y2⟩ := c5 hn5
        have hn4 : S4.2 = none := dm_E_none (x := (S4, x.2)) (by rw [← e5]; exact hn5)
        have hn3 : S3.2 = none := (tk_take_none (by rw [hS4]; exact hn4)).1
        obtain ⟨hn2, hnow2, _⟩ := tk_take_none (show (tk_take ts n (Int8.ofInt 32).toInt32 s2).2 = none by rw [e2]; exact hn3)
        obtain ⟨i, hi, hiA, hiB⟩ := r2 hn2
        have hix : ds_ix nm (tk_name ts s1.1) = some i := by
          unfold dm_ki at hi
          split at hi
          · exact hi
          · cases hi
        rw [hix] at h
        have e1 : wt_f (dm_ki ts nm s1) = Int32.ofNat i := by rw [hi]; rfl
        have j101 : I5 460 101 = Int32.ofNat A := by rw [F5 _ _ (by omega) (by omega)]; exact hG.1
        have esub : (wt_f (dm_ki ts nm s1) - I5 460 101).toInt = (i - A : Nat) := by
          rw [e1, j101, wi_sub, wi_on (by omega), wi_on (by omega), wr_id (by omega) (by omega)]
          omega
        have enat : (wt_f (dm_ki ts nm s1) - I5 460 101).toNatClampNeg = i - A := by rw [wi_nat, esub]; omega
        refine ⟨_, wm_t hT rfl, ⟨by rw [wi_le, wi_0, esub]; omega, by rw [esub]; omega⟩, by decide, ?_⟩
        have hX : ∀ a, a = i - A → q (.inl none) T1 N1 (wv_u I5 532 a v) L1 R1 0 0 := by
          rintro a rfl
          refine h v x2 _ (dm_Z_u z5 (fun j hj => wv_u_no _ _ (by omega))) (dm_G_F g5 (fun j hj => wv_u_no _ _ (by omega)) (fun c j hc => wv_u_no _ _ (by omega))) (fun c j a b => by rw [wv_u_no _ _ (by omega)]; exact F5 c j (by omega) (by omega)) e5 (fun _ => ⟨y1, y2, fun j => ?_⟩)
          show _ = (if j = i - A then v else I 532 j)
          by_cases e : j = i - A
          · rw [if_pos e, e, wv_u_at]
          · rw [if_neg e, wv_u_no _ _ (by omega)]
            exact F5 _ _ (by omega) (by omega)
        exact hX _ enat
      · cases hP
