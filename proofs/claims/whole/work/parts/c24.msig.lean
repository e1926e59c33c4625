/-! ===== the reference: signal ===== -/
theorem dn_sig {t : Nat → Int32} {p z : Nat} (h1 : 1 ≤ z) (h8 : z ≤ 8) (hs : ∀ j, j < z → wt_sml t (p + j) = true) : ((1 ≤ (ds_nm t p z).toInt ∧ (ds_nm t p z).toInt ≤ 6) ↔ (z = 1 ∧ (t p).toInt ≤ 102)) ∧ (z = 1 → (ds_nm t p z).toInt = (t p).toInt - 96) := by
  rw [dn_ok z h8 hs]
  have a1 := dn_lt z hs
  have p1 : 32 ^ z ≤ 32 ^ 8 := Nat.pow_le_pow_right (by omega) (by omega)
  have e : (32 : Nat) ^ 8 = 2 ^ 40 := by decide
  rw [Int64.toInt_ofNat_of_lt (by omega)]
  cases z with
  | zero => omega
  | succ k =>
    have hk := of_decide_eq_true (hs k (by omega))
    have ed : dn t p (k + 1) = 32 * dn t p k + dn_d t (p + k) := rfl
    have ee : (dn_d t (p + k) : Int) = (t (p + k)).toInt - 96 := by unfold dn_d; omega
    cases k with
    | zero =>
      have e0 : dn t p 0 = 0 := rfl
      have e1 : p + 0 = p := rfl
      rw [e1] at ee ed hk
      constructor
      · constructor
        · intro h
          exact ⟨rfl, by omega⟩
        · intro h
          omega
      · intro _
        omega
    | succ k =>
      have hk2 := of_decide_eq_true (hs k (by omega))
      have ed2 : dn t p (k + 1) = 32 * dn t p k + dn_d t (p + k) := rfl
      have ee2 : (dn_d t (p + k) : Int) = (t (p + k)).toInt - 96 := by unfold dn_d; omega
      constructor
      · constructor
        · intro h
          omega
        · intro h
          omega
      · intro h
        omega
def dm_sgl (ts : List wt_t) (s1 : wt_q) (l : Int32) : Prop := (0 ≤ l.toInt ∧ tk_now ts s1 = (Int8.ofInt 32).toInt32 ∧ (1 ≤ (tk_name ts s1.1).toInt ∧ (tk_name ts s1.1).toInt ≤ 6) ∧ l = (tk_name ts s1.1).toInt32 - Int32.ofInt 1) ∨ (l.toInt < 0 ∧ (¬ tk_now ts s1 = (Int8.ofInt 32).toInt32 ∨ ¬ (1 ≤ (tk_name ts s1.1).toInt ∧ (tk_name ts s1.1).toInt ≤ 6)))
def dm_h484 (t : Nat → Int32) (ts : List wt_t) (n : Nat) (s1 S3 : wt_q) (T : wv_T) (N : Nat) (I : Nat → Nat → Int32) (L : Nat → Nat → Int64) (R : Nat → Nat → Option Nat) : Nat → Option (Nat → wv_P) := fun pc =>
  if pc = 57 then some (fun m lv st T1 N1 I1 L1 R1 nc ns => ∃ l : Int32, m = 9 ∧ lv = [some (.ref 460), some (.int l), none, none] ∧ st = [] ∧ T1 = T ∧ N1 = N ∧ L1 = L ∧ R1 = R ∧ nc = 0 ∧ ns = 0 ∧ dm_Z t ts n s1 I1 ∧ dm_F I I1 ∧ dm_sgl ts s1 l)
  else if pc = 76 then some (fun m lv st T1 N1 I1 L1 R1 nc ns => ∃ (l : Int32) (s2 : wt_q), m = 8 ∧ lv = [some (.ref 460), some (.int l), none, none] ∧ st = [] ∧ T1 = T ∧ N1 = N ∧ L1 = L ∧ R1 = R ∧ nc = 0 ∧ ns = 0 ∧ dm_Z t ts n s2 I1 ∧ dm_F I I1 ∧ tk_take ts n (Int8.ofInt 32).toInt32 s2 = S3 ∧ (s2.2 = none → (1 ≤ (tk_name ts s1.1).toInt ∧ (tk_name ts s1.1).toInt ≤ 6) ∧ l = (tk_name ts s1.1).toInt32 - Int32.ofInt 1))
  else none
def dm_c484 : wv_c1 := fun as T N I L R q => ∃ (t : Nat → Int32) (ts : List wt_t) (n : Nat) (nm : ds_n) (A B : Nat) (x : ds_q), as = [.ref 460] ∧ dm_W0 T t ts n nm A B x I ∧ tk_now ts x.1 = (Int8.ofInt 36).toInt32 ∧ ∀ v x2 I1, dm_Z t ts n x2.1 I1 → dm_G I1 A B x2.2 → dm_XF 534 I I1 → x2.1.2 = (dm_E ts n nm A B (ds_s3 ts n (ds_s2 ts n A B nm x.1), x.2)).2.1.2 → (x2.1.2 = none → (v, x2) = dm_E ts n nm A B (ds_s3 ts n (ds_s2 ts n A B nm x.1), x.2) ∧ ds_lp v ∧ ∀ j, I1 534 j = ds_up (fun j => I 534 j) (((tk_name ts (tk_adv ts x.1).1).toInt32 - Int32.ofInt 1).toNatClampNeg) v j) → q (.inl none) T N I1 L R 0 0
set_option maxRecDepth 100000 in
theorem wM_484 : ∃ cb ci np, pt_mt 484 = some (32, cb, 3, false, none, ci, np) := ⟨_, _, _, rfl⟩
set_option maxRecDepth 100000 in
set_option maxHeartbeats 4000000 in
theorem dm_signalStatement {sc : pt_Sc} {d : Nat} : wv_C wm_fx sc (d + 1 + 1 + 1 + 1 + 1 + 1 + 1) 484 dm_c484 := by
  rintro as T N I L R q ⟨t, ts, n, nm, A, B, x, rfl, ⟨hT, hY, hTs, hA, hB, hZ, hs, hG, hN, h1p, hl, hlp⟩, hk, h⟩ w0 HR
  obtain ⟨cb, ci, np, hm⟩ := wM_484
  obtain ⟨s1, hs1⟩ : ∃ y, tk_adv ts x.1 = y := ⟨_, rfl⟩
  have hn1 : s1.2 = none := by rw [← hs1, tk_adv_1 hZ hs]
  have ht1 : tk_take ts n (Int8.ofInt 36).toInt32 x.1 = s1 := by unfold tk_take; rw [if_pos hk]; exact hs1
  unfold ds_s3 at h
  obtain ⟨S2, hS2⟩ : ∃ y, ds_s2 ts n A B nm x.1 = y := ⟨_, rfl⟩
  rw [hS2] at h
  obtain ⟨S3, hS3⟩ : ∃ y, tk_take ts n (Int8.ofInt 32).toInt32 S2 = y := ⟨_, rfl⟩
  rw [hS3] at h
  obtain ⟨S4, hS4⟩ : ∃ y, tk_take ts n (Int8.ofInt 37).toInt32 S3 = y := ⟨_, rfl⟩
  rw [hS4, hs1] at h
  have hl1 : 1 ≤ s1.1 := by rw [← hs1]; exact Nat.le_trans h1p tk_adv_le
  have hbad : (¬ tk_now ts s1 = (Int8.ofInt 32).toInt32 ∨ ¬ ds_fit A B (tk_now ts x.1) (ds_ix nm (tk_name ts s1.1)) (tk_name ts s1.1) = true) → S3 = (s1.1, some (tk_place ts n s1.1)) := fun z => by
    rw [← hS3, ← hS2]
    exact ds_s2_t hs1 hn1 z
  have hok : ds_fit A B (tk_now ts x.1) (ds_ix nm (tk_name ts s1.1)) (tk_name ts s1.1) = true → tk_take ts n (Int8.ofInt 32).toInt32 s1 = S3 := fun z => by
    rw [← hS3, ← hS2, ds_s2_ok hs1 z]
  have hl4 : 1 ≤ S4.1 := by
    have a0 : s1.1 ≤ S2.1 := by
      rw [← hS2]
      unfold ds_s2
      rw [hs1]
      split
      · exact Nat.le_refl _
      · rw [tk_ref_n hn1]
        exact Nat.le_refl _
    have a1 : S2.1 ≤ S3.1 := by rw [← hS3]; exact tk_take_le
    have a2 : S3.1 ≤ S4.1 := by rw [← hS4]; exact tk_take_le
    omega

  have hbad2 : (¬ tk_now ts s1 = (Int8.ofInt 32).toInt32 ∨ ¬ (1 ≤ (tk_name ts s1.1).toInt ∧ (tk_name ts s1.1).toInt ≤ 6)) → S3 = (s1.1, some (tk_place ts n s1.1)) := fun z => hbad (by rw [hk, ds_fit_36]; exact z)
  have hok2 : (1 ≤ (tk_name ts s1.1).toInt ∧ (tk_name ts s1.1).toInt ≤ 6) → tk_take ts n (Int8.ofInt 32).toInt32 s1 = S3 := fun z => hok (by rw [hk, ds_fit_36]; exact z)
  have hc469 : wv_C wm_fx sc (d + 1 + 1 + 1 + 1 + 1 + 1) 469 dm_c469 := wv_C_deep (by omega) (dm_take (d := d))
  have hc349 : wv_C wm_fx sc (d + 1 + 1 + 1 + 1 + 1 + 1) 349 wp_c349 := wv_C_deep (by omega) (wp_at (d := d))
  have hc358 : wv_C wm_fx sc (d + 1 + 1 + 1 + 1 + 1 + 1) 358 wp_c358 := wv_C_deep (by omega) (wp_badC (d := d))
  have hc474 : wv_C wm_fx sc (d + 1 + 1 + 1 + 1 + 1 + 1) 474 dm_c474 := wv_C_deep (by omega) (dm_expression (d := d))
  refine wv_meth (hh := none) rfl (sp := wv_sp [(469, dm_c469), (349, wp_c349), (358, wp_c358), (474, dm_c474)]) (hd := dm_h484 t ts n s1 S3 T N I L R) (n := 300) (n1 := 300) hm zc_484 rfl (wv_sp_ok (fun q hq => by
    rcases List.mem_cons.mp hq with h | h
    · rw [h]; exact hc469
    rcases List.mem_cons.mp h with h | h
    · rw [h]; exact hc349
    rcases List.mem_cons.mp h with h | h
    · rw [h]; exact hc358
    rw [List.mem_singleton.mp h]; exact hc474)) ?_ ?_ HR
  · refine ⟨t, ts, n, x.1, _, _, rfl, hY, hTs, hZ, ds_kc_36, by decide, by decide, by decide, fun I2 z2 F2 => ?_⟩
    rw [ht1] at z2
    obtain ⟨k4, kp, k3, kv, _⟩ := dm_tokZ hTs z2 hn1
    refine ⟨fun w => ?_, fun w => ?_⟩
    · exact ⟨9, _, rfl, rfl, rfl, rfl, rfl, rfl, rfl, rfl, rfl, z2, F2, Or.inr ⟨by decide, Or.inl (fun z => w (by rw [k3]; exact (ds_kc_32 _ kv).mpr z))⟩⟩
    have h32 : tk_now ts s1 = (Int8.ofInt 32).toInt32 := (ds_kc_32 _ kv).mp (by rw [← k3]; exact Decidable.not_not.mp w)
    have hZ2 := z2
    unfold dm_Z at hZ2
    rw [hn1] at hZ2
    obtain ⟨i8, xx, l, e, hd, htk, i3, i4, i5⟩ := hZ2
    obtain ⟨hta, htd⟩ := tk_drop hd
    have hx32 : xx.1 = (Int8.ofInt 32).toInt32 := by rw [← tk_now_at hn1 hta]; exact h32
    obtain ⟨c1, c2, c3⟩ := htk.2.2.2.1 hx32
    have c0 := (htk.2.2.1 (by rw [hx32]; decide) (by rw [hx32]; decide)).2
    have cn := htk.2.1
    have hn4 := hTs.2
    have hnm : tk_name ts s1.1 = ds_nm t xx.2.1 (e - xx.2.1) := by unfold tk_name; rw [hta]; exact c1
    obtain ⟨d1, d2⟩ := dn_sig (t := t) (p := xx.2.1) (z := e - xx.2.1) (by omega) c2 (fun j hj => c3 _ (by omega) (by omega))
    rw [← hnm] at d1 d2
    have hsub : (I2 460 5 - I2 460 4).toInt = (e - xx.2.1 : Nat) := by
      rw [i4, i5, wi_sub, wi_on (by omega), wi_on (by omega), wr_id (by omega) (by omega)]
      omega
    have e1 : (Int32.ofInt 1).toInt = 1 := rfl
    have e97 : ((Int8.ofInt 97).toInt32).toInt = 97 := rfl
    have e102 : ((Int8.ofInt 102).toInt32).toInt = 102 := rfl
    refine ⟨fun w1 => ?_, fun w1 => ?_⟩
    · rw [wi_eq, hsub, e1] at w1
      exact ⟨9, _, rfl, rfl, rfl, rfl, rfl, rfl, rfl, rfl, rfl, z2, F2, Or.inr ⟨by decide, Or.inr (fun z => by have := d1.mp z; omega)⟩⟩
    have w1 : e - xx.2.1 = 1 := by
      have := Decidable.not_not.mp w1
      rw [wi_eq, hsub, e1] at this
      omega
    have hY2 := wp_Y_dF hY F2
    have em : wt_m I2 xx.2.1 = t xx.2.1 := by rw [hY2.2.1]
    have htp := of_decide_eq_true (c3 xx.2.1 (Nat.le_refl _) (by omega))
    refine ⟨xx.2.1, congrArg (fun x => [Value.ref 460, Value.int x]) i4, by omega, hY2.1, ?_⟩
    rw [em]
    refine ⟨fun w2 => ?_, fun w2 => ?_⟩
    · rw [wi_lt, e102] at w2
      exact ⟨9, _, rfl, rfl, rfl, rfl, rfl, rfl, rfl, rfl, rfl, z2, F2, Or.inr ⟨by decide, Or.inr (fun z => by have := d1.mp z; omega)⟩⟩
    rw [wi_lt, e102] at w2
    refine ⟨xx.2.1, congrArg (fun x => [Value.ref 460, Value.int x]) i4, by omega, hY2.1, ?_⟩
    rw [em]
    have hc := d2 w1
    have el : (t xx.2.1 - (Int8.ofInt 97).toInt32).toInt = (t xx.2.1).toInt - 97 := by rw [wi_sub, e97, wr_id (by omega) (by omega)]
    refine ⟨9, _, rfl, rfl, rfl, rfl, rfl, rfl, rfl, rfl, rfl, z2, F2, Or.inl ⟨by rw [el]; omega, h32, d1.mpr ⟨w1, by omega⟩, ?_⟩⟩
    apply wi_eq.mpr
    rw [el, wi_sub, ds_l2i (by omega), e1, wr_id (by omega) (by omega)]
    omega
  · intro pc P hP m lv st T1 N1 I1 L1 R1 nc ns hh
    unfold dm_h484 at hP
    split at hP
    · cases hP
      rename_i hpc
      subst hpc
      obtain ⟨l, rfl, rfl, rfl, rfl, rfl, rfl, rfl, rfl, rfl, z2, F2, hsg⟩ := hh
      have h8 := dm_Z_8 z2
      refine ⟨fun w => (h8.mp w hn1).elim, fun _ => ?_⟩
      obtain ⟨k4, kp, k3, kv, _⟩ := dm_tokZ hTs z2 hn1
      refine ⟨fun w => ?_, fun w => ?_⟩
      · rw [wi_le, wi_0] at w
        rcases hsg with ⟨g1, g2, g3, g4⟩ | ⟨g1, _⟩
        · exact ⟨8, by omega, l, s1, rfl, rfl, rfl, rfl, rfl, rfl, rfl, rfl, rfl, z2, F2, hok2 g3, fun _ => ⟨g3, g4⟩⟩
        · omega
      · rw [wi_le, wi_0] at w
        rcases hsg with ⟨g1, _⟩ | ⟨g1, g2⟩
        · omega
        · refine ⟨_, rfl, ?_⟩
          refine ⟨8, by omega, l, (s1.1, some (tk_place ts n s1.1)), rfl, rfl, rfl, rfl, rfl, rfl, rfl, rfl, rfl, ?_, dm_F_tr F2 dm_F_bad, ?_, fun w => by cases w⟩
          · rw [k4, ← tk_ref_n (ts := ts) (n := n) hn1]
            exact dm_Z_bad z2 kp
          · rw [tk_take_some (s := (s1.1, some (tk_place ts n s1.1))) rfl (by decide)]
            exact (hbad2 g2).symm
    · split at hP
      · cases hP
        rename_i hpc0 hpc
        subst hpc
        obtain ⟨l, s2, rfl, rfl, rfl, rfl, rfl, rfl, rfl, rfl, rfl, z2, F2, e2, r2⟩ := hh
        refine ⟨t, ts, n, s2, _, _, rfl, wp_Y_dF hY F2, hTs, z2, ds_kc_32, by decide, by decide, by decide, fun I3 z3 f3 => ?_⟩
        rw [e2] at z3
        have F3 := dm_F_tr F2 f3
        refine ⟨t, ts, n, S3, _, _, rfl, wp_Y_dF hY F3, hTs, z3, ds_kc_37, by decide, by decide, by decide, fun I4 z4 f4 => ?_⟩
        rw [hS4] at z4
        have F4 := dm_F_tr F3 f4
        have hG4 : dm_G I4 A B x.2 := dm_G_dF hG F4
        have hN4 := dm_N_dF hN F4
        refine ⟨t, ts, n, nm, A, B, (S4, x.2), rfl, hT, wp_Y_dF hY F4, hTs, hA, hB, z4, hG4, hN4, fun _ => hl4, hl, hlp, fun v x2 I5 z5 g5 f5 e5 c5 => ?_⟩
        have F5 : ∀ c j, ¬ (c = 460 ∧ (j = 3 ∨ j = 4 ∨ j = 5 ∨ j = 8 ∨ j = 103 ∨ (110 ≤ j ∧ j ≤ 116))) → ¬ (c = 530 ∨ c = 531 ∨ c = 535) → I5 c j = I c j := fun c j a b => by rw [f5 c j (by omega) (by omega), F4 c j (by omega)]
        have h85 := dm_Z_8 z5
        by_cases hn5 : x2.1.2 = none
        rotate_left
        · refine ⟨fun _ => ?_, fun w => (w (h85.mpr hn5)).elim⟩
          exact h v x2 I5 z5 g5 (fun c j a b => F5 c j (by omega) (by omega)) e5 (fun w => (hn5 w).elim)
        refine ⟨fun w => (h85.mp w hn5).elim, fun _ => ?_⟩
        obtain ⟨y1, y2⟩ := c5 hn5
        have hn4 : S4.2 = none := dm_E_none (x := (S4, x.2)) (by rw [← e5]; exact hn5)
        have hn3 : S3.2 = none := (tk_take_none (by rw [hS4]; exact hn4)).1
        obtain ⟨hn2, hnow2, _⟩ := tk_take_none (show (tk_take ts n (Int8.ofInt 32).toInt32 s2).2 = none by rw [e2]; exact hn3)
        obtain ⟨r3, r4⟩ := r2 hn2
        have e1 : (Int32.ofInt 1).toInt = 1 := rfl
        have el : l.toInt = (tk_name ts s1.1).toInt - 1 := by rw [r4, wi_sub, ds_l2i (by omega), e1, wr_id (by omega) (by omega)]
        refine ⟨_, wm_t hT rfl, ⟨by rw [wi_le, wi_0, el]; omega, by rw [el]; omega⟩, by decide, ?_⟩
        have hX : ∀ a, a = ((tk_name ts s1.1).toInt32 - Int32.ofInt 1).toNatClampNeg → q (.inl none) T1 N1 (wv_u I5 534 a v) L1 R1 0 0 := by
          intro a ha
          refine h v x2 _ (dm_Z_u z5 (fun j hj => wv_u_no _ _ (by omega))) (dm_G_F g5 (fun j hj => wv_u_no _ _ (by omega)) (fun c j hc => wv_u_no _ _ (by omega))) (fun c j a b => by rw [wv_u_no _ _ (by omega)]; exact F5 c j (by omega) (by omega)) e5 (fun _ => ⟨y1, y2, fun j => ?_⟩)
          rw [← ha]
          show _ = (if j = a then v else I 534 j)
          by_cases e : j = a
          · rw [if_pos e, e, wv_u_at]
          · rw [if_neg e, wv_u_no _ _ (by omega)]
            exact F5 _ _ (by omega) (by omega)
        exact hX _ (by rw [r4])
      · cases hP
