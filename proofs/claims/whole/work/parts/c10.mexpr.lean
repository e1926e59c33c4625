/-! ===== the reference: a parenthesis closed, a part ended ===== -/
/-- registers that another parenthesis left -/
theorem dm_pop {J I : Nat → Nat → Int32} {fr : List dm_r} {f : dm_r} (h : dm_L I (f :: fr)) (h0 : J 460 110 = Int32.ofNat (6 * fr.length)) (hJ : ∀ j, J 535 j = I 535 j) : dm_L J fr := by
  obtain ⟨l1, l2, l3⟩ := h
  have el : (f :: fr).length = fr.length + 1 := rfl
  rw [el] at l2
  refine ⟨h0, by omega, fun i g hg => ?_⟩
  have := l3 (i + 1) g hg
  rw [el, show fr.length + 1 - 1 - (i + 1) = fr.length - 1 - i by omega] at this
  rw [hJ, hJ, hJ, hJ, hJ, hJ]
  exact this
def dm_cls (A B : Nat) (x : ds_q) (r f : dm_r) : ds_q × dm_r := if x.1.2 = none then dm_fac A B r.1 x f else (x, f)
def dm_c482 : wv_c1 := fun as T N I L R q => ∃ (t : Nat → Int32) (ts : List wt_t) (n : Nat) (nm : ds_n) (A B : Nat) (x : ds_q) (r : dm_r) (f : dm_r) (fr : List dm_r), as = [.ref 460] ∧ dm_M T t ts n nm A B (x, r, f :: fr) I ∧ dm_tn f ∧ (¬ f.2.2.2.1 < 0 → dm_ok f.2.2.2.2.1) ∧ ∀ I1, dm_M T t ts n nm A B ((dm_cls A B x r f).1, (dm_cls A B x r f).2, fr) I1 → dm_MF I I1 → q (.inl none) T N I1 L R 0 0
set_option maxRecDepth 100000 in
theorem wM_482 : ∃ cb ci np, pt_mt 482 = some (32, cb, 2, false, none, ci, np) := ⟨_, _, _, rfl⟩
set_option maxRecDepth 100000 in
set_option maxHeartbeats 2000000 in
theorem dm_close {sc : pt_Sc} {d : Nat} : wv_C wm_fx sc (d + 1 + 1 + 1 + 1) 482 dm_c482 := by
  rintro as T N I L R q ⟨t, ts, n, nm, A, B, x, r, f, fr, rfl, hM, htn, hok, h⟩ w0 HR
  obtain ⟨cb, ci, np, hm⟩ := wM_482
  have hc477 : wv_C wm_fx sc (d + 1 + 1 + 1) 477 dm_c477 := wv_C_deep (by omega) (dm_factor (d := d))
  refine wv_meth (hh := none) rfl (sp := wv_sp [(477, dm_c477)]) (hd := fun _ => none) (n := 0) (n1 := 300) hm zc_482 rfl (wv_sp_ok (fun q hq => by rw [List.mem_singleton.mp hq]; exact hc477)) ?_ (fun pc P h => by cases h) HR
  have hT := hM.1
  have hM0 := hM
  obtain ⟨m1, m2, m3, m4, m5, m6, m7, ⟨r1, r2, r3, r4, r5, r6⟩, hL, m10⟩ := hM
  have hL : dm_L I (f :: fr) := hL
  obtain ⟨l1, l2, l3⟩ := hL
  have hl : fr.length ≤ 20 := by
    have : (f :: fr).length = fr.length + 1 := rfl
    omega
  obtain ⟨k, hk⟩ : ∃ k, k = 6 * fr.length := ⟨_, rfl⟩
  have f0 := l3 0 f rfl
  rw [show 6 * ((f :: fr).length - 1 - 0) = k by rw [hk]; rfl] at f0
  obtain ⟨f1, f2, f3, f4, f5, f6⟩ := f0
  have e6 : ((Int8.ofInt 6).toInt32) = Int32.ofNat 6 := rfl
  have n110 : I 460 110 - (Int8.ofInt 6).toInt32 = Int32.ofNat k := by
    have l1 : I 460 110 = Int32.ofNat (6 * (fr.length + 1)) := l1
    rw [l1, e6]
    apply wi_eq.mpr
    rw [wi_sub, wi_on (by omega), wi_on (by omega), wi_on (by omega), wr_id (by omega) (by omega)]
    omega
  -- reading the pile
  have pl : ∀ (J : Nat → Nat → Int32) (o : Nat), J 460 110 = Int32.ofNat k → o ≤ 5 → (J 460 110 + Int32.ofNat o).toNatClampNeg = k + o ∧ (0 ≤ J 460 110 + Int32.ofNat o ∧ (J 460 110 + Int32.ofNat o).toInt < (2400 : Nat)) := by
    intro J o hJ ho
    rw [hJ, wi_ona]
    exact ⟨wi_onn (by omega), by rw [wi_le, wi_0, wi_on (by omega)]; omega, by rw [wi_on (by omega)]; omega⟩
  have p0 : ∀ (J : Nat → Nat → Int32), J 460 110 = Int32.ofNat k → (J 460 110).toNatClampNeg = k ∧ (0 ≤ J 460 110 ∧ (J 460 110).toInt < (2400 : Nat)) := by
    intro J hJ
    rw [hJ]
    exact ⟨wi_onn (by omega), by rw [wi_le, wi_0, wi_on (by omega)]; omega, by rw [wi_on (by omega)]; omega⟩
  have u : ∀ (J : Nat → Nat → Int32) a b j, wv_u J 460 a b 535 j = J 535 j := fun J a b j => wv_u_no _ _ (by omega)
  have d0 : wv_u I 460 110 (I 460 110 - (Int8.ofInt 6).toInt32) 460 110 = Int32.ofNat k := by rw [wv_u_at]; exact n110
  have g0 : ∀ j, wv_u I 460 110 (I 460 110 - (Int8.ofInt 6).toInt32) 535 j = I 535 j := fun j => u _ _ _ _
  have c0 : ∀ c j, ¬ (c = 460 ∧ 110 ≤ j ∧ j ≤ 116) → wv_u I 460 110 (I 460 110 - (Int8.ofInt 6).toInt32) c j = I c j := fun c j hc => wv_u_no _ _ (by omega)
  refine ⟨_, wm_t hT rfl, (p0 _ d0).2, ?_⟩
  rw [(p0 _ d0).1]
  generalize wv_u I 460 110 (I 460 110 - (Int8.ofInt 6).toInt32) = J0 at d0 g0 c0 ⊢
  have d1 : ∀ v, wv_u J0 460 111 v 460 110 = Int32.ofNat k := fun v => by rw [wv_u_no _ _ (by omega)]; exact d0
  refine ⟨_, wm_t hT rfl, (pl _ 1 (d1 _) (by omega)).2, ?_⟩
  have z1 : ∀ v, (wv_u J0 460 111 v 460 110 + Int32.ofInt 1).toNatClampNeg = k + 1 := fun v => (pl _ 1 (d1 v) (by omega)).1
  rw [z1, u]
  have d2 : ∀ v w, wv_u (wv_u J0 460 111 v) 460 112 w 460 110 = Int32.ofNat k := fun v w => by rw [wv_u_no _ _ (by omega)]; exact d1 v
  refine ⟨_, wm_t hT rfl, (pl _ 2 (d2 _ _) (by omega)).2, ?_⟩
  have z2 : ∀ v w, (wv_u (wv_u J0 460 111 v) 460 112 w 460 110 + Int32.ofInt 2).toNatClampNeg = k + 2 := fun v w => (pl _ 2 (d2 v w) (by omega)).1
  rw [z2, u, u]
  have d3 : ∀ v w a, wv_u (wv_u (wv_u J0 460 111 v) 460 112 w) 460 113 a 460 110 = Int32.ofNat k := fun v w a => by rw [wv_u_no _ _ (by omega)]; exact d2 v w
  refine ⟨_, wm_t hT rfl, (pl _ 3 (d3 _ _ _) (by omega)).2, ?_⟩
  have z3 : ∀ v w a, (wv_u (wv_u (wv_u J0 460 111 v) 460 112 w) 460 113 a 460 110 + Int32.ofInt 3).toNatClampNeg = k + 3 := fun v w a => (pl _ 3 (d3 v w a) (by omega)).1
  rw [z3, u, u, u]
  have d4 : ∀ v w a b, wv_u (wv_u (wv_u (wv_u J0 460 111 v) 460 112 w) 460 113 a) 460 114 b 460 110 = Int32.ofNat k := fun v w a b => by rw [wv_u_no _ _ (by omega)]; exact d3 v w a
  refine ⟨_, wm_t hT rfl, (pl _ 4 (d4 _ _ _ _) (by omega)).2, ?_⟩
  have z4 : ∀ v w a b, (wv_u (wv_u (wv_u (wv_u J0 460 111 v) 460 112 w) 460 113 a) 460 114 b 460 110 + Int32.ofInt 4).toNatClampNeg = k + 4 := fun v w a b => (pl _ 4 (d4 v w a b) (by omega)).1
  rw [z4, u, u, u, u]
  have d5 : ∀ v w a b c, wv_u (wv_u (wv_u (wv_u (wv_u J0 460 111 v) 460 112 w) 460 113 a) 460 114 b) 460 115 c 460 110 = Int32.ofNat k := fun v w a b c => by rw [wv_u_no _ _ (by omega)]; exact d4 v w a b
  refine ⟨_, wm_t hT rfl, (pl _ 5 (d5 _ _ _ _ _) (by omega)).2, ?_⟩
  have z5 : ∀ v w a b c, (wv_u (wv_u (wv_u (wv_u (wv_u J0 460 111 v) 460 112 w) 460 113 a) 460 114 b) 460 115 c 460 110 + Int32.ofInt 5).toNatClampNeg = k + 5 := fun v w a b c => (pl _ 5 (d5 v w a b c) (by omega)).1
  rw [z5, u, u, u, u, u, g0, g0, g0, g0, g0, g0, f1, f2, f3, f4, f5, f6]
  -- the registers are those of f
  have fin : ∀ v : Int32, v = f.2.2.2.2.2 → dm_M T t ts n nm A B (x, f, fr) (wv_u (wv_u (wv_u (wv_u (wv_u (wv_u J0 460 111 f.1) 460 112 f.2.1) 460 113 f.2.2.1) 460 114 f.2.2.2.1) 460 115 f.2.2.2.2.1) 460 116 v) ∧ dm_MF I (wv_u (wv_u (wv_u (wv_u (wv_u (wv_u J0 460 111 f.1) 460 112 f.2.1) 460 113 f.2.2.1) 460 114 f.2.2.2.1) 460 115 f.2.2.2.2.1) 460 116 v) := by
    intro v hv
    have cc : ∀ c j, ¬ (c = 460 ∧ 110 ≤ j ∧ j ≤ 116) → wv_u (wv_u (wv_u (wv_u (wv_u (wv_u J0 460 111 f.1) 460 112 f.2.1) 460 113 f.2.2.1) 460 114 f.2.2.2.1) 460 115 f.2.2.2.2.1) 460 116 v c j = I c j := fun c j hc => by
      rw [wv_u_no _ _ (by omega), wv_u_no _ _ (by omega), wv_u_no _ _ (by omega), wv_u_no _ _ (by omega), wv_u_no _ _ (by omega), wv_u_no _ _ (by omega)]
      exact c0 c j hc
    refine ⟨⟨m1, wp_Y_D m2 (cc _ _ (by omega)) (fun k => cc _ _ (by omega)), m3, m4, m5, dm_Z_u m6 (fun j hj => cc _ _ (by omega)), dm_G_F m7 (fun j hj => cc _ _ (by omega)) (fun c j hc => cc _ _ (by omega)), ⟨?_, ?_, ?_, ?_, ?_, ?_⟩, dm_pop ⟨l1, l2, l3⟩ ?_ (fun j => cc _ _ (by omega)), dm_N_F m10 (cc _ _ (by omega)) (fun c j hc => cc _ _ (by omega))⟩, fun c j a b => cc c j (by omega)⟩
    · rw [wv_u_no _ _ (by omega), wv_u_no _ _ (by omega), wv_u_no _ _ (by omega), wv_u_no _ _ (by omega), wv_u_no _ _ (by omega), wv_u_at]
    · rw [wv_u_no _ _ (by omega), wv_u_no _ _ (by omega), wv_u_no _ _ (by omega), wv_u_no _ _ (by omega), wv_u_at]
    · rw [wv_u_no _ _ (by omega), wv_u_no _ _ (by omega), wv_u_no _ _ (by omega), wv_u_at]
    · rw [wv_u_no _ _ (by omega), wv_u_no _ _ (by omega), wv_u_at]
    · rw [wv_u_no _ _ (by omega), wv_u_at]
    · rw [wv_u_at]; exact hv
    · rw [wv_u_no _ _ (by omega), d5, hk]
  unfold dm_cls at h
  have tail : ∀ v : Int32, v = f.2.2.2.2.2 → ∀ K, K = wv_u (wv_u (wv_u (wv_u (wv_u (wv_u J0 460 111 f.1) 460 112 f.2.1) 460 113 f.2.2.1) 460 114 f.2.2.2.1) 460 115 f.2.2.2.2.1) 460 116 v → dm_M T t ts n nm A B (x, f, fr) K ∧ dm_MF I K ∧ (0 ≤ K 460 8 ↔ ¬ x.1.2 = none) := by
    intro v hv K hK
    obtain ⟨a1, a2⟩ := fin v hv
    rw [← hK] at a1 a2
    exact ⟨a1, a2, dm_Z_8 a1.2.2.2.2.2.1⟩
  have go : ∀ K, dm_M T t ts n nm A B (x, f, fr) K → dm_MF I K → (0 ≤ K 460 8 ↔ ¬ x.1.2 = none) → (0 ≤ K 460 8 → q (.inl none) T N K L R 0 0) ∧ (¬ 0 ≤ K 460 8 → ∀ I1, dm_M T t ts n nm A B ((dm_fac A B r.1 x f).1, (dm_fac A B r.1 x f).2, fr) I1 → dm_MF K I1 → q (.inl none) T N I1 L R 0 0) := by
    intro K a1 a2 a3
    refine ⟨fun b => ?_, fun b I1 c1 c2 => ?_⟩
    · rw [if_neg (a3.mp b)] at h
      exact h K a1 a2
    · have hn : x.1.2 = none := by
        by_cases z : x.1.2 = none
        · exact z
        · exact (b (a3.mpr z)).elim
      rw [if_pos hn] at h
      exact h I1 c1 (dm_MF_tr a2 c2)
  rw [r1]
  refine ⟨fun w => ?_, fun w => ?_⟩
  · have hv : Int32.ofInt 0 = f.2.2.2.2.2 := (htn.resolve_right w).symm
    obtain ⟨a1, a2, a3⟩ := tail (Int32.ofInt 0) hv _ rfl
    obtain ⟨b1, b2⟩ := go _ a1 a2 a3
    refine ⟨⟨rfl, rfl⟩, fun z => b1 z, fun z => ?_⟩
    exact ⟨t, ts, n, nm, A, B, x, f, fr, r.1, rfl, a1, hok, fun I1 c1 c2 => b2 z I1 c1 c2⟩
  · have hv : Int32.ofInt 1 = f.2.2.2.2.2 := (Decidable.not_not.mp w).symm
    obtain ⟨a1, a2, a3⟩ := tail (Int32.ofInt 1) hv _ rfl
    obtain ⟨b1, b2⟩ := go _ a1 a2 a3
    refine ⟨⟨rfl, rfl⟩, fun z => b1 z, fun z => ?_⟩
    exact ⟨t, ts, n, nm, A, B, x, f, fr, r.1, rfl, a1, hok, fun I1 c1 c2 => b2 z I1 c1 c2⟩
