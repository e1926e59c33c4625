/-! ===== the reference: a wire ===== -/
def dm_W0 (T : wv_T) (t : Nat → Int32) (ts : List wt_t) (n : Nat) (nm : ds_n) (A B : Nat) (x : ds_q) (I : Nat → Nat → Int32) : Prop := wm_T T ∧ wp_Y T I t n ∧ dm_T t ts n ∧ A ≤ 3 ∧ B ≤ 5 ∧ dm_Z t ts n x.1 I ∧ x.1.2 = none ∧ dm_G I A B x.2 ∧ dm_N t n nm I ∧ 1 ≤ x.1.1 ∧ ts.length ≤ 401 ∧ ∀ y, y ∈ nm → ds_lp y.2
def dm_WF (I I1 : Nat → Nat → Int32) : Prop := ∀ c j, ¬ (c = 460 ∧ (j = 3 ∨ j = 4 ∨ j = 5 ∨ j = 8 ∨ j = 100 ∨ j = 103 ∨ (110 ≤ j ∧ j ≤ 116))) → ¬ (527 ≤ c ∧ c ≤ 531 ∨ c = 535) → I1 c j = I c j
theorem ds_nn_le {ts : List wt_t} {n : Nat} {nm : ds_n} {s : wt_q} : s.1 ≤ (ds_nn ts n nm s).2.1 := by
  show s.1 ≤ (tk_take ts n (Int8.ofInt 32).toInt32 (if ds_ix nm (tk_name ts s.1) = none then s else tk_ref ts n s)).1
  refine Nat.le_trans ?_ tk_take_le
  split
  · exact Nat.le_refl _
  · unfold tk_ref tk_refAt
    split <;> exact Nat.le_refl _
def dm_wir (ts : List wt_t) (n : Nat) (nm : ds_n) (s : wt_q) : wt_q := tk_take ts n (Int8.ofInt 37).toInt32 (ds_nn ts n nm (tk_take ts n (Int8.ofInt 35).toInt32 s)).2
theorem tk_take_n2 {ts : List wt_t} {n : Nat} {k : Int32} {s : wt_q} (h : (tk_take ts n k s).2 = none) (hk : ¬ k = Int32.ofInt 2) : s.2 = none := by
  cases hq : s.2 with
  | none => rfl
  | some z =>
    rw [tk_take_some hq hk, hq] at h
    cases h
theorem ds_nn_none {ts : List wt_t} {n : Nat} {nm : ds_n} {s : wt_q} (h : (ds_nn ts n nm s).2.2 = none) : s.2 = none := by
  cases hq : s.2 with
  | none => rfl
  | some z =>
    rw [ds_nn_some hq, hq] at h
    cases h
theorem dm_E_none {ts : List wt_t} {n : Nat} {nm : ds_n} {A B : Nat} {x : ds_q} (h : (dm_E ts n nm A B x).2.1.2 = none) : x.1.2 = none := by
  cases hq : x.1.2 with
  | none => rfl
  | some z =>
    rw [dm_E_some hq] at h
    cases h
def dm_c473 : wv_c1 := fun as T N I L R q => ∃ (t : Nat → Int32) (ts : List wt_t) (n : Nat) (nm : ds_n) (A B : Nat) (x : ds_q), as = [.ref 460] ∧ dm_W0 T t ts n nm A B x I ∧ nm.length < 60 ∧ ∀ v x2 I1, dm_Z t ts n x2.1 I1 → dm_G I1 A B x2.2 → dm_WF I I1 → x2.1.2 = (dm_E ts n nm A B (dm_wir ts n nm x.1, x.2)).2.1.2 → (x2.1.2 = none → (v, x2) = dm_E ts n nm A B (dm_wir ts n nm x.1, x.2) ∧ ds_lp v ∧ dm_N t n (nm ++ [((ds_nn ts n nm (tk_take ts n (Int8.ofInt 35).toInt32 x.1)).1, v)]) I1) → q (.inl none) T N I1 L R 0 0
set_option maxRecDepth 100000 in
theorem wM_473 : ∃ cb ci np, pt_mt 473 = some (32, cb, 2, false, none, ci, np) := ⟨_, _, _, rfl⟩
set_option maxRecDepth 100000 in
set_option maxHeartbeats 4000000 in
theorem dm_wireStatement {sc : pt_Sc} {d : Nat} : wv_C wm_fx sc (d + 1 + 1 + 1 + 1 + 1 + 1 + 1) 473 dm_c473 := by
  rintro as T N I L R q ⟨t, ts, n, nm, A, B, x, rfl, ⟨hT, hY, hTs, hA, hB, hZ, hs, hG, hN, h1p, hl, hlp⟩, hnl, h⟩ w0 HR
  obtain ⟨cb, ci, np, hm⟩ := wM_473
  unfold dm_wir at h
  obtain ⟨s1, hs1⟩ : ∃ y, tk_take ts n (Int8.ofInt 35).toInt32 x.1 = y := ⟨_, rfl⟩
  rw [hs1] at h
  obtain ⟨c2, s2, hs2⟩ : ∃ c y, ds_nn ts n nm s1 = (c, y) := ⟨_, _, rfl⟩
  rw [hs2] at h
  obtain ⟨s3, hs3⟩ : ∃ y, tk_take ts n (Int8.ofInt 37).toInt32 s2 = y := ⟨_, rfl⟩
  have h : ∀ v x2 I1, dm_Z t ts n x2.1 I1 → dm_G I1 A B x2.2 → dm_WF I I1 → x2.1.2 = (dm_E ts n nm A B (s3, x.2)).2.1.2 → (x2.1.2 = none → (v, x2) = dm_E ts n nm A B (s3, x.2) ∧ ds_lp v ∧ dm_N t n (nm ++ [(c2, v)]) I1) → q (.inl none) T N I1 L R 0 0 := by
    rw [← hs3]
    exact h
  have hc469 : wv_C wm_fx sc (d + 1 + 1 + 1 + 1 + 1 + 1) 469 dm_c469 := wv_C_deep (by omega) (dm_take (d := d))
  have hc470 : wv_C wm_fx sc (d + 1 + 1 + 1 + 1 + 1 + 1) 470 dm_c470 := wv_C_deep (by omega) (dm_newName (d := d))
  have hc474 : wv_C wm_fx sc (d + 1 + 1 + 1 + 1 + 1 + 1) 474 dm_c474 := wv_C_deep (by omega) (dm_expression (d := d))
  refine wv_meth (hh := none) rfl (sp := wv_sp [(469, dm_c469), (470, dm_c470), (474, dm_c474)]) (hd := fun _ => none) (n := 0) (n1 := 300) hm zc_473 rfl (wv_sp_ok (fun q hq => by
    rcases List.mem_cons.mp hq with h | h
    · rw [h]; exact hc469
    rcases List.mem_cons.mp h with h | h
    · rw [h]; exact hc470
    rw [List.mem_singleton.mp h]; exact hc474)) ?_ (fun pc P h => by cases h) HR
  refine ⟨t, ts, n, x.1, _, _, rfl, hY, hTs, hZ, ds_kc_35, by decide, by decide, by decide, fun I2 z2 F2 => ?_⟩
  rw [hs1] at z2
  refine ⟨t, ts, n, nm, s1, rfl, hT, wp_Y_dF hY F2, hTs, z2, dm_N_dF hN F2, fun I3 z3 f3 p3 => ?_⟩
  rw [hs2] at z3 p3
  have F3 := dm_NN_tr (dm_NN_F F2) f3
  refine ⟨t, ts, n, s2, _, _, rfl, wp_Y_NN hY F3, hTs, z3, ds_kc_37, by decide, by decide, by decide, fun I4 z4 f4 => ?_⟩
  rw [hs3] at z4
  have F4 := dm_NN_tr F3 (dm_NN_F f4)
  have hN4 := dm_N_NN hN F4
  have hG4 : dm_G I4 A B x.2 := dm_G_F hG (fun j hj => F4 _ _ (by omega) (by omega)) (fun c j hc => F4 _ _ (by omega) (by omega))
  have l1 : 1 ≤ s3.1 := by
    have a1 : x.1.1 ≤ s1.1 := by rw [← hs1]; exact tk_take_le
    have a2 : s1.1 ≤ s2.1 := by
      have := ds_nn_le (ts := ts) (n := n) (nm := nm) (s := s1)
      rw [hs2] at this
      exact this
    have a3 : s2.1 ≤ s3.1 := by rw [← hs3]; exact tk_take_le
    omega
  refine ⟨t, ts, n, nm, A, B, (s3, x.2), rfl, hT, wp_Y_NN hY F4, hTs, hA, hB, z4, hG4, hN4, fun _ => l1, hl, hlp, fun v x2 I5 z5 g5 f5 e5 c5 => ?_⟩
  have n1 := hN.1
  have j100 : I5 460 100 = Int32.ofNat nm.length := by rw [f5 _ _ (by omega) (by omega), F4 _ _ (by omega) (by omega)]; exact n1
  have el := wi_on (n := nm.length) (by omega)
  have en := wi_onn (n := nm.length) (by omega)
  have bd : 0 ≤ I5 460 100 ∧ (I5 460 100).toInt < (70 : Nat) := by rw [j100]; exact ⟨by rw [wi_le, el, wi_0]; omega, by rw [el]; omega⟩
  refine ⟨_, wm_t hT rfl, bd, by decide, ?_⟩
  have hX : ∀ J, J = wv_u (wv_u I5 529 nm.length v) 460 100 (Int32.ofNat (nm.length + 1)) → q (.inl none) T N J L R 0 0 := by
    intro J hJ
    have fJ : ∀ c j, ¬ (c = 460 ∧ j = 100) → ¬ (c = 529 ∧ j = nm.length) → J c j = I5 c j := fun c j a b => by rw [hJ, wv_u_no _ _ (by omega), wv_u_no _ _ (by omega)]
    refine h v x2 J (dm_Z_u z5 (fun j hj => fJ _ _ (by omega) (by omega))) (dm_G_F g5 (fun j hj => fJ _ _ (by omega) (by omega)) (fun c j hc => fJ _ _ (by omega) (by omega))) (fun c j a b => by rw [fJ c j (by omega) (by omega), f5 c j (by omega) (by omega), F4 c j (by omega) (by omega)]) e5 (fun hn => ?_)
    obtain ⟨y1, y2⟩ := c5 hn
    have hn3 : s3.2 = none := dm_E_none (x := (s3, x.2)) (by rw [← e5]; exact hn)
    have hn2 : s2.2 = none := tk_take_n2 (by rw [hs3]; exact hn3) (by decide)
    obtain ⟨p, z, a1, a2, a3⟩ := p3 hn2
    have hN5 : dm_N t n nm I5 := dm_N_F hN4 (f5 _ _ (by omega) (by omega)) (fun c j hc => f5 _ _ (by omega) (by omega))
    refine ⟨y1, y2, dm_N_add hN5 hnl ⟨p, z, by rw [fJ _ _ (by omega) (by omega), f5 _ _ (by omega) (by omega), f4 _ _ (by omega)]; exact a1, by rw [fJ _ _ (by omega) (by omega), f5 _ _ (by omega) (by omega), f4 _ _ (by omega)]; exact a2, a3⟩ (by rw [hJ, wv_u_at]) (by rw [hJ, wv_u_no _ _ (by omega), wv_u_at]) (fun c j hc hj => fJ _ _ (by omega) (by omega))⟩
  have hY2 : ∀ (a : Nat) (w : Int32), a = nm.length → w = Int32.ofNat (nm.length + 1) → wv_u (wv_u I5 529 a v) 460 100 w = wv_u (wv_u I5 529 nm.length v) 460 100 (Int32.ofNat (nm.length + 1)) := by
    rintro a w rfl rfl
    rfl
  exact hX _ (hY2 _ _ (by rw [j100, en]) (by rw [wv_u_no _ _ (by omega), j100]; exact wq_4s _))
