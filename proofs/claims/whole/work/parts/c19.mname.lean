/-! ===== the reference: a new name, an input ===== -/
/-- the name c stands at place i of the reference's names -/
def dm_Np (t : Nat → Int32) (n : Nat) (c : Int64) (i : Nat) (I : Nat → Nat → Int32) : Prop := ∃ p z, I 527 i = Int32.ofNat p ∧ I 528 i = Int32.ofNat z ∧ c = ds_nm t p z ∧ z ≤ 8 ∧ p + z ≤ n ∧ ∀ j, j < z → wt_sml t (p + j) = true
/-- what a new name leaves alone -/
def dm_NN (k : Nat) (I I1 : Nat → Nat → Int32) : Prop := ∀ c j, ¬ (c = 460 ∧ (j = 3 ∨ j = 4 ∨ j = 5 ∨ j = 8)) → ¬ ((c = 527 ∨ c = 528 ∨ c = 529) ∧ j = k) → I1 c j = I c j
theorem ds_nn_some {ts : List wt_t} {n : Nat} {nm : ds_n} {s : wt_q} {z : Nat} (h : s.2 = some z) : (ds_nn ts n nm s).2 = s := by
  have e : (if ds_ix nm (tk_name ts s.1) = none then s else tk_ref ts n s) = s := by
    split
    · rfl
    · unfold tk_ref tk_refAt
      rw [h]
  show tk_take ts n (Int8.ofInt 32).toInt32 (if ds_ix nm (tk_name ts s.1) = none then s else tk_ref ts n s) = s
  rw [e]
  exact tk_take_some h (by decide)
theorem ds_nn_bad {ts : List wt_t} {n : Nat} {nm : ds_n} {s : wt_q} (h : s.2 = none) (hc : ¬ tk_now ts s = (Int8.ofInt 32).toInt32 ∨ ¬ ds_ix nm (tk_name ts s.1) = none) : (ds_nn ts n nm s).2 = (s.1, some (tk_place ts n s.1)) := by
  have e0 : tk_ref ts n s = (s.1, some (tk_place ts n s.1)) := by unfold tk_ref tk_refAt; rw [h]
  show tk_take ts n (Int8.ofInt 32).toInt32 (if ds_ix nm (tk_name ts s.1) = none then s else tk_ref ts n s) = _
  by_cases hi : ds_ix nm (tk_name ts s.1) = none
  · rw [if_pos hi]
    unfold tk_take
    rw [if_neg (hc.elim id (fun w => (w hi).elim))]
    exact e0
  · rw [if_neg hi, e0]
    exact tk_take_some rfl (by decide)
theorem ds_nn_ok {ts : List wt_t} {n : Nat} {nm : ds_n} {s : wt_q} (h : tk_now ts s = (Int8.ofInt 32).toInt32) (hc : ds_ix nm (tk_name ts s.1) = none) : (ds_nn ts n nm s).2 = tk_adv ts s := by
  show tk_take ts n (Int8.ofInt 32).toInt32 (if ds_ix nm (tk_name ts s.1) = none then s else tk_ref ts n s) = _
  rw [if_pos hc]
  unfold tk_take
  rw [if_pos h]
theorem dm_N_NN {t : Nat → Int32} {n : Nat} {nm : ds_n} {I J : Nat → Nat → Int32} (h : dm_N t n nm I) (hJ : dm_NN nm.length I J) : dm_N t n nm J := by
  obtain ⟨h1, h2, h3⟩ := h
  refine ⟨by rw [hJ _ _ (by omega) (by omega)]; exact h1, h2, fun i x hx => ?_⟩
  have hi := (List.getElem?_eq_some_iff.mp hx).1
  rw [hJ _ _ (by omega) (by omega), hJ _ _ (by omega) (by omega), hJ _ _ (by omega) (by omega)]
  exact h3 i x hx
theorem dm_NN_tr {k : Nat} {I J K : Nat → Nat → Int32} (h : dm_NN k I J) (h2 : dm_NN k J K) : dm_NN k I K := fun c j a b => by rw [h2 c j a b, h c j a b]
theorem dm_NN_F {k : Nat} {I J : Nat → Nat → Int32} (h : dm_F I J) : dm_NN k I J := fun c j a _ => h c j a
theorem wp_Y_NN {k : Nat} {T : wv_T} {I J : Nat → Nat → Int32} {t : Nat → Int32} {n : Nat} (h : wp_Y T I t n) (hF : dm_NN k I J) : wp_Y T J t n := wp_Y_D h (hF _ _ (by omega) (by omega)) (fun k => hF _ _ (by omega) (by omega))
def dm_c470 : wv_c1 := fun as T N I L R q => ∃ (t : Nat → Int32) (ts : List wt_t) (n : Nat) (nm : ds_n) (s : wt_q), as = [.ref 460] ∧ wm_T T ∧ wp_Y T I t n ∧ dm_T t ts n ∧ dm_Z t ts n s I ∧ dm_N t n nm I ∧ ∀ I1, dm_Z t ts n (ds_nn ts n nm s).2 I1 → dm_NN nm.length I I1 → ((ds_nn ts n nm s).2.2 = none → dm_Np t n (ds_nn ts n nm s).1 nm.length I1) → q (.inl none) T N I1 L R 0 0
set_option maxRecDepth 100000 in
theorem wM_470 : ∃ cb ci np, pt_mt 470 = some (32, cb, 1, false, none, ci, np) := ⟨_, _, _, rfl⟩
set_option maxRecDepth 100000 in
set_option maxHeartbeats 4000000 in
theorem dm_newName {sc : pt_Sc} {d : Nat} : wv_C wm_fx sc (d + 1 + 1 + 1 + 1 + 1) 470 dm_c470 := by
  rintro as T N I L R q ⟨t, ts, n, nm, s, rfl, hT, hY, hTs, hZ, hN, h⟩ w0 HR
  obtain ⟨cb, ci, np, hm⟩ := wM_470
  have hc471 : wv_C wm_fx sc (d + 1 + 1 + 1 + 1) 471 dm_c471 := wv_C_deep (by omega) (dm_told (d := d))
  have hc358 : wv_C wm_fx sc (d + 1 + 1 + 1 + 1) 358 wp_c358 := wv_C_deep (by omega) (wp_badC (d := d))
  have hc466 : wv_C wm_fx sc (d + 1 + 1 + 1 + 1) 466 wp_c466 := wv_C_deep (by omega) (wp_nextOfDesign (d := d))
  refine wv_meth (hh := none) rfl (sp := wv_sp [(471, dm_c471), (358, wp_c358), (466, wp_c466)]) (hd := fun _ => none) (n := 0) (n1 := 300) hm zc_470 rfl (wv_sp_ok (fun q hq => by
    rcases List.mem_cons.mp hq with h | h
    · rw [h]; exact hc471
    rcases List.mem_cons.mp h with h | h
    · rw [h]; exact hc358
    rw [List.mem_singleton.mp h]; exact hc466)) ?_ (fun pc P h => by cases h) HR
  have h8 := dm_Z_8 hZ
  have hN0 := hN
  obtain ⟨n1, n2, n3⟩ := hN
  cases hs : s.2 with
  | some z =>
    have hge : 0 ≤ I 460 8 := h8.mpr (by rw [hs]; exact fun w => by cases w)
    have h2 := h I (by rw [ds_nn_some hs]; exact hZ) (dm_NN_F (dm_F_id _)) (by rw [ds_nn_some hs, hs]; exact fun w => by cases w)
    refine ⟨fun _ => ?_, fun w => (w hge).elim⟩
    exact ⟨fun _ => h2, fun w => (w hge).elim⟩
  | none =>
    have hlt : ¬ 0 ≤ I 460 8 := fun w => (h8.mp w) hs
    have hZ2 := hZ
    unfold dm_Z at hZ2
    rw [hs] at hZ2
    obtain ⟨i8, x, l, e, hd, htk, i3, i4, i5⟩ := hZ2
    have hvk := dm_vk hTs hd
    obtain ⟨hta, htd⟩ := tk_drop hd
    have hnow : tk_now ts s = x.1 := tk_now_at hs hta
    have hpl : tk_place ts n s.1 = x.2.1 := tk_place_at hta
    have hx4 : x.2.1 ≤ 400 := by
      have a1 := htk.1
      have a2 := htk.2.1
      have a3 := hTs.2
      omega
    have hbad : (¬ tk_now ts s = (Int8.ofInt 32).toInt32 ∨ ¬ ds_ix nm (tk_name ts s.1) = none) → 0 ≤ wp_bad (I 460 4) I 460 8 ∧ q (.inl none) T N (wp_bad (I 460 4) I) L R 0 0 := by
      intro hc
      have et := ds_nn_bad (n := n) (nm := nm) hs hc
      refine ⟨?_, h (wp_bad (I 460 4) I) ?_ (dm_NN_F dm_F_bad) (by rw [et]; exact fun w => by cases w)⟩
      · rw [wp_bad_8 (by rw [i8]; decide), i4, wi_le, wi_0, wi_on (by omega)]
        omega
      · rw [et, hpl]
        exact ⟨by rw [wp_bad_8 (by rw [i8]; decide)]; exact i4, hx4⟩
    refine ⟨fun w => (hlt w).elim, fun _ => ?_⟩
    refine ⟨fun w => ?_, fun w => ?_⟩
    · obtain ⟨b1, b2⟩ := hbad (Or.inl (fun z => w (by rw [i3]; rw [hnow] at z; exact (ds_kc_32 _ hvk).mpr z)))
      refine ⟨_, rfl, ?_⟩
      exact ⟨fun _ => b2, fun w => (w b1).elim⟩
    · have h32 : x.1 = (Int8.ofInt 32).toInt32 := (ds_kc_32 _ hvk).mp (by rw [← i3]; exact Decidable.not_not.mp w)
      obtain ⟨c1, c2, c3⟩ := htk.2.2.2.1 h32
      have c0 := htk.1
      have cn := htk.2.1
      have hnm : tk_name ts s.1 = ds_nm t x.2.1 (e - x.2.1) := by unfold tk_name; rw [hta]; exact c1
      have hsm : ∀ j, j < e - x.2.1 → wt_sml t (x.2.1 + j) = true := fun j hj => c3 _ (by omega) (by omega)
      refine ⟨t, n, nm, x.2.1, e - x.2.1, rfl, hT, hY, hN0, i4, by rw [show x.2.1 + (e - x.2.1) = e by omega]; exact i5, by omega, c2, hsm, ?_⟩
      rw [← hnm]
      have hwf : wt_f (ds_ix nm (tk_name ts s.1)) < 0 ↔ ds_ix nm (tk_name ts s.1) = none := by
        cases hix : ds_ix nm (tk_name ts s.1) with
        | none => exact ⟨fun _ => rfl, fun _ => by decide⟩
        | some i =>
          obtain ⟨y, y1, y2, y3⟩ := ds_ix_some hix
          refine ⟨fun z => ?_, fun z => by cases z⟩
          have z : Int32.ofNat i < 0 := z
          rw [wi_lt, wi_0, wi_on (by omega)] at z
          omega
      refine ⟨fun w2 => ?_, fun w2 => ?_⟩
      · have hix := hwf.mp w2
        have et := ds_nn_ok (n := n) (nm := nm) (by rw [hnow]; exact h32) hix
        rw [tk_adv_at hs hta] at et
        refine ⟨fun w => (hlt w).elim, fun _ => ?_⟩
        have el := wi_on (n := nm.length) (by omega)
        have en := wi_onn (n := nm.length) (by omega)
        have bd : 0 ≤ I 460 100 ∧ (I 460 100).toInt < (70 : Nat) := by rw [n1]; exact ⟨by rw [wi_le, el, wi_0]; omega, by rw [el]; omega⟩
        have bd2 : ∀ a b, 0 ≤ wv_u I 527 a b 460 100 ∧ (wv_u I 527 a b 460 100).toInt < (70 : Nat) := fun a b => by rw [wv_u_no _ _ (by omega)]; exact bd
        have bd3 : ∀ a b c d, 0 ≤ wv_u (wv_u I 527 a b) 528 c d 460 100 ∧ (wv_u (wv_u I 527 a b) 528 c d 460 100).toInt < (70 : Nat) := fun a b c d => by rw [wv_u_no _ _ (by omega), wv_u_no _ _ (by omega)]; exact bd
        refine ⟨_, wm_t hT rfl, bd, by decide, ?_⟩
        refine ⟨_, wm_t hT rfl, bd2 _ _, by decide, ?_⟩
        refine ⟨_, wm_t hT rfl, bd3 _ _ _ _, by decide, ?_⟩
        have hJ : ∀ J, J = wv_u (wv_u (wv_u I 527 nm.length (Int32.ofNat x.2.1)) 528 nm.length (Int32.ofNat (e - x.2.1))) 529 nm.length (Int32.ofInt 0) → ∃ (t : Nat → Int32) (n e : Nat), [Value.ref 460] = [Value.ref 460] ∧ wp_Y T J t n ∧ J 460 5 = Int32.ofNat e ∧ e ≤ n ∧ ∀ x l e2 I1, wt_lx (ds_st t n) n e = x :: l → ds_tk t n x l e2 → I1 460 3 = ds_mc x.1 → I1 460 4 = Int32.ofNat x.2.1 → I1 460 5 = Int32.ofNat e2 → wp_NF J I1 → q (.inl none) T N I1 L R 0 0 := by
          intro J hJ
          have hF : dm_NN nm.length I J := fun c j a b => by rw [hJ, wv_u_no _ _ (by omega), wv_u_no _ _ (by omega), wv_u_no _ _ (by omega)]
          refine ⟨t, n, e, rfl, wp_Y_NN hY hF, ?_, cn, fun x2 l2 e2 I1 a1 a2 a3 a4 a5 a6 => ?_⟩
          · rw [hJ, wv_u_no _ _ (by omega), wv_u_no _ _ (by omega), wv_u_no _ _ (by omega)]; exact i5
          have hF2 := dm_NN_tr hF (dm_NN_F (dm_F_N a6))
          obtain ⟨hl, _⟩ := htk.2.2.1 (by rw [h32]; decide) (by rw [h32]; decide)
          refine h I1 ?_ hF2 (fun _ => ⟨x.2.1, e - x.2.1, ?_, ?_, hnm, c2, by omega, hsm⟩)
          · rw [et]
            exact ⟨by rw [a6 _ _ (by omega), hJ, wv_u_no _ _ (by omega), wv_u_no _ _ (by omega), wv_u_no _ _ (by omega)]; exact i8, x2, l2, e2, by rw [htd, hl]; exact a1, a2, a3, a4, a5⟩
          · rw [a6 _ _ (by omega), hJ, wv_u_no _ _ (by omega), wv_u_no _ _ (by omega), wv_u_at]
          · rw [a6 _ _ (by omega), hJ, wv_u_no _ _ (by omega), wv_u_at]
        have hsub : I 460 5 - I 460 4 = Int32.ofNat (e - x.2.1) := by
          rw [i4, i5]
          apply wi_eq.mpr
          have := hTs.2
          rw [wi_sub, wi_on (by omega), wi_on (by omega), wi_on (by omega), wr_id (by omega) (by omega)]
          omega
        have hY2 : ∀ (a b c : Nat) (u v : Int32), a = nm.length → b = nm.length → c = nm.length → u = Int32.ofNat x.2.1 → v = Int32.ofNat (e - x.2.1) → wv_u (wv_u (wv_u I 527 a u) 528 b v) 529 c (Int32.ofInt 0) = wv_u (wv_u (wv_u I 527 nm.length (Int32.ofNat x.2.1)) 528 nm.length (Int32.ofNat (e - x.2.1))) 529 nm.length (Int32.ofInt 0) := by
          rintro a b c u v rfl rfl rfl rfl rfl
          rfl
        exact hJ _ (hY2 _ _ _ _ _ (by rw [n1, en]) (by rw [wv_u_no _ _ (by omega), n1, en]) (by rw [wv_u_no _ _ (by omega), wv_u_no _ _ (by omega), n1, en]) i4 (by rw [wv_u_no _ _ (by omega), wv_u_no _ _ (by omega)]; exact hsub))
      · obtain ⟨b1, b2⟩ := hbad (Or.inr (fun z => w2 (hwf.mpr z)))
        refine ⟨_, rfl, ?_⟩
        exact ⟨fun _ => b2, fun w => (w b1).elim⟩
