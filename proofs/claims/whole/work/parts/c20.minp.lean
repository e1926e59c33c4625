/-! ===== the reference: an input ===== -/
def dm_inp (ts : List wt_t) (n : Nat) (nm : ds_n) (k : Nat) (s : wt_q) : Int64 × wt_q := ((ds_nn ts n nm (tk_take ts n (Int8.ofInt 33).toInt32 (if k = 3 then tk_ref ts n s else s))).1, tk_take ts n (Int8.ofInt 9).toInt32 (ds_nn ts n nm (tk_take ts n (Int8.ofInt 33).toInt32 (if k = 3 then tk_ref ts n s else s))).2)
def dm_IF (I I1 : Nat → Nat → Int32) : Prop := ∀ c j, ¬ (c = 460 ∧ (j = 3 ∨ j = 4 ∨ j = 5 ∨ j = 8 ∨ j = 100 ∨ j = 101)) → ¬ (c = 527 ∨ c = 528 ∨ c = 529) → I1 c j = I c j
def dm_h468 (t : Nat → Int32) (ts : List wt_t) (n : Nat) (s0 : wt_q) (T : wv_T) (N : Nat) (I : Nat → Nat → Int32) (L : Nat → Nat → Int64) (R : Nat → Nat → Option Nat) : Nat → Option (Nat → wv_P) := fun pc =>
  if pc = 16 then some (fun _ lv st T1 N1 I1 L1 R1 nc ns => lv = [some (.ref 460), none] ∧ st = [] ∧ T1 = T ∧ N1 = N ∧ L1 = L ∧ R1 = R ∧ nc = 0 ∧ ns = 0 ∧ dm_Z t ts n s0 I1 ∧ dm_F I I1)
  else none
/-- the name list with one name more -/
theorem dm_N_add {t : Nat → Int32} {n : Nat} {nm : ds_n} {I J : Nat → Nat → Int32} {c : Int64} {x : Int32} (h : dm_N t n nm I) (hl : nm.length < 60) (hp : dm_Np t n c nm.length J) (h1 : J 460 100 = Int32.ofNat (nm.length + 1)) (h2 : J 529 nm.length = x) (hJ : ∀ c j, (c = 527 ∨ c = 528 ∨ c = 529) → j < nm.length → J c j = I c j) : dm_N t n (nm ++ [(c, x)]) J := by
  obtain ⟨n1, n2, n3⟩ := h
  refine ⟨by rw [h1, List.length_append]; rfl, by rw [List.length_append]; show nm.length + 1 ≤ 60; omega, fun i y hy => ?_⟩
  by_cases hi : i < nm.length
  · rw [List.getElem?_append_left hi] at hy
    rw [hJ _ _ (by omega) hi, hJ _ _ (by omega) hi, hJ _ _ (by omega) hi]
    exact n3 i y hy
  · have hi2 : i = nm.length := by
      have := (List.getElem?_eq_some_iff.mp hy).1
      rw [List.length_append] at this
      simp only [List.length_singleton] at this
      omega
    subst hi2
    rw [List.getElem?_append_right (Nat.le_refl _), Nat.sub_self] at hy
    cases hy
    obtain ⟨p, z, a1, a2, a3, a4, a5, a6⟩ := hp
    exact ⟨p, z, a1, a2, h2, a3, a4, a5, a6⟩
theorem dm_tokZ {t : Nat → Int32} {ts : List wt_t} {n : Nat} {s : wt_q} {I : Nat → Nat → Int32} (hTs : dm_T t ts n) (hZ : dm_Z t ts n s I) (hs : s.2 = none) : I 460 4 = Int32.ofNat (tk_place ts n s.1) ∧ tk_place ts n s.1 ≤ 400 ∧ I 460 3 = ds_mc (tk_now ts s) ∧ ds_vk (tk_now ts s) ∧ s.1 < ts.length := by
  unfold dm_Z at hZ
  rw [hs] at hZ
  obtain ⟨i8, x, l, e, hd, htk, i3, i4, i5⟩ := hZ
  obtain ⟨hta, htd⟩ := tk_drop hd
  rw [tk_now_at hs hta, tk_place_at hta]
  refine ⟨i4, ?_, i3, dm_vk hTs hd, (List.getElem?_eq_some_iff.mp hta).1⟩
  have a1 := htk.1
  have a2 := htk.2.1
  have a3 := hTs.2
  omega
def dm_c468 : wv_c1 := fun as T N I L R q => ∃ (t : Nat → Int32) (ts : List wt_t) (n : Nat) (nm : ds_n) (s : wt_q) (k : Nat), as = [.ref 460] ∧ wm_T T ∧ wp_Y T I t n ∧ dm_T t ts n ∧ dm_Z t ts n s I ∧ s.2 = none ∧ dm_N t n nm I ∧ nm.length < 60 ∧ I 460 101 = Int32.ofNat k ∧ k ≤ 3 ∧ ∀ I1, dm_Z t ts n (dm_inp ts n nm k s).2 I1 → dm_IF I I1 → ((dm_inp ts n nm k s).2.2 = none → dm_N t n (nm ++ [((dm_inp ts n nm k s).1, Int32.ofNat (2 * (k + 1)))]) I1 ∧ I1 460 101 = Int32.ofNat (k + 1)) → q (.inl none) T N I1 L R 0 0
set_option maxRecDepth 100000 in
theorem wM_468 : ∃ cb ci np, pt_mt 468 = some (32, cb, 1, false, none, ci, np) := ⟨_, _, _, rfl⟩
set_option maxRecDepth 100000 in
set_option maxHeartbeats 4000000 in
theorem dm_inputStatement {sc : pt_Sc} {d : Nat} : wv_C wm_fx sc (d + 1 + 1 + 1 + 1 + 1 + 1) 468 dm_c468 := by
  rintro as T N I L R q ⟨t, ts, n, nm, s, k, rfl, hT, hY, hTs, hZ, hs, hN, hnl, hk1, hk, h⟩ w0 HR
  obtain ⟨cb, ci, np, hm⟩ := wM_468
  unfold dm_inp at h
  obtain ⟨s0, hs0⟩ : ∃ x, (if k = 3 then tk_ref ts n s else s) = x := ⟨_, rfl⟩
  rw [hs0] at h
  obtain ⟨s1, hs1⟩ : ∃ x, tk_take ts n (Int8.ofInt 33).toInt32 s0 = x := ⟨_, rfl⟩
  rw [hs1] at h
  obtain ⟨c2, s2, hs2⟩ : ∃ c x, ds_nn ts n nm s1 = (c, x) := ⟨_, _, rfl⟩
  rw [hs2] at h
  obtain ⟨s3, hs3⟩ : ∃ x, tk_take ts n (Int8.ofInt 9).toInt32 s2 = x := ⟨_, rfl⟩
  have h : ∀ I1, dm_Z t ts n s3 I1 → dm_IF I I1 → (s3.2 = none → dm_N t n (nm ++ [(c2, Int32.ofNat (2 * (k + 1)))]) I1 ∧ I1 460 101 = Int32.ofNat (k + 1)) → q (.inl none) T N I1 L R 0 0 := by
    rw [← hs3]
    exact h
  have hc358 : wv_C wm_fx sc (d + 1 + 1 + 1 + 1 + 1) 358 wp_c358 := wv_C_deep (by omega) (wp_badC (d := d))
  have hc469 : wv_C wm_fx sc (d + 1 + 1 + 1 + 1 + 1) 469 dm_c469 := wv_C_deep (by omega) (dm_take (d := d))
  have hc470 : wv_C wm_fx sc (d + 1 + 1 + 1 + 1 + 1) 470 dm_c470 := wv_C_deep (by omega) (dm_newName (d := d))
  refine wv_meth (hh := none) rfl (sp := wv_sp [(358, wp_c358), (469, dm_c469), (470, dm_c470)]) (hd := dm_h468 t ts n s0 T N I L R) (n := 300) (n1 := 300) hm zc_468 rfl (wv_sp_ok (fun q hq => by
    rcases List.mem_cons.mp hq with h | h
    · rw [h]; exact hc358
    rcases List.mem_cons.mp h with h | h
    · rw [h]; exact hc469
    rw [List.mem_singleton.mp h]; exact hc470)) ?_ ?_ HR
  · have hpl := dm_tokZ hTs hZ hs
    have e3 : (Int32.ofNat k = Int32.ofInt 3) ↔ k = 3 := by
      rw [wi_eq, wi_on (by omega)]
      show (k : Int) = 3 ↔ k = 3
      omega
    refine ⟨fun w => ?_, fun w => ?_⟩
    · rw [hk1] at w
      have e : ¬ k = 3 := fun z => w (e3.mpr z)
      exact ⟨0, rfl, rfl, rfl, rfl, rfl, rfl, rfl, rfl, by rw [← hs0, if_neg e]; exact hZ, dm_F_id _⟩
    · rw [hk1] at w
      have e : k = 3 := e3.mp (Decidable.not_not.mp w)
      refine ⟨_, rfl, ?_⟩
      refine ⟨0, rfl, rfl, rfl, rfl, rfl, rfl, rfl, rfl, ?_, dm_F_bad⟩
      rw [← hs0, if_pos e, hpl.1]
      exact dm_Z_bad hZ hpl.2.1
  · intro pc P hP m lv st T1 N1 I1 L1 R1 nc ns hh
    unfold dm_h468 at hP
    split at hP
    · cases hP
      rename_i hpc
      subst hpc
      obtain ⟨rfl, rfl, rfl, rfl, rfl, rfl, rfl, rfl, z0, f0⟩ := hh
      refine ⟨t, ts, n, s0, _, _, rfl, wp_Y_dF hY f0, hTs, z0, ds_kc_33, by decide, by decide, by decide, fun I2 z2 f2 => ?_⟩
      rw [hs1] at z2
      have F2 := dm_F_tr f0 f2
      refine ⟨t, ts, n, nm, s1, rfl, hT, wp_Y_dF hY F2, hTs, z2, dm_N_dF hN F2, fun I3 z3 f3 p3 => ?_⟩
      rw [hs2] at z3 p3
      have F3 := dm_NN_tr (dm_NN_F F2) f3
      refine ⟨t, ts, n, s2, _, _, rfl, wp_Y_NN hY F3, hTs, z3, ds_kc_9, by decide, by decide, by decide, fun I4 z4 f4 => ?_⟩
      rw [hs3] at z4
      have F4 := dm_NN_tr F3 (dm_NN_F f4)
      obtain ⟨n1, n2, n3⟩ := hN
      have hN4 := dm_N_NN ⟨n1, n2, n3⟩ F4
      have j100 : I4 460 100 = Int32.ofNat nm.length := by rw [F4 _ _ (by omega) (by omega)]; exact n1
      have j101 : I4 460 101 = Int32.ofNat k := by rw [F4 _ _ (by omega) (by omega)]; exact hk1
      have el := wi_on (n := nm.length) (by omega)
      have en := wi_onn (n := nm.length) (by omega)
      have bd : ∀ a, 0 ≤ wv_u I4 460 101 a 460 100 ∧ (wv_u I4 460 101 a 460 100).toInt < (70 : Nat) := fun a => by rw [wv_u_no _ _ (by omega), j100]; exact ⟨by rw [wi_le, el, wi_0]; omega, by rw [el]; omega⟩
      refine ⟨_, wm_t hT rfl, bd _, by decide, ?_⟩
      have hX : ∀ J, J = wv_u (wv_u (wv_u I4 460 101 (Int32.ofNat (k + 1))) 529 nm.length (Int32.ofNat (2 * (k + 1)))) 460 100 (Int32.ofNat (nm.length + 1)) → q (.inl none) T1 N1 J L1 R1 0 0 := by
        intro J hJ
        have fJ : ∀ c j, ¬ (c = 460 ∧ (j = 100 ∨ j = 101)) → ¬ (c = 529 ∧ j = nm.length) → J c j = I4 c j := fun c j a b => by rw [hJ, wv_u_no _ _ (by omega), wv_u_no _ _ (by omega), wv_u_no _ _ (by omega)]
        refine h J (dm_Z_u z4 (fun j hj => fJ _ _ (by omega) (by omega))) (fun c j a b => by rw [fJ c j (by omega) (by omega), F4 c j (by omega) (by omega)]) (fun hn => ⟨?_, ?_⟩)
        · have hn2 : s2.2 = none := by
            cases hq : s2.2 with
            | none => rfl
            | some z =>
              rw [tk_take_some hq (by decide)] at hs3
              rw [← hs3, hq] at hn
              cases hn
          obtain ⟨p, z, a1, a2, a3⟩ := p3 hn2
          refine dm_N_add hN4 hnl ⟨p, z, by rw [fJ _ _ (by omega) (by omega), f4 _ _ (by omega)]; exact a1, by rw [fJ _ _ (by omega) (by omega), f4 _ _ (by omega)]; exact a2, a3⟩ (by rw [hJ, wv_u_at]) (by rw [hJ, wv_u_no _ _ (by omega), wv_u_at]) (fun c j hc hj => fJ _ _ (by omega) (by omega))
        · rw [hJ, wv_u_no _ _ (by omega), wv_u_no _ _ (by omega), wv_u_at]
      have hY2 : ∀ (a : Nat) (u v w : Int32), a = nm.length → u = Int32.ofNat (k + 1) → v = Int32.ofNat (2 * (k + 1)) → w = Int32.ofNat (nm.length + 1) → wv_u (wv_u (wv_u I4 460 101 u) 529 a v) 460 100 w = wv_u (wv_u (wv_u I4 460 101 (Int32.ofNat (k + 1))) 529 nm.length (Int32.ofNat (2 * (k + 1)))) 460 100 (Int32.ofNat (nm.length + 1)) := by
        rintro a u v w rfl rfl rfl rfl
        rfl
      exact hX _ (hY2 _ _ _ _ (by rw [wv_u_no _ _ (by omega), j100, en]) (by rw [j101]; exact wq_4s _) (by rw [wv_u_at, j101, wq_4s, wi_2]) (by rw [wv_u_no _ _ (by omega), wv_u_no _ _ (by omega), j100]; exact wq_4s _))
    · cases hP
