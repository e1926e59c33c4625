/-! ===== the reference: parentheses ===== -/
/-- a turned mark is 0 or 1 -/
def dm_tn (r : dm_r) : Prop := r.2.2.2.2.2 = Int32.ofInt 0 ∨ r.2.2.2.2.2 = Int32.ofInt 1
def dm_opn (w : Nat) (x : ds_q) (r : dm_r) (fr : List dm_r) : dm_x := ((if fr.length = 20 then tk_refAt w x.1 else x.1, x.2), (Int32.ofInt (-1), r.2.1, r.2.2.1, Int32.ofInt (-1), r.2.2.2.2.1, Int32.ofInt 0), r :: fr)
def dm_h476 (T : wv_T) (t : Nat → Int32) (ts : List wt_t) (n : Nat) (nm : ds_n) (A B : Nat) (x : ds_q) (r : dm_r) (fr : List dm_r) (N : Nat) (I : Nat → Nat → Int32) (L : Nat → Nat → Int64) (R : Nat → Nat → Option Nat) : Nat → Option (Nat → wv_P) := fun pc =>
  if pc = 17 then some (fun _ lv st T1 N1 I1 L1 R1 nc ns => lv = [some (.ref 460), none] ∧ st = [] ∧ T1 = T ∧ N1 = N ∧ L1 = L ∧ R1 = R ∧ nc = 0 ∧ ns = 0 ∧ dm_M T t ts n nm A B (x, r, fr) I1 ∧ dm_MF I I1)
  else none
theorem dm_push {J I : Nat → Nat → Int32} {fr : List dm_r} {r : dm_r} {k : Nat} (h : dm_L I fr) (hl : fr.length ≤ 20) (hk : k = 6 * fr.length) (h0 : J 460 110 = Int32.ofNat (6 * (fr.length + 1))) (h1 : J 535 k = r.1) (h2 : J 535 (k + 1) = r.2.1) (h3 : J 535 (k + 2) = r.2.2.1) (h4 : J 535 (k + 3) = r.2.2.2.1) (h5 : J 535 (k + 4) = r.2.2.2.2.1) (h6 : J 535 (k + 5) = r.2.2.2.2.2) (hJ : ∀ j, j < k → J 535 j = I 535 j) : dm_L J (r :: fr) := by
  obtain ⟨l1, l2, l3⟩ := h
  refine ⟨by rw [h0]; rfl, by simp only [List.length_cons]; omega, fun i f hf => ?_⟩
  have el : (r :: fr).length = fr.length + 1 := rfl
  cases i with
  | zero =>
    cases hf
    rw [el, show 6 * (fr.length + 1 - 1 - 0) = k by omega]
    exact ⟨h1, h2, h3, h4, h5, h6⟩
  | succ i =>
    have hi := (List.getElem?_eq_some_iff.mp hf).1
    rw [el] at hi
    have hf : fr[i]? = some f := hf
    rw [el, show fr.length + 1 - 1 - (i + 1) = fr.length - 1 - i by omega, hJ _ (by omega), hJ _ (by omega), hJ _ (by omega), hJ _ (by omega), hJ _ (by omega), hJ _ (by omega)]
    exact l3 i f hf
def dm_c476 : wv_c1 := fun as T N I L R q => ∃ (t : Nat → Int32) (ts : List wt_t) (n : Nat) (nm : ds_n) (A B : Nat) (x : ds_q) (r : dm_r) (fr : List dm_r) (w : Nat), as = [.ref 460] ∧ dm_M T t ts n nm A B (x, r, fr) I ∧ fr.length ≤ 20 ∧ dm_tn r ∧ I 460 4 = Int32.ofNat w ∧ w ≤ 400 ∧ ∀ I1, dm_M T t ts n nm A B (dm_opn w x r fr) I1 → dm_MF I I1 → q (.inl none) T N I1 L R 0 0
set_option maxRecDepth 100000 in
theorem wM_476 : ∃ cb ci np, pt_mt 476 = some (32, cb, 1, false, none, ci, np) := ⟨_, _, _, rfl⟩
set_option maxRecDepth 100000 in
set_option maxHeartbeats 2000000 in
theorem dm_open {sc : pt_Sc} {d : Nat} : wv_C wm_fx sc (d + 1 + 1) 476 dm_c476 := by
  rintro as T N I L R q ⟨t, ts, n, nm, A, B, x, r, fr, w, rfl, hM, hl, htn, i4, hw, h⟩ w0 HR
  obtain ⟨cb, ci, np, hm⟩ := wM_476
  obtain ⟨x1, hx⟩ : ∃ y, (if fr.length = 20 then tk_refAt w x.1 else x.1, x.2) = y := ⟨_, rfl⟩
  unfold dm_opn at h
  rw [hx] at h
  have hc358 : wv_C wm_fx sc (d + 1) 358 wp_c358 := wv_C_deep (by omega) (wp_badC (d := d))
  refine wv_meth (hh := none) rfl (sp := wv_sp [(358, wp_c358)]) (hd := dm_h476 T t ts n nm A B x1 r fr N I L R) (n := 300) (n1 := 300) hm zc_476 rfl (wv_sp_ok (fun q hq => by rw [List.mem_singleton.mp hq]; exact hc358)) ?_ ?_ HR
  · have l1 := hM.2.2.2.2.2.2.2.2.1.1
    have l1 : I 460 110 = Int32.ofNat (6 * fr.length) := l1
    have e120 : ((Int8.ofInt 120).toInt32).toInt = 120 := rfl
    refine ⟨fun h1 => ?_, fun h1 => ?_⟩
    · have hne : ¬ fr.length = 20 := fun z => h1 (by rw [l1]; exact wi_eq.mpr (by rw [wi_on (by omega), e120]; omega))
      rw [if_neg hne] at hx
      exact ⟨0, rfl, rfl, rfl, rfl, rfl, rfl, rfl, rfl, by rw [← hx]; exact hM, dm_MF_id _⟩
    · have heq : fr.length = 20 := by
        have := wi_eq.mp (Decidable.not_not.mp h1)
        rw [l1, wi_on (by omega), e120] at this
        omega
      rw [if_pos heq] at hx
      refine ⟨_, rfl, ?_⟩
      refine ⟨0, rfl, rfl, rfl, rfl, rfl, rfl, rfl, rfl, ?_, dm_MF_F dm_F_bad⟩
      rw [← hx, i4]
      exact dm_M_d hM (dm_Z_bad hM.2.2.2.2.2.1 hw) dm_F_bad
  · intro pc P hP m lv st T1 N1 I1 L1 R1 nc ns hh
    unfold dm_h476 at hP
    split at hP
    · cases hP
      rename_i hpc
      subst hpc
      obtain ⟨rfl, rfl, rfl, rfl, rfl, rfl, rfl, rfl, hM1, hF1⟩ := hh
      have hT := hM1.1
      obtain ⟨r1, r2, r3, r4, r5, r6⟩ := hM1.2.2.2.2.2.2.2.1
      have hL := hM1.2.2.2.2.2.2.2.2.1
      have hL : dm_L I1 fr := hL
      obtain ⟨k, hk⟩ : ∃ k, k = 6 * fr.length := ⟨_, rfl⟩
      have l1 : I1 460 110 = Int32.ofNat k := by rw [hk]; exact hL.1
      -- places of the pile
      have pl : ∀ (J : Nat → Nat → Int32) (o : Nat), J 460 110 = I1 460 110 → o ≤ 5 → (J 460 110 + Int32.ofNat o).toNatClampNeg = k + o ∧ (0 ≤ J 460 110 + Int32.ofNat o ∧ (J 460 110 + Int32.ofNat o).toInt < (2400 : Nat)) := by
        intro J o hJ ho
        rw [hJ, l1, wi_ona]
        exact ⟨wi_onn (by omega), by rw [wi_le, wi_0, wi_on (by omega)]; omega, by rw [wi_on (by omega)]; omega⟩
      have p0 : (I1 460 110).toNatClampNeg = k ∧ (0 ≤ I1 460 110 ∧ (I1 460 110).toInt < (2400 : Nat)) := by
        rw [l1]
        exact ⟨wi_onn (by omega), by rw [wi_le, wi_0, wi_on (by omega)]; omega, by rw [wi_on (by omega)]; omega⟩
      have u : ∀ (J : Nat → Nat → Int32) a b c, wv_u J 535 a b 460 c = J 460 c := fun J a b c => wv_u_no _ _ (by omega)
      refine ⟨_, wm_t hT rfl, p0.2, by decide, ?_⟩
      rw [p0.1]
      have a1 := pl (wv_u I1 535 k (I1 460 111)) 1 (u _ _ _ _) (by omega)
      refine ⟨_, wm_t hT rfl, a1.2, by decide, ?_⟩
      have a2 := pl (wv_u (wv_u I1 535 k (I1 460 111)) 535 (k + 1) (I1 460 112)) 2 (by rw [u, u]) (by omega)
      have b1 : (wv_u I1 535 k (I1 460 111) 460 110 + Int32.ofInt 1).toNatClampNeg = k + 1 := a1.1
      rw [b1, u]
      refine ⟨_, wm_t hT rfl, a2.2, by decide, ?_⟩
      have b2 : (wv_u (wv_u I1 535 k (I1 460 111)) 535 (k + 1) (I1 460 112) 460 110 + Int32.ofInt 2).toNatClampNeg = k + 2 := a2.1
      rw [b2, u, u]
      have a3 := pl (wv_u (wv_u (wv_u I1 535 k (I1 460 111)) 535 (k + 1) (I1 460 112)) 535 (k + 2) (I1 460 113)) 3 (by rw [u, u, u]) (by omega)
      refine ⟨_, wm_t hT rfl, a3.2, by decide, ?_⟩
      have b3 : (wv_u (wv_u (wv_u I1 535 k (I1 460 111)) 535 (k + 1) (I1 460 112)) 535 (k + 2) (I1 460 113) 460 110 + Int32.ofInt 3).toNatClampNeg = k + 3 := a3.1
      rw [b3, u, u, u]
      have a4 := pl (wv_u (wv_u (wv_u (wv_u I1 535 k (I1 460 111)) 535 (k + 1) (I1 460 112)) 535 (k + 2) (I1 460 113)) 535 (k + 3) (I1 460 114)) 4 (by rw [u, u, u, u]) (by omega)
      refine ⟨_, wm_t hT rfl, a4.2, by decide, ?_⟩
      have b4 : (wv_u (wv_u (wv_u (wv_u I1 535 k (I1 460 111)) 535 (k + 1) (I1 460 112)) 535 (k + 2) (I1 460 113)) 535 (k + 3) (I1 460 114) 460 110 + Int32.ofInt 4).toNatClampNeg = k + 4 := a4.1
      rw [b4, u, u, u, u]
      have a5 := pl (wv_u (wv_u (wv_u (wv_u (wv_u I1 535 k (I1 460 111)) 535 (k + 1) (I1 460 112)) 535 (k + 2) (I1 460 113)) 535 (k + 3) (I1 460 114)) 535 (k + 4) (I1 460 115)) 5 (by rw [u, u, u, u, u]) (by omega)
      have b5 : (wv_u (wv_u (wv_u (wv_u (wv_u I1 535 k (I1 460 111)) 535 (k + 1) (I1 460 112)) 535 (k + 2) (I1 460 113)) 535 (k + 3) (I1 460 114)) 535 (k + 4) (I1 460 115) 460 110 + Int32.ofInt 5).toNatClampNeg = k + 5 := a5.1
      have q0 : wv_u (wv_u (wv_u (wv_u (wv_u I1 535 k (I1 460 111)) 535 (k + 1) (I1 460 112)) 535 (k + 2) (I1 460 113)) 535 (k + 3) (I1 460 114)) 535 (k + 4) (I1 460 115) 460 116 = r.2.2.2.2.2 := by rw [u, u, u, u, u]; exact r6
      have qk : ∀ c j, ¬ c = 535 → wv_u (wv_u (wv_u (wv_u (wv_u I1 535 k (I1 460 111)) 535 (k + 1) (I1 460 112)) 535 (k + 2) (I1 460 113)) 535 (k + 3) (I1 460 114)) 535 (k + 4) (I1 460 115) c j = I1 c j := fun c j hc => by
        rw [wv_u_no _ _ (by omega), wv_u_no _ _ (by omega), wv_u_no _ _ (by omega), wv_u_no _ _ (by omega), wv_u_no _ _ (by omega)]
      have qj : ∀ j, j < k → wv_u (wv_u (wv_u (wv_u (wv_u I1 535 k (I1 460 111)) 535 (k + 1) (I1 460 112)) 535 (k + 2) (I1 460 113)) 535 (k + 3) (I1 460 114)) 535 (k + 4) (I1 460 115) 535 j = I1 535 j := fun j hj => by
        rw [wv_u_no _ _ (by omega), wv_u_no _ _ (by omega), wv_u_no _ _ (by omega), wv_u_no _ _ (by omega), wv_u_no _ _ (by omega)]
      have s0 : wv_u (wv_u (wv_u (wv_u (wv_u I1 535 k (I1 460 111)) 535 (k + 1) (I1 460 112)) 535 (k + 2) (I1 460 113)) 535 (k + 3) (I1 460 114)) 535 (k + 4) (I1 460 115) 535 k = r.1 := by
        rw [wv_u_no _ _ (by omega), wv_u_no _ _ (by omega), wv_u_no _ _ (by omega), wv_u_no _ _ (by omega), wv_u_at]; exact r1
      have s1 : wv_u (wv_u (wv_u (wv_u (wv_u I1 535 k (I1 460 111)) 535 (k + 1) (I1 460 112)) 535 (k + 2) (I1 460 113)) 535 (k + 3) (I1 460 114)) 535 (k + 4) (I1 460 115) 535 (k + 1) = r.2.1 := by
        rw [wv_u_no _ _ (by omega), wv_u_no _ _ (by omega), wv_u_no _ _ (by omega), wv_u_at]; exact r2
      have s2 : wv_u (wv_u (wv_u (wv_u (wv_u I1 535 k (I1 460 111)) 535 (k + 1) (I1 460 112)) 535 (k + 2) (I1 460 113)) 535 (k + 3) (I1 460 114)) 535 (k + 4) (I1 460 115) 535 (k + 2) = r.2.2.1 := by
        rw [wv_u_no _ _ (by omega), wv_u_no _ _ (by omega), wv_u_at]; exact r3
      have s3 : wv_u (wv_u (wv_u (wv_u (wv_u I1 535 k (I1 460 111)) 535 (k + 1) (I1 460 112)) 535 (k + 2) (I1 460 113)) 535 (k + 3) (I1 460 114)) 535 (k + 4) (I1 460 115) 535 (k + 3) = r.2.2.2.1 := by
        rw [wv_u_no _ _ (by omega), wv_u_at]; exact r4
      have s4 : wv_u (wv_u (wv_u (wv_u (wv_u I1 535 k (I1 460 111)) 535 (k + 1) (I1 460 112)) 535 (k + 2) (I1 460 113)) 535 (k + 3) (I1 460 114)) 535 (k + 4) (I1 460 115) 535 (k + 4) = r.2.2.2.2.1 := by
        rw [wv_u_at]; exact r5
      generalize wv_u (wv_u (wv_u (wv_u (wv_u I1 535 k (I1 460 111)) 535 (k + 1) (I1 460 112)) 535 (k + 2) (I1 460 113)) 535 (k + 3) (I1 460 114)) 535 (k + 4) (I1 460 115) = J at a5 b5 q0 qk qj s0 s1 s2 s3 s4 ⊢
      have e6 : ((Int8.ofInt 6).toInt32) = Int32.ofNat 6 := rfl
      have fin : ∀ (v : Int32) (kk : Nat), v = r.2.2.2.2.2 → kk = k + 5 → q (.inl none) T1 N1 (wv_u (wv_u (wv_u (wv_u (wv_u J 535 kk v) 460 110 (wv_u J 535 kk v 460 110 + (Int8.ofInt 6).toInt32)) 460 111 (Int32.ofInt (-1))) 460 114 (Int32.ofInt (-1))) 460 116 (Int32.ofInt 0)) L1 R1 0 0 := by
        intro v kk hv hkk
        subst hv hkk
        have k110 : wv_u J 535 (k + 5) r.2.2.2.2.2 460 110 + (Int8.ofInt 6).toInt32 = Int32.ofNat (6 * (fr.length + 1)) := by
          rw [wv_u_no _ _ (by omega), qk _ _ (by omega), l1, e6, wi_ona, hk]
          congr 1
        rw [k110]
        obtain ⟨m1, m2, m3, m4, m5, m6, m7, m8, m9, m10⟩ := hM1
        have fr1 : ∀ c j, ¬ c = 535 → ¬ (c = 460 ∧ (j = 110 ∨ j = 111 ∨ j = 114 ∨ j = 116)) → wv_u (wv_u (wv_u (wv_u (wv_u J 535 (k + 5) r.2.2.2.2.2) 460 110 (Int32.ofNat (6 * (fr.length + 1)))) 460 111 (Int32.ofInt (-1))) 460 114 (Int32.ofInt (-1))) 460 116 (Int32.ofInt 0) c j = I1 c j := fun c j hc hj => by
          rw [wv_u_no _ _ (by omega), wv_u_no _ _ (by omega), wv_u_no _ _ (by omega), wv_u_no _ _ (by omega), wv_u_no _ _ (by omega), qk _ _ hc]
        have fr2 : ∀ j, wv_u (wv_u (wv_u (wv_u (wv_u J 535 (k + 5) r.2.2.2.2.2) 460 110 (Int32.ofNat (6 * (fr.length + 1)))) 460 111 (Int32.ofInt (-1))) 460 114 (Int32.ofInt (-1))) 460 116 (Int32.ofInt 0) 535 j = wv_u J 535 (k + 5) r.2.2.2.2.2 535 j := fun j => by
          rw [wv_u_no _ _ (by omega), wv_u_no _ _ (by omega), wv_u_no _ _ (by omega), wv_u_no _ _ (by omega)]
        refine h _ ⟨m1, wp_Y_D m2 (fr1 _ _ (by omega) (by omega)) (fun k => fr1 _ _ (by omega) (by omega)), m3, m4, m5, dm_Z_u m6 (fun j hj => fr1 _ _ (by omega) (by omega)), dm_G_F m7 (fun j hj => fr1 _ _ (by omega) (by omega)) (fun c j hc => fr1 _ _ (by omega) (by omega)), ⟨?_, ?_, ?_, ?_, ?_, ?_⟩, dm_push m9 hl hk ?_ ?_ ?_ ?_ ?_ ?_ ?_ ?_, dm_N_F m10 (fr1 _ _ (by omega) (by omega)) (fun c j hc => fr1 _ _ (by omega) (by omega))⟩ (dm_MF_tr hF1 (fun c j a b => fr1 c j (by omega) (by omega)))
        · rw [wv_u_no _ _ (by omega), wv_u_no _ _ (by omega), wv_u_at]
        · rw [fr1 _ _ (by omega) (by omega)]; exact r2
        · rw [fr1 _ _ (by omega) (by omega)]; exact r3
        · rw [wv_u_no _ _ (by omega), wv_u_at]
        · rw [fr1 _ _ (by omega) (by omega)]; exact r5
        · rw [wv_u_at]
        · rw [wv_u_no _ _ (by omega), wv_u_no _ _ (by omega), wv_u_no _ _ (by omega), wv_u_at]
        · rw [fr2, wv_u_no _ _ (by omega)]; exact s0
        · rw [fr2, wv_u_no _ _ (by omega)]; exact s1
        · rw [fr2, wv_u_no _ _ (by omega)]; exact s2
        · rw [fr2, wv_u_no _ _ (by omega)]; exact s3
        · rw [fr2, wv_u_no _ _ (by omega)]; exact s4
        · rw [fr2, wv_u_at]
        · intro j hj
          rw [fr2, wv_u_no _ _ (by omega)]
          exact qj j hj
      refine ⟨fun w1 => ?_, fun w1 => ?_⟩
      · rw [q0] at w1
        refine ⟨_, wm_t hT rfl, a5.2, by decide, ?_⟩
        exact ⟨⟨rfl, rfl⟩, fin _ _ (by rw [w1]; rfl) b5⟩
      · rw [q0] at w1
        have htn1 : r.2.2.2.2.2 = Int32.ofInt 1 := htn.resolve_left w1
        refine ⟨_, wm_t hT rfl, a5.2, by decide, ?_⟩
        exact ⟨⟨rfl, rfl⟩, fin _ _ htn1.symm b5⟩
    · cases hP
