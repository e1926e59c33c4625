/-! ===== the reference: a part ended ===== -/
def dm_sum (r : dm_r) (v : Int32) : dm_r := (v, r.2.1, r.2.2.1, Int32.ofInt (-1), r.2.2.2.2.1, r.2.2.2.2.2)
def dm_x0 (w : Nat) (x : ds_q) : ds_q := if 57 < x.2.length then (tk_refAt w x.1, x.2) else x
def dm_x1 (A B w : Nat) (x : ds_q) (r : dm_r) : Int32 × ds_q := dm_gt A B w r.1 (ds_op r.2.2.2.1) (dm_x0 w x)
def dm_x2 (A B w : Nat) (x : ds_q) (r : dm_r) : Int32 × ds_q := dm_gt A B w (ds_op r.1) r.2.2.2.1 (dm_x1 A B w x r).2
def dm_x3 (A B w : Nat) (x : ds_q) (r : dm_r) : Int32 × ds_q := dm_gt A B w (ds_op (dm_x1 A B w x r).1) (ds_op (dm_x2 A B w x r).1) (dm_x2 A B w x r).2
def dm_o1 (A B w : Nat) (x : ds_q) (r : dm_r) : Int32 × ds_q := dm_gt A B w (ds_op r.1) (ds_op r.2.2.2.1) x
def dm_end (A B : Nat) (x : ds_q) (r : dm_r) : ds_q × dm_r := if r.1 < 0 then (x, dm_sum r r.2.2.2.1) else if r.2.1 = (Int8.ofInt 22).toInt32 then ((dm_o1 A B r.2.2.1.toNatClampNeg x r).2, dm_sum r (ds_op (dm_o1 A B r.2.2.1.toNatClampNeg x r).1)) else ((dm_x3 A B r.2.2.1.toNatClampNeg x r).2, dm_sum r (ds_op (dm_x3 A B r.2.2.1.toNatClampNeg x r).1))
def dm_h480 (T : wv_T) (t : Nat → Int32) (ts : List wt_t) (n : Nat) (nm : ds_n) (A B : Nat) (x y : ds_q) (v : Int32) (r : dm_r) (fr : List dm_r) (N : Nat) (I : Nat → Nat → Int32) (L : Nat → Nat → Int64) (R : Nat → Nat → Option Nat) : Nat → Option (Nat → wv_P) := fun pc =>
  if pc = 76 then some (fun m lv st T1 N1 I1 L1 R1 nc ns => lv = [some (.ref 460), none, none, none] ∧ st = [] ∧ T1 = T ∧ N1 = N ∧ L1 = L ∧ R1 = R ∧ nc = 0 ∧ ns = 0 ∧ m = 2 ∧ dm_M T t ts n nm A B (dm_x0 r.2.2.1.toNatClampNeg x, r, fr) I1 ∧ dm_MF I I1 ∧ dm_ok r.2.2.1 ∧ y = (dm_x3 A B r.2.2.1.toNatClampNeg x r).2 ∧ v = ds_op (dm_x3 A B r.2.2.1.toNatClampNeg x r).1)
  else if pc = 139 then some (fun m lv st T1 N1 I1 L1 R1 nc ns => ∃ x1 x2 : Option Value, lv = [some (.ref 460), x1, x2, none] ∧ st = [] ∧ T1 = T ∧ N1 = N ∧ L1 = L ∧ R1 = R ∧ nc = 0 ∧ ns = 0 ∧ m = 1 ∧ dm_M T t ts n nm A B (y, (v, r.2.1, r.2.2.1, r.2.2.2.1, r.2.2.2.2.1, r.2.2.2.2.2), fr) I1 ∧ dm_MF I I1)
  else none
def dm_c480 : wv_c1 := fun as T N I L R q => ∃ (t : Nat → Int32) (ts : List wt_t) (n : Nat) (nm : ds_n) (A B : Nat) (x : ds_q) (r : dm_r) (fr : List dm_r), as = [.ref 460] ∧ dm_M T t ts n nm A B (x, r, fr) I ∧ (¬ r.1 < 0 → dm_ok r.2.2.1) ∧ ∀ I1, dm_M T t ts n nm A B ((dm_end A B x r).1, (dm_end A B x r).2, fr) I1 → dm_MF I I1 → q (.inl none) T N I1 L R 0 0
set_option maxRecDepth 100000 in
theorem wM_480 : ∃ cb ci np, pt_mt 480 = some (32, cb, 3, false, none, ci, np) := ⟨_, _, _, rfl⟩
set_option maxRecDepth 100000 in
set_option maxHeartbeats 2000000 in
theorem dm_endPart {sc : pt_Sc} {d : Nat} : wv_C wm_fx sc (d + 1 + 1 + 1) 480 dm_c480 := by
  rintro as T N I L R q ⟨t, ts, n, nm, A, B, x, r, fr, rfl, hM, hok, h⟩ w0 HR
  obtain ⟨cb, ci, np, hm⟩ := wM_480
  obtain ⟨y, v, hyv⟩ : ∃ (y : ds_q) (v : Int32), (if r.1 < 0 then (x, r.2.2.2.1) else if r.2.1 = (Int8.ofInt 22).toInt32 then ((dm_o1 A B r.2.2.1.toNatClampNeg x r).2, ds_op (dm_o1 A B r.2.2.1.toNatClampNeg x r).1) else ((dm_x3 A B r.2.2.1.toNatClampNeg x r).2, ds_op (dm_x3 A B r.2.2.1.toNatClampNeg x r).1)) = (y, v) := ⟨_, _, rfl⟩
  have he : dm_end A B x r = (y, dm_sum r v) := by
    unfold dm_end
    split at hyv
    · rename_i h1
      rw [if_pos h1]
      cases hyv
      rfl
    · rename_i h1
      rw [if_neg h1]
      split at hyv
      · rename_i h2
        rw [if_pos h2]
        cases hyv
        rfl
      · rename_i h2
        rw [if_neg h2]
        cases hyv
        rfl
  rw [he] at h
  clear he
  have hc478 : wv_C wm_fx sc (d + 1 + 1) 478 dm_c478 := wv_C_deep (by omega) (dm_opposite (d := d))
  have hc479 : wv_C wm_fx sc (d + 1 + 1) 479 dm_c479 := wv_C_deep (by omega) (dm_newGate (d := d))
  have hc358 : wv_C wm_fx sc (d + 1 + 1) 358 wp_c358 := wv_C_deep (by omega) (wp_badC (d := d))
  refine wv_meth (hh := none) rfl (sp := wv_sp [(478, dm_c478), (479, dm_c479), (358, wp_c358)]) (hd := dm_h480 T t ts n nm A B x y v r fr N I L R) (n := 300) (n1 := 300) hm zc_480 rfl (wv_sp_ok (fun q hq => by
    rcases List.mem_cons.mp hq with h | h
    · rw [h]; exact hc478
    rcases List.mem_cons.mp h with h | h
    · rw [h]; exact hc479
    rw [List.mem_singleton.mp h]; exact hc358)) ?_ ?_ HR
  · have hR := hM.2.2.2.2.2.2.2.1
    obtain ⟨r1, r2, r3, r4, r5, r6⟩ := hR
    refine ⟨fun h1 => ?_, fun h1 => ?_⟩
    · rw [r1] at h1
      have hn : ¬ r.1 < 0 := Int32.not_lt.mpr h1
      obtain ⟨w1, w2⟩ := dm_ok_n (hok hn)
      rw [if_neg hn] at hyv
      refine ⟨fun h2 => ?_, fun h2 => ?_⟩
      · rw [r2] at h2
        rw [if_neg h2] at hyv
        cases hyv
        have e57 : ((Int8.ofInt 57).toInt32).toInt = 57 := rfl
        obtain ⟨g1, g2, g3, g4, g5⟩ := hM.2.2.2.2.2.2.1
        have g3 : I 460 103 = Int32.ofNat x.2.length := g3
        have g4 : x.2.length ≤ 60 := g4
        refine ⟨fun h3 => ?_, fun h3 => ?_⟩
        · rw [g3, wi_le, wi_on (by omega), e57] at h3
          refine ⟨2, rfl, rfl, rfl, rfl, rfl, rfl, rfl, rfl, rfl, ?_, dm_MF_id _, hok hn, rfl, rfl⟩
          unfold dm_x0
          rw [if_neg (by omega)]
          exact hM
        · rw [g3, wi_le, wi_on (by omega), e57] at h3
          refine ⟨_, rfl, ?_⟩
          refine ⟨2, rfl, rfl, rfl, rfl, rfl, rfl, rfl, rfl, rfl, ?_, dm_MF_F dm_F_bad, hok hn, rfl, rfl⟩
          unfold dm_x0
          rw [if_pos (by omega), r3]
          have := dm_M_d hM (dm_Z_bad (w := r.2.2.1.toNatClampNeg) hM.2.2.2.2.2.1 w2) dm_F_bad
          rw [← w1] at this
          exact this
      · rw [r2] at h2
        rw [if_pos (Decidable.not_not.mp h2)] at hyv
        cases hyv
        refine ⟨_, rfl, ?_⟩
        refine ⟨_, rfl, ?_⟩
        obtain ⟨m1, m2, m3, m4, m5, m6, m7, m8⟩ := hM
        refine ⟨t, ts, n, A, B, r.2.2.1.toNatClampNeg, ds_op r.1, ds_op r.2.2.2.1, x, ?_, m1, m4, m5, w2, m6, m7, fun I2 z2 g2 f2 => ?_⟩
        · show [Value.ref 460, .int (ds_op (I 460 111)), .int (ds_op (I 460 114)), .int (I 460 113)] = _
          rw [r1, r4, r3, ← w1]
        have hM2 := dm_M_g (y := (dm_o1 A B r.2.2.1.toNatClampNeg x r).2) ⟨m1, m2, m3, m4, m5, m6, m7, m8⟩ z2 g2 f2
        obtain ⟨q1, q2, q3, q4, q5, q6⟩ := hM2.2.2.2.2.2.2.2.1
        refine ⟨_, rfl, ?_⟩
        exact ⟨1, none, none, rfl, rfl, rfl, rfl, rfl, rfl, rfl, rfl, rfl, dm_M_r hM2 ⟨wv_u_at _ _ _ _, by rw [wv_u_no _ _ (by omega)]; exact q2, by rw [wv_u_no _ _ (by omega)]; exact q3, by rw [wv_u_no _ _ (by omega)]; exact q4, by rw [wv_u_no _ _ (by omega)]; exact q5, by rw [wv_u_no _ _ (by omega)]; exact q6⟩ (fun c j hc => wv_u_no _ _ (by omega)), dm_MF_tr (dm_MF_G f2) (dm_MF_u (by omega))⟩
    · rw [r1] at h1
      have hn : r.1 < 0 := Int32.not_le.mp h1
      rw [if_pos hn] at hyv
      cases hyv
      exact ⟨1, none, none, rfl, rfl, rfl, rfl, rfl, rfl, rfl, rfl, rfl, dm_M_r hM ⟨by rw [wv_u_at]; exact r4, by rw [wv_u_no _ _ (by omega)]; exact r2, by rw [wv_u_no _ _ (by omega)]; exact r3, by rw [wv_u_no _ _ (by omega)]; exact r4, by rw [wv_u_no _ _ (by omega)]; exact r5, by rw [wv_u_no _ _ (by omega)]; exact r6⟩ (fun c j hc => wv_u_no _ _ (by omega)), dm_MF_u (by omega)⟩
  · intro pc P hP m lv st T1 N1 I1 L1 R1 nc ns hh
    unfold dm_h480 at hP
    split at hP
    · cases hP
      rename_i hpc
      subst hpc
      obtain ⟨rfl, rfl, rfl, rfl, rfl, rfl, rfl, rfl, hm, hM1, hF1, hok1, hy, hv⟩ := hh
      obtain ⟨w1, w2⟩ := dm_ok_n hok1
      obtain ⟨g1, hg1⟩ : ∃ g, dm_x1 A B r.2.2.1.toNatClampNeg x r = g := ⟨_, rfl⟩
      obtain ⟨g2, hg2⟩ : ∃ g, dm_gt A B r.2.2.1.toNatClampNeg (ds_op r.1) r.2.2.2.1 g1.2 = g := ⟨_, rfl⟩
      obtain ⟨g3, hg3⟩ : ∃ g, dm_gt A B r.2.2.1.toNatClampNeg (ds_op g1.1) (ds_op g2.1) g2.2 = g := ⟨_, rfl⟩
      have e2 : dm_x2 A B r.2.2.1.toNatClampNeg x r = g2 := by unfold dm_x2; rw [hg1]; exact hg2
      have e3 : dm_x3 A B r.2.2.1.toNatClampNeg x r = g3 := by unfold dm_x3; rw [hg1, e2]; exact hg3
      rw [e3] at hy hv
      unfold dm_x1 at hg1
      clear e2 e3
      generalize r.2.2.1.toNatClampNeg = w at *
      obtain ⟨r1, r2, r3, r4, r5, r6⟩ := hM1.2.2.2.2.2.2.2.1
      have r1 : I1 460 111 = r.1 := r1
      have r3 : I1 460 113 = r.2.2.1 := r3
      have r4 : I1 460 114 = r.2.2.2.1 := r4
      refine ⟨_, rfl, ?_⟩
      refine ⟨t, ts, n, A, B, w, r.1, ds_op r.2.2.2.1, dm_x0 w x, ?_, hM1.1, hM1.2.2.2.1, hM1.2.2.2.2.1, w2, hM1.2.2.2.2.2.1, hM1.2.2.2.2.2.2.1, fun I2 z2 k2 f2 => ?_⟩
      · show [Value.ref 460, .int (I1 460 111), .int (ds_op (I1 460 114)), .int (I1 460 113)] = _
        rw [r1, r4, r3, w1]
      rw [hg1] at z2 k2 ⊢
      have hM2 := dm_M_g (y := g1.2) hM1 z2 k2 f2
      obtain ⟨a1, a2, a3, a4, a5, a6⟩ := hM2.2.2.2.2.2.2.2.1
      have a1 : I2 460 111 = r.1 := a1
      have a3 : I2 460 113 = r.2.2.1 := a3
      have a4 : I2 460 114 = r.2.2.2.1 := a4
      refine ⟨_, rfl, ?_⟩
      refine ⟨t, ts, n, A, B, w, ds_op r.1, r.2.2.2.1, g1.2, ?_, hM2.1, hM2.2.2.2.1, hM2.2.2.2.2.1, w2, hM2.2.2.2.2.2.1, hM2.2.2.2.2.2.2.1, fun I3 z3 k3 f3 => ?_⟩
      · show [Value.ref 460, .int (ds_op (I2 460 111)), .int (I2 460 114), .int (I2 460 113)] = _
        rw [a1, a4, a3, w1]
      rw [hg2] at z3 k3 ⊢
      have hM3 := dm_M_g (y := g2.2) hM2 z3 k3 f3
      obtain ⟨b1, b2, b3, b4, b5, b6⟩ := hM3.2.2.2.2.2.2.2.1
      have b3 : I3 460 113 = r.2.2.1 := b3
      refine ⟨_, rfl, ?_⟩
      refine ⟨_, rfl, ?_⟩
      refine ⟨t, ts, n, A, B, w, ds_op g1.1, ds_op g2.1, g2.2, ?_, hM3.1, hM3.2.2.2.1, hM3.2.2.2.2.1, w2, hM3.2.2.2.2.2.1, hM3.2.2.2.2.2.2.1, fun I4 z4 k4 f4 => ?_⟩
      · show [Value.ref 460, .int (ds_op g1.1), .int (ds_op g2.1), .int (I3 460 113)] = _
        rw [b3, w1]
      rw [hg3] at z4 k4 ⊢
      have hM4 := dm_M_g (y := g3.2) hM3 z4 k4 f4
      obtain ⟨c1, c2, c3, c4, c5, c6⟩ := hM4.2.2.2.2.2.2.2.1
      refine ⟨_, rfl, ?_⟩
      refine ⟨1, by omega, _, _, rfl, rfl, rfl, rfl, rfl, rfl, rfl, rfl, rfl, ?_, dm_MF_tr (dm_MF_tr (dm_MF_tr (dm_MF_tr hF1 (dm_MF_G f2)) (dm_MF_G f3)) (dm_MF_G f4)) (dm_MF_u (by omega))⟩
      rw [hy, hv]
      exact dm_M_r hM4 ⟨wv_u_at _ _ _ _, by rw [wv_u_no _ _ (by omega)]; exact c2, by rw [wv_u_no _ _ (by omega)]; exact c3, by rw [wv_u_no _ _ (by omega)]; exact c4, by rw [wv_u_no _ _ (by omega)]; exact c5, by rw [wv_u_no _ _ (by omega)]; exact c6⟩ (fun c j hc => wv_u_no _ _ (by omega))
    · split at hP
      · cases hP
        rename_i hpc0 hpc
        subst hpc
        obtain ⟨x1, x2, rfl, rfl, rfl, rfl, rfl, rfl, rfl, rfl, hm, hM1, hF1⟩ := hh
        obtain ⟨r1, r2, r3, r4, r5, r6⟩ := hM1.2.2.2.2.2.2.2.1
        refine h _ (dm_M_r hM1 ⟨by rw [wv_u_no _ _ (by omega)]; exact r1, by rw [wv_u_no _ _ (by omega)]; exact r2, by rw [wv_u_no _ _ (by omega)]; exact r3, wv_u_at _ _ _ _, by rw [wv_u_no _ _ (by omega)]; exact r5, by rw [wv_u_no _ _ (by omega)]; exact r6⟩ (fun c j hc => wv_u_no _ _ (by omega))) (dm_MF_tr hF1 (dm_MF_u (by omega)))
      · cases hP
