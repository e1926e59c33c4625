/-! ===== the reference: the rest of the numbers, read ===== -/
theorem nm_li_eq (k : Nat) : Int32.ofInt 2 + Int32.ofInt 2 * Int32.ofNat k = nm_li k := by
  unfold nm_li
  rw [Int32.mul_add]
  rfl
def wp_l489 (A B G k : Nat) (x3 : Option Value) : List (Option Value) := [some (.ref 460), some (.int (Int32.ofNat A + Int32.ofNat B + Int32.ofNat G)), some (.int (Int32.ofNat k)), x3, none, none]
def wp_h489 (t : Nat → Int32) (ts : List wt_t) (n A B G : Nat) (s0 : wt_q) (T : wv_T) (N : Nat) (I : Nat → Nat → Int32) (L : Nat → Nat → Int64) (R : Nat → Nat → Option Nat) : Nat → Option (Nat → wv_P) := fun pc =>
  if pc = 2 then some (fun m lv st T1 N1 I1 L1 R1 nc ns => ∃ (k : Nat) (x3 : Option Value), lv = wp_l489 A B G k x3 ∧ st = [] ∧ T1 = T ∧ N1 = N ∧ L1 = L ∧ R1 = R ∧ nc = 0 ∧ ns = 0 ∧ k ≤ A ∧ m = 1000 - k ∧ wp_G I I1 ∧ (((nm_sI ts n s0 k).2 = none ∧ wp_Z (nm_st t n) ts n (nm_sI ts n s0 k) I1 ∧ wm_V ts n A B G s0 I1 0 0 0 0 0) ∨ wp_X ts n A B G s0 I1))
  else if pc = 40 then some (fun m lv st T1 N1 I1 L1 R1 nc ns => ∃ (k : Nat) (x3 : Option Value), lv = wp_l489 A B G k x3 ∧ st = [] ∧ T1 = T ∧ N1 = N ∧ L1 = L ∧ R1 = R ∧ nc = 0 ∧ ns = 0 ∧ k ≤ B ∧ m = 800 - k ∧ wp_G I I1 ∧ (((nmBk ts n A B G s0 k).2 = none ∧ wp_Z (nm_st t n) ts n (nmBk ts n A B G s0 k) I1 ∧ wm_V ts n A B G s0 I1 0 0 k k 0) ∨ wp_X ts n A B G s0 I1))
  else if pc = 136 then some (fun m lv st T1 N1 I1 L1 R1 nc ns => ∃ (k : Nat) (x3 : Option Value), lv = wp_l489 A B G k x3 ∧ st = [] ∧ T1 = T ∧ N1 = N ∧ L1 = L ∧ R1 = R ∧ nc = 0 ∧ ns = 0 ∧ k ≤ 6 ∧ m = 600 - k ∧ wp_G I I1 ∧ (((nmCk ts n A B G s0 k).2 = none ∧ wp_Z (nm_st t n) ts n (nmCk ts n A B G s0 k) I1 ∧ wm_V ts n A B G s0 I1 0 0 B B k) ∨ wp_X ts n A B G s0 I1))
  else if pc = 173 then some (fun m lv st T1 N1 I1 L1 R1 nc ns => ∃ (k : Nat) (x3 : Option Value), lv = wp_l489 A B G k x3 ∧ st = [] ∧ T1 = T ∧ N1 = N ∧ L1 = L ∧ R1 = R ∧ nc = 0 ∧ ns = 0 ∧ k ≤ G ∧ m = 400 - k ∧ wp_G I I1 ∧ (((nmDk ts n A B G s0 k).2 = none ∧ wp_Z (nm_st t n) ts n (nmDk ts n A B G s0 k) I1 ∧ wm_V ts n A B G s0 I1 k k B B 6) ∨ wp_X ts n A B G s0 I1))
  else none
/-- on, with the tokens or with a fault -/
theorem wp_nx {st : Nat → Option wt_t × Nat} {ts : List wt_t} {n A B G : Nat} {s0 s : wt_q} {I1 : Nat → Nat → Int32} {P : Prop} (h : wp_Z st ts n s I1) (hE : ∀ z, s.2 = some z → (nmE ts n A B G s0).2 = some z) (hP : s.2 = none → P) : (s.2 = none ∧ wp_Z st ts n s I1 ∧ P) ∨ wp_X ts n A B G s0 I1 := by
  cases hs : s.2 with
  | none => exact Or.inl ⟨rfl, h, hP hs⟩
  | some z => exact Or.inr (wp_X_of h hs (hE z hs))
def wp_c489 : wv_c1 := fun as T N I L R q => ∃ (t : Nat → Int32) (ts : List wt_t) (n A B G : Nat) (s0 : wt_q), as = [.ref 460, .int (Int32.ofNat A + Int32.ofNat B + Int32.ofNat G)] ∧ wm_T T ∧ A ≤ 3 ∧ B ≤ 5 ∧ G ≤ 60 ∧ wp_Y T I t n ∧ s0.2 = none ∧ wp_Z (nm_st t n) ts n s0 I ∧ I 460 101 = Int32.ofNat A ∧ I 460 102 = Int32.ofNat B ∧ I 460 103 = Int32.ofNat G ∧ ∀ I1, wp_G I I1 → (((nmDk ts n A B G s0 G).2 = none ∧ wp_Z (nm_st t n) ts n (nmDk ts n A B G s0 G) I1 ∧ wm_V ts n A B G s0 I1 G G B B 6) ∨ wp_X ts n A B G s0 I1) → q (.inl none) T N I1 L R 0 0
set_option maxRecDepth 100000 in
theorem wM_489 : ∃ cb ci np, pt_mt 489 = some (32, cb, 4, false, none, ci, np) := ⟨_, _, _, rfl⟩
set_option maxRecDepth 100000 in
set_option maxHeartbeats 2000000 in
theorem wp_readRest {sc : pt_Sc} {d : Nat} : wv_C wm_fx sc (d + 1 + 1 + 1) 489 wp_c489 := by
  rintro as T N I L R q ⟨t, ts, n, A, B, G, s0, rfl, hT, hA, hB, hG, hY, hs0, hZ0, i101, i102, i103, hq⟩ w0 HR
  obtain ⟨cb, ci, np, hm⟩ := wM_489
  have hc488 : wv_C wm_fx sc (d + 1 + 1) 488 wp_c488b := wv_C_deep (by omega) (wp_numberTok (d := d))
  refine wv_meth (hh := none) rfl (sp := wv_sp [(488, wp_c488b)]) (hd := wp_h489 t ts n A B G s0 T N I L R) (n := 400) (n1 := 300) hm zc_489 rfl (wv_sp_ok (fun q hq => by rw [List.mem_singleton.mp hq]; exact hc488)) ?_ ?_ HR
  · refine ⟨1000, 0, none, rfl, rfl, rfl, rfl, rfl, rfl, rfl, rfl, Nat.zero_le _, rfl, wp_G_id _, Or.inl ⟨hs0, hZ0, ?_⟩⟩
    exact ⟨fun j hj => by omega, fun j hj => by omega, fun j hj => by omega, fun j hj => by omega, fun j hj => by omega⟩
  · intro pc P hP m lv st T1 N1 I1 L1 R1 nc ns hh
    have eA := wi_on (n := A) (by omega)
    have eB := wi_on (n := B) (by omega)
    have eG := wi_on (n := G) (by omega)
    unfold wp_h489 at hP
    split at hP
    · cases hP
      rename_i hpc
      subst hpc
      obtain ⟨k, x3, rfl, rfl, rfl, rfl, rfl, rfl, rfl, rfl, hk, hm, hGG, hcs⟩ := hh
      have ek := wi_on (n := k) (by omega)
      have en := wi_onn (n := k) (by omega)
      have hY1 := wp_Y_G hY hGG
      have j101 : I1 460 101 = Int32.ofNat A := by rw [hGG _ _ (by omega) (by omega)]; exact i101
      have j102 : I1 460 102 = Int32.ofNat B := by rw [hGG _ _ (by omega) (by omega)]; exact i102
      have j103 : I1 460 103 = Int32.ofNat G := by rw [hGG _ _ (by omega) (by omega)]; exact i103
      rcases hcs with ⟨hn0, hZ, hV⟩ | hX
      · have h8 := wp_Z_8 hZ hn0
        refine ⟨fun h1 => ?_, fun h1 => ?_⟩
        · have e : k = A := by rw [j101, wi_le, ek, eA] at h1; omega
          subst e
          exact ⟨800, by omega, 0, x3, rfl, rfl, rfl, rfl, rfl, rfl, rfl, rfl, Nat.zero_le _, rfl, hGG, Or.inl ⟨hn0, hZ, hV⟩⟩
        have hlt : k < A := by rw [j101, wi_le, ek, eA] at h1; omega
        refine ⟨fun z => (h8 z).elim, fun _ => ?_⟩
        refine ⟨_, _, ts, n, (nm_sI ts n s0 k).1, t, rfl, hY1, wp_Z_s hZ hn0, fun v I2 z2 _ f2 => ?_⟩
        rw [wp_Zs hn0, nm_li_eq] at z2
        refine ⟨1000 - (k + 1), by omega, k + 1, x3, by unfold wp_l489; rw [← wq_4s]; rfl, rfl, rfl, rfl, rfl, rfl, rfl, rfl, by omega, rfl, wp_G_tr hGG (wp_G_F f2), ?_⟩
        exact wp_nx (s := nm_sI ts n s0 (k + 1)) z2 (fun z hz => nmE_A (k := k + 1) (by omega) hz) (fun _ => wm_V_F hV f2)
      · -- a fault was told
        have h8 := wp_X_8 hX
        have go : ∃ m1, m1 < m ∧ ∃ (k1 : Nat) (y3 : Option Value), wp_l489 A B G 0 x3 = wp_l489 A B G k1 y3 ∧ ([] : List Value) = [] ∧ T1 = T1 ∧ N1 = N1 ∧ L1 = L1 ∧ R1 = R1 ∧ 0 = 0 ∧ 0 = 0 ∧ k1 ≤ B ∧ m1 = 800 - k1 ∧ wp_G I I1 ∧ (((nmBk ts n A B G s0 k1).2 = none ∧ wp_Z (nm_st t n) ts n (nmBk ts n A B G s0 k1) I1 ∧ wm_V ts n A B G s0 I1 0 0 k1 k1 0) ∨ wp_X ts n A B G s0 I1) := ⟨800, by omega, 0, x3, rfl, rfl, rfl, rfl, rfl, rfl, rfl, rfl, Nat.zero_le _, rfl, hGG, Or.inr hX⟩
        refine ⟨fun _ => go, fun _ => ?_⟩
        exact ⟨fun _ => go, fun z => (z h8).elim⟩
    · split at hP
      · cases hP
        rename_i h0 hpc
        subst hpc
        obtain ⟨k, x3, rfl, rfl, rfl, rfl, rfl, rfl, rfl, rfl, hk, hm, hGG, hcs⟩ := hh
        have ek := wi_on (n := k) (by omega)
        have en := wi_onn (n := k) (by omega)
        have hY1 := wp_Y_G hY hGG
        have j101 : I1 460 101 = Int32.ofNat A := by rw [hGG _ _ (by omega) (by omega)]; exact i101
        have j102 : I1 460 102 = Int32.ofNat B := by rw [hGG _ _ (by omega) (by omega)]; exact i102
        have j103 : I1 460 103 = Int32.ofNat G := by rw [hGG _ _ (by omega) (by omega)]; exact i103
        rcases hcs with ⟨hn0, hZ, hV⟩ | hX
        · have h8 := wp_Z_8 hZ hn0
          refine ⟨fun h1 => ?_, fun h1 => ?_⟩
          · have e : k = B := by rw [j102, wi_le, ek, eB] at h1; omega
            subst e
            exact ⟨600, by omega, 0, x3, rfl, rfl, rfl, rfl, rfl, rfl, rfl, rfl, Nat.zero_le _, rfl, hGG, Or.inl ⟨hn0, hZ, hV⟩⟩
          have hlt : k < B := by rw [j102, wi_le, ek, eB] at h1; omega
          have bk : 0 ≤ Int32.ofNat k ∧ (Int32.ofNat k).toInt < (5 : Nat) := ⟨by rw [wi_le, ek, wi_0]; omega, by rw [ek]; omega⟩
          refine ⟨fun z => (h8 z).elim, fun _ => ?_⟩
          refine ⟨_, _, ts, n, (nmBk ts n A B G s0 k).1, t, rfl, hY1, wp_Z_s hZ hn0, fun v I2 z2 _ f2 => ?_⟩
          rw [wp_Zs hn0, j101] at z2
          obtain ⟨s1, hs1⟩ : ∃ s, nm_l1 ts n (Int32.ofNat A) k (nmBk ts n A B G s0 k) = s := ⟨_, rfl⟩
          have z2 : wp_Z (nm_st t n) ts n s1 I2 := by rw [← hs1]; exact z2
          obtain ⟨r2, hr2⟩ : ∃ r, nm_rd ts n (Int32.ofInt 0) (nmGr A B G) s1 = r := ⟨_, rfl⟩
          obtain ⟨r3, hr3⟩ : ∃ r, nm_rd ts n (Int32.ofInt 0) (Int32.ofInt 1) r2.2 = r := ⟨_, rfl⟩
          have hnx : nm_nx ts n (Int32.ofNat A) (nmGr A B G) (nmA ts n A s0) k = r2.1 := by
            rw [← hr2, ← hs1]; rfl
          have hfi : nm_fi ts n (Int32.ofNat A) (nmGr A B G) (nmA ts n A s0) k = if r3.1 = Int32.ofInt 1 then 1 else 0 := by
            rw [← hr3, ← hr2, ← hs1]; rfl
          have hnext : nmBk ts n A B G s0 (k + 1) = r3.2 := by
            rw [← hr3, ← hr2, ← hs1]; rfl
          have hE3 : ∀ z, r3.2.2 = some z → (nmE ts n A B G s0).2 = some z := fun z hz => nmE_B (k := k + 1) (by omega) (by rw [hnext]; exact hz)
          have hE2 : ∀ z, r2.2.2 = some z → (nmE ts n A B G s0).2 = some z := fun z hz => hE3 z (by rw [← hr3]; exact nm_rd_some hz)
          have hE1 : ∀ z, s1.2 = some z → (nmE ts n A B G s0).2 = some z := fun z hz => hE2 z (by rw [← hr2]; exact nm_rd_some hz)
          have G2 := wp_G_tr hGG (wp_G_F f2)
          cases hs : s1.2 with
          | some z =>
            have X2 := wp_X_of z2 hs (hE1 z hs)
            have X3 : ∀ x y, wp_X ts n A B G s0 (wv_u (wv_u I2 532 k x) 533 k y) := fun x y => wp_X_u X2 (by rw [wv_u_no _ _ (by omega), wv_u_no _ _ (by omega)]) (by rw [wv_u_no _ _ (by omega), wv_u_no _ _ (by omega)])
            have G3 : ∀ x y, wp_G I (wv_u (wv_u I2 532 k x) 533 k y) := fun x y => wp_G_tr (wp_G_tr G2 (wp_G_u (by omega))) (wp_G_u (by omega))
            refine ⟨fun _ => ?_, fun z => (z (wp_X_8 X2)).elim⟩
            refine ⟨_, wm_t hT rfl, bk, by decide, ?_⟩
            rw [en]
            refine ⟨fun _ => ?_, fun z => (z (by rw [wv_u_no _ _ (by omega)]; exact wp_X_8 X2)).elim⟩
            refine ⟨_, wm_t hT rfl, bk, by decide, ?_⟩
            rw [en]
            exact ⟨800 - (k + 1), by omega, k + 1, _, by unfold wp_l489; rw [← wq_4s]; rfl, rfl, rfl, rfl, rfl, rfl, rfl, rfl, by omega, rfl, G3 _ _, Or.inr (X3 _ _)⟩
          | none =>
            refine ⟨fun z => (wp_Z_8 z2 hs z).elim, fun _ => ?_⟩
            refine ⟨_, _, ts, n, s1.1, t, rfl, wp_Y_G hY G2, wp_Z_s z2 hs, fun v2 I3 z3 hv3 f3 => ?_⟩
            rw [wp_Zs hs] at z3 hv3
            have z3 : wp_Z (nm_st t n) ts n r2.2 I3 := by rw [← hr2]; exact z3
            have hv3 : r2.2.2 = none → v2 = r2.1 := by rw [← hr2]; exact hv3
            have G3 := wp_G_tr G2 (wp_G_F f3)
            refine ⟨_, wm_t hT rfl, bk, by decide, ?_⟩
            rw [en]
            have G4 : wp_G I (wv_u I3 532 k v2) := wp_G_tr G3 (wp_G_u (by omega))
            have z4 : wp_Z (nm_st t n) ts n r2.2 (wv_u I3 532 k v2) := wp_Z_u z3 (by rw [wv_u_no _ _ (by omega)]) (by rw [wv_u_no _ _ (by omega)])
            cases hs2 : r2.2.2 with
            | some z =>
              have X2 := wp_X_of z4 hs2 (hE2 z hs2)
              have X3 : ∀ y, wp_X ts n A B G s0 (wv_u (wv_u I3 532 k v2) 533 k y) := fun y => wp_X_u X2 (by rw [wv_u_no _ _ (by omega)]) (by rw [wv_u_no _ _ (by omega)])
              refine ⟨fun _ => ?_, fun z => (z (wp_X_8 X2)).elim⟩
              refine ⟨_, wm_t hT rfl, bk, by decide, ?_⟩
              rw [en]
              exact ⟨800 - (k + 1), by omega, k + 1, _, by unfold wp_l489; rw [← wq_4s]; rfl, rfl, rfl, rfl, rfl, rfl, rfl, rfl, by omega, rfl, wp_G_tr G4 (wp_G_u (by omega)), Or.inr (X3 _)⟩
            | none =>
              have V4 := wm_V_nx (wm_V_F (wm_V_F hV f2) f3) (x := v2) (by rw [hnx]; exact hv3 hs2)
              refine ⟨fun z => (wp_Z_8 z4 hs2 z).elim, fun _ => ?_⟩
              refine ⟨_, _, ts, n, r2.2.1, t, rfl, wp_Y_G hY G4, wp_Z_s z4 hs2, fun v5 I5 z5 hv5 f5 => ?_⟩
              rw [wp_Zs hs2] at z5 hv5
              have z5 : wp_Z (nm_st t n) ts n r3.2 I5 := by rw [← hr3]; exact z5
              have hv5 : r3.2.2 = none → v5 = r3.1 := by rw [← hr3]; exact hv5
              have G5 := wp_G_tr G4 (wp_G_F f5)
              have fin : ∀ y : Int32, (r3.2.2 = none → y = nm_fi ts n (Int32.ofNat A) (nmGr A B G) (nmA ts n A s0) k) → wp_G I (wv_u I5 533 k y) ∧ (((nmBk ts n A B G s0 (k + 1)).2 = none ∧ wp_Z (nm_st t n) ts n (nmBk ts n A B G s0 (k + 1)) (wv_u I5 533 k y) ∧ wm_V ts n A B G s0 (wv_u I5 533 k y) 0 0 (k + 1) (k + 1) 0) ∨ wp_X ts n A B G s0 (wv_u I5 533 k y)) := by
                intro y hy
                refine ⟨wp_G_tr G5 (wp_G_u (by omega)), ?_⟩
                rw [hnext]
                refine wp_nx (wp_Z_u z5 (by rw [wv_u_no _ _ (by omega)]) (by rw [wv_u_no _ _ (by omega)])) hE3 (fun hz => ?_)
                exact wm_V_fi (wm_V_F V4 f5) (hy hz)
              refine ⟨fun h6 => ?_, fun h6 => ?_⟩
              · obtain ⟨q1, q2⟩ := fin (vp_nar .boolean (Int32.ofInt 0)) (fun hz => by rw [hfi, if_neg (by rw [← hv5 hz]; exact h6)]; rfl)
                refine ⟨_, wm_t hT rfl, bk, by decide, ?_⟩
                rw [en]
                exact ⟨800 - (k + 1), by omega, k + 1, _, by unfold wp_l489; rw [← wq_4s]; rfl, rfl, rfl, rfl, rfl, rfl, rfl, rfl, by omega, rfl, q1, q2⟩
              · obtain ⟨q1, q2⟩ := fin (vp_nar .boolean (Int32.ofInt 1)) (fun hz => by rw [hfi, if_pos (by rw [← hv5 hz]; exact Decidable.not_not.mp h6)]; rfl)
                refine ⟨_, wm_t hT rfl, bk, by decide, ?_⟩
                rw [en]
                exact ⟨800 - (k + 1), by omega, k + 1, _, by unfold wp_l489; rw [← wq_4s]; rfl, rfl, rfl, rfl, rfl, rfl, rfl, rfl, by omega, rfl, q1, q2⟩
        · -- a fault was told
          have h8 := wp_X_8 hX
          have go : ∃ m1, m1 < m ∧ ∃ (k1 : Nat) (y3 : Option Value), wp_l489 A B G 0 x3 = wp_l489 A B G k1 y3 ∧ ([] : List Value) = [] ∧ T1 = T1 ∧ N1 = N1 ∧ L1 = L1 ∧ R1 = R1 ∧ 0 = 0 ∧ 0 = 0 ∧ k1 ≤ 6 ∧ m1 = 600 - k1 ∧ wp_G I I1 ∧ (((nmCk ts n A B G s0 k1).2 = none ∧ wp_Z (nm_st t n) ts n (nmCk ts n A B G s0 k1) I1 ∧ wm_V ts n A B G s0 I1 0 0 B B k1) ∨ wp_X ts n A B G s0 I1) := ⟨600, by omega, 0, x3, rfl, rfl, rfl, rfl, rfl, rfl, rfl, rfl, Nat.zero_le _, rfl, hGG, Or.inr hX⟩
          refine ⟨fun _ => go, fun _ => ?_⟩
          exact ⟨fun _ => go, fun z => (z h8).elim⟩
      · split at hP
        · cases hP
          rename_i h0 h1 hpc
          subst hpc
          obtain ⟨k, x3, rfl, rfl, rfl, rfl, rfl, rfl, rfl, rfl, hk, hm, hGG, hcs⟩ := hh
          have ek := wi_on (n := k) (by omega)
          have en := wi_onn (n := k) (by omega)
          have hY1 := wp_Y_G hY hGG
          have j101 : I1 460 101 = Int32.ofNat A := by rw [hGG _ _ (by omega) (by omega)]; exact i101
          have j102 : I1 460 102 = Int32.ofNat B := by rw [hGG _ _ (by omega) (by omega)]; exact i102
          have j103 : I1 460 103 = Int32.ofNat G := by rw [hGG _ _ (by omega) (by omega)]; exact i103
          have e6 : ((Int8.ofInt 6).toInt32).toInt = 6 := rfl
          rcases hcs with ⟨hn0, hZ, hV⟩ | hX
          · have h8 := wp_Z_8 hZ hn0
            refine ⟨fun h1 => ?_, fun h1 => ?_⟩
            · have e : k = 6 := by rw [wi_le, ek, e6] at h1; omega
              subst e
              exact ⟨400, by omega, 0, x3, rfl, rfl, rfl, rfl, rfl, rfl, rfl, rfl, Nat.zero_le _, rfl, hGG, Or.inl ⟨hn0, hZ, hV⟩⟩
            have hlt : k < 6 := by rw [wi_le, ek, e6] at h1; omega
            have bk : 0 ≤ Int32.ofNat k ∧ (Int32.ofNat k).toInt < (6 : Nat) := ⟨by rw [wi_le, ek, wi_0]; omega, by rw [ek]; omega⟩
            refine ⟨fun z => (h8 z).elim, fun _ => ?_⟩
            refine ⟨_, _, ts, n, (nmCk ts n A B G s0 k).1, t, rfl, hY1, wp_Z_s hZ hn0, fun v I2 z2 hv f2 => ?_⟩
            rw [wp_Zs hn0] at z2 hv
            refine ⟨_, wm_t hT rfl, bk, by decide, ?_⟩
            rw [en]
            refine ⟨600 - (k + 1), by omega, k + 1, x3, by unfold wp_l489; rw [← wq_4s]; rfl, rfl, rfl, rfl, rfl, rfl, rfl, rfl, by omega, rfl, wp_G_tr (wp_G_tr hGG (wp_G_F f2)) (wp_G_u (by omega)), ?_⟩
            exact wp_nx (s := nmCk ts n A B G s0 (k + 1)) (wp_Z_u z2 (by rw [wv_u_no _ _ (by omega)]) (by rw [wv_u_no _ _ (by omega)])) (fun z hz => nmE_C (k := k + 1) (by omega) hz) (fun hz => wm_V_sg (wm_V_F hV f2) (hv hz))
          · -- a fault was told
            have h8 := wp_X_8 hX
            have go : ∃ m1, m1 < m ∧ ∃ (k1 : Nat) (y3 : Option Value), wp_l489 A B G 0 x3 = wp_l489 A B G k1 y3 ∧ ([] : List Value) = [] ∧ T1 = T1 ∧ N1 = N1 ∧ L1 = L1 ∧ R1 = R1 ∧ 0 = 0 ∧ 0 = 0 ∧ k1 ≤ G ∧ m1 = 400 - k1 ∧ wp_G I I1 ∧ (((nmDk ts n A B G s0 k1).2 = none ∧ wp_Z (nm_st t n) ts n (nmDk ts n A B G s0 k1) I1 ∧ wm_V ts n A B G s0 I1 k1 k1 B B 6) ∨ wp_X ts n A B G s0 I1) := ⟨400, by omega, 0, x3, rfl, rfl, rfl, rfl, rfl, rfl, rfl, rfl, Nat.zero_le _, rfl, hGG, Or.inr hX⟩
            refine ⟨fun _ => go, fun _ => ?_⟩
            exact ⟨fun _ => go, fun z => (z h8).elim⟩
        · split at hP
          · cases hP
            rename_i h0 h1 h2 hpc
            subst hpc
            obtain ⟨k, x3, rfl, rfl, rfl, rfl, rfl, rfl, rfl, rfl, hk, hm, hGG, hcs⟩ := hh
            have ek := wi_on (n := k) (by omega)
            have en := wi_onn (n := k) (by omega)
            have hY1 := wp_Y_G hY hGG
            have j101 : I1 460 101 = Int32.ofNat A := by rw [hGG _ _ (by omega) (by omega)]; exact i101
            have j102 : I1 460 102 = Int32.ofNat B := by rw [hGG _ _ (by omega) (by omega)]; exact i102
            have j103 : I1 460 103 = Int32.ofNat G := by rw [hGG _ _ (by omega) (by omega)]; exact i103
            rcases hcs with ⟨hn0, hZ, hV⟩ | hX
            · have h8 := wp_Z_8 hZ hn0
              refine ⟨fun h1 => ?_, fun h1 => ?_⟩
              · have e : k = G := by rw [j103, wi_le, ek, eG] at h1; omega
                subst e
                exact hq I1 hGG (Or.inl ⟨hn0, hZ, hV⟩)
              have hlt : k < G := by rw [j103, wi_le, ek, eG] at h1; omega
              have bk : 0 ≤ Int32.ofNat k ∧ (Int32.ofNat k).toInt < (60 : Nat) := ⟨by rw [wi_le, ek, wi_0]; omega, by rw [ek]; omega⟩
              refine ⟨fun z => (h8 z).elim, fun _ => ?_⟩
              refine ⟨_, _, ts, n, (nmDk ts n A B G s0 k).1, t, rfl, hY1, wp_Z_s hZ hn0, fun v I2 z2 _ f2 => ?_⟩
              rw [wp_Zs hn0, j101, j102] at z2
              obtain ⟨s1, hs1⟩ : ∃ s, nm_g1 ts n (Int32.ofNat A) (Int32.ofNat B) k (nmDk ts n A B G s0 k) = s := ⟨_, rfl⟩
              have z2 : wp_Z (nm_st t n) ts n s1 I2 := by rw [← hs1]; exact z2
              obtain ⟨r2, hr2⟩ : ∃ r, nm_rd ts n (Int32.ofInt 0) (nm_lg (Int32.ofNat A) (Int32.ofNat B) k - Int32.ofInt 1) s1 = r := ⟨_, rfl⟩
              obtain ⟨r3, hr3⟩ : ∃ r, nm_rd ts n (Int32.ofInt 0) (nm_lg (Int32.ofNat A) (Int32.ofNat B) k - Int32.ofInt 1) r2.2 = r := ⟨_, rfl⟩
              have hon : nm_on ts n (Int32.ofNat A) (Int32.ofNat B) (nmCk ts n A B G s0 6) k = r2.1 := by
                rw [← hr2, ← hs1]; rfl
              have htw : nm_tw ts n (Int32.ofNat A) (Int32.ofNat B) (nmCk ts n A B G s0 6) k = r3.1 := by
                rw [← hr3, ← hr2, ← hs1]; rfl
              have hnext : nmDk ts n A B G s0 (k + 1) = r3.2 := by
                rw [← hr3, ← hr2, ← hs1]; rfl
              have hE3 : ∀ z, r3.2.2 = some z → (nmE ts n A B G s0).2 = some z := fun z hz => nmE_D (k := k + 1) (by omega) (by rw [hnext]; exact hz)
              have hE2 : ∀ z, r2.2.2 = some z → (nmE ts n A B G s0).2 = some z := fun z hz => hE3 z (by rw [← hr3]; exact nm_rd_some hz)
              have hE1 : ∀ z, s1.2 = some z → (nmE ts n A B G s0).2 = some z := fun z hz => hE2 z (by rw [← hr2]; exact nm_rd_some hz)
              have G2 := wp_G_tr hGG (wp_G_F f2)
              cases hs : s1.2 with
              | some z =>
                have X2 := wp_X_of z2 hs (hE1 z hs)
                have X3 : ∀ x y, wp_X ts n A B G s0 (wv_u (wv_u I2 530 k x) 531 k y) := fun x y => wp_X_u X2 (by rw [wv_u_no _ _ (by omega), wv_u_no _ _ (by omega)]) (by rw [wv_u_no _ _ (by omega), wv_u_no _ _ (by omega)])
                have G3 : ∀ x y, wp_G I (wv_u (wv_u I2 530 k x) 531 k y) := fun x y => wp_G_tr (wp_G_tr G2 (wp_G_u (by omega))) (wp_G_u (by omega))
                refine ⟨fun _ => ?_, fun z => (z (wp_X_8 X2)).elim⟩
                refine ⟨_, wm_t hT rfl, bk, by decide, ?_⟩
                rw [en]
                refine ⟨fun _ => ?_, fun z => (z (by rw [wv_u_no _ _ (by omega)]; exact wp_X_8 X2)).elim⟩
                refine ⟨_, wm_t hT rfl, bk, by decide, ?_⟩
                rw [en]
                exact ⟨400 - (k + 1), by omega, k + 1, _, by unfold wp_l489; rw [← wq_4s]; rfl, rfl, rfl, rfl, rfl, rfl, rfl, rfl, by omega, rfl, G3 _ _, Or.inr (X3 _ _)⟩
              | none =>
                refine ⟨fun z => (wp_Z_8 z2 hs z).elim, fun _ => ?_⟩
                refine ⟨_, _, ts, n, s1.1, t, rfl, wp_Y_G hY G2, wp_Z_s z2 hs, fun v2 I3 z3 hv3 f3 => ?_⟩
                rw [wp_Zs hs, j101, j102] at z3 hv3
                have z3 : wp_Z (nm_st t n) ts n r2.2 I3 := by rw [← hr2]; exact z3
                have hv3 : r2.2.2 = none → v2 = r2.1 := by rw [← hr2]; exact hv3
                have G3 := wp_G_tr G2 (wp_G_F f3)
                refine ⟨_, wm_t hT rfl, bk, by decide, ?_⟩
                rw [en]
                have G4 : wp_G I (wv_u I3 530 k v2) := wp_G_tr G3 (wp_G_u (by omega))
                have z4 : wp_Z (nm_st t n) ts n r2.2 (wv_u I3 530 k v2) := wp_Z_u z3 (by rw [wv_u_no _ _ (by omega)]) (by rw [wv_u_no _ _ (by omega)])
                cases hs2 : r2.2.2 with
                | some z =>
                  have X2 := wp_X_of z4 hs2 (hE2 z hs2)
                  have X3 : ∀ y, wp_X ts n A B G s0 (wv_u (wv_u I3 530 k v2) 531 k y) := fun y => wp_X_u X2 (by rw [wv_u_no _ _ (by omega)]) (by rw [wv_u_no _ _ (by omega)])
                  refine ⟨fun _ => ?_, fun z => (z (wp_X_8 X2)).elim⟩
                  refine ⟨_, wm_t hT rfl, bk, by decide, ?_⟩
                  rw [en]
                  exact ⟨400 - (k + 1), by omega, k + 1, _, by unfold wp_l489; rw [← wq_4s]; rfl, rfl, rfl, rfl, rfl, rfl, rfl, rfl, by omega, rfl, wp_G_tr G4 (wp_G_u (by omega)), Or.inr (X3 _)⟩
                | none =>
                  have V4 := wm_V_on (wm_V_F (wm_V_F hV f2) f3) (x := v2) (by rw [hon]; exact hv3 hs2)
                  refine ⟨fun z => (wp_Z_8 z4 hs2 z).elim, fun _ => ?_⟩
                  refine ⟨_, _, ts, n, r2.2.1, t, rfl, wp_Y_G hY G4, wp_Z_s z4 hs2, fun v5 I5 z5 hv5 f5 => ?_⟩
                  rw [wp_Zs hs2, j101, j102] at z5 hv5
                  have z5 : wp_Z (nm_st t n) ts n r3.2 I5 := by rw [← hr3]; exact z5
                  have hv5 : r3.2.2 = none → v5 = r3.1 := by rw [← hr3]; exact hv5
                  have G5 := wp_G_tr G4 (wp_G_F f5)
                  refine ⟨_, wm_t hT rfl, bk, by decide, ?_⟩
                  rw [en]
                  refine ⟨400 - (k + 1), by omega, k + 1, _, by unfold wp_l489; rw [← wq_4s]; rfl, rfl, rfl, rfl, rfl, rfl, rfl, rfl, by omega, rfl, wp_G_tr G5 (wp_G_u (by omega)), ?_⟩
                  rw [hnext]
                  refine wp_nx (wp_Z_u z5 (by rw [wv_u_no _ _ (by omega)]) (by rw [wv_u_no _ _ (by omega)])) hE3 (fun hz => ?_)
                  exact wm_V_tw (wm_V_F V4 f5) (by rw [htw]; exact hv5 hz)
            · have h8 := wp_X_8 hX
              refine ⟨fun _ => hq I1 hGG (Or.inr hX), fun _ => ?_⟩
              exact ⟨fun _ => hq I1 hGG (Or.inr hX), fun z => (z h8).elim⟩
          · cases hP
