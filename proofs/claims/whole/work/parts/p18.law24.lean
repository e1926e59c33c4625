/-! ===== the law: differ ===== -/
/-- what Rel must give for differ -/
def dj_H (Rel : wv_T → Nat → (Nat → Nat → Int32) → (Nat → Nat → Int64) → (Nat → Nat → Option Nat) → Nat → Nat → Nat → Prop) (T : wv_T) (N : Nat) (I : Nat → Nat → Int32) (L : Nat → Nat → Int64) (R : Nat → Nat → Option Nat) (nc ns i : Nat) : Prop := ∃ (B0 len0 : Nat) (Cp n : Nat → Nat) (W : Nat → Nat → Nat) (Pp : Nat → pd_P) (Sp : Nat → rn_N) (sqp : Nat → List Nat) (m0 x : Nat → Nat) (lk : Nat), T 536 = some (.inr (1, 1)) ∧ wm_T T ∧ T 460 = some (.inl 12) ∧ wd_D T R 316 ∧ (∃ k1, T 27 = some (.inr (k1 + 4, 2))) ∧ (∀ p, p < 2 → R 27 p = some (Cp p) ∧ pp_D T R (Cp p) ∧ I (Cp p) 9 = Int32.ofNat (n p) ∧ n p ≤ 67 ∧ ∀ k, k < n p → I (Cp p + 9 + k) 2 = Int32.ofNat (W p k) ∧ W p k < 2147483648) ∧ (∀ nn J, 1 ≤ nn → nn ≤ 3 → di_J nn I J → hu_p 333 B0 len0 316 (Cp 0) (Pp 0) (Sp 0) (sqp 0) (Cp 1) (Pp 1) (Sp 1) (sqp 1) nn 0 0 (fun _ => 0) (fun _ => false) (di_sg nn) (fun _ => 0) (fun _ => 0) T N J L R) ∧ (∀ p, p < 2 → kp_K I p (Sp p) (m0 p) (x p) (sqp p) ∧ mr_ok (Sp p) (m0 p) (x p) ∧ sc_R (Pp p) (Sp p) (x p) ∧ sc_Z (Sp p) ∧ (fw (Sp p) = true ↔ cf_s (n p) (W p) (n p))) ∧ (I 0 17 = Int32.ofNat lk ∧ I 460 65 = Int32.ofNat lk ∧ lk ≤ 5) ∧ Rel T N (wv_u I 460 0 1) L R (nc + 1) (ns + 6) (i + 4) ∧ Rel T N (wv_u I 460 0 2) L R (nc + 1) (ns + 6) (i + 4) ∧ ∀ nn k, 1 ≤ nn → nn ≤ 3 → k ≤ 12 → lk < 5 → ∀ J, di_J nn I J → ∀ fd w T1 N1 I1 L1 R1 n1 s1, lo_O 333 B0 316 k (Cp 0) (Pp 0) (Sp 0) (sqp 0) (Cp 1) (Pp 1) (Sp 1) (sqp 1) nn 0 0 (fun _ => 0) (fun _ => false) (di_sg nn) (fun _ => 0) (fun _ => 0) T N J L R fd w T1 N1 I1 L1 R1 n1 s1 → ∀ J2 L2, di_F I1 J2 → di_K (Int32.ofNat fd) I1 J2 → mr_FL (wv_u L1 536 0 (Int32.ofNat fd).toInt64) L2 → (∀ j, j < fd → J2 505 j = Int32.ofNat (dz_w nn 0 0 (fun _ => 0) (fun _ => false) (di_sg nn) (fun _ => 0) (fun _ => 0) w j)) → Rel T1 N1 J2 L2 R1 (nc + n1) (ns + s1) (i + 4)
def wL_24 (Rel : wv_T → Nat → (Nat → Nat → Int32) → (Nat → Nat → Int64) → (Nat → Nat → Option Nat) → Nat → Nat → Nat → Prop) : Prop := ∀ T N I L R nc ns i, i ≤ 2044 → Rel T N I L R nc ns i → dj_H Rel T N I L R nc ns i
set_option maxRecDepth 100000 in
set_option maxHeartbeats 4000000 in
theorem wL_case24 {Rel : wv_T → Nat → (Nat → Nat → Int32) → (Nat → Nat → Int64) → (Nat → Nat → Option Nat) → Nat → Nat → Nat → Prop} {xs : Nat → Int32} {Lg : Nat} {fv : Value} {q : wv_Q} {sp : wv_K} (hLg : Lg ≤ 2048) (H : wL_24 Rel)
    (s338 : ∀ as T N I L R q, wl_c338 as T N I L R q → sp 338 as T N I L R q) (s463 : ∀ as T N I L R q, di_c463 as T N I L R q → sp 463 as T N I L R q) (s343 : ∀ as T N I L R q, wp_c343 as T N I L R q → sp 343 as T N I L R q) :
    ∀ m lv st T N I L R nc ns, wL_P Rel xs Lg (some 24) m lv st T N I L R nc ns → wv_S wm_fx fv none sp 0 7 false (some .boolean) zt_0 q (wv wm_fx fv none sp 0 7 false (some .boolean) zt_0 (wv_h2 (wL_hd Rel xs Lg) m) q 100) (zk_at zt_0 1530) lv st T N I L R nc ns := by
  rintro m lv st T N I L R nc ns ⟨i, x5, x6, rfl, rfl, hT, hx, hR, hi, hm, hop⟩
  obtain ⟨B0, len0, Cp, n, W, Pp, Sp, sqp, m0, x, lk, h537, hwT, h460, hD, t27, hR2, hp2, hS, ⟨hl1, hl2, hl5⟩, r1, r2, r4⟩ := H T N I L R nc ns i (by omega) hR
  have e1 : I 1099511627776 (Int32.ofNat i + Int32.ofInt 1).toNatClampNeg = xs (i + 1) := (wL_x (k := 1) hx hLg hi (by omega)).1
  have b1 : 0 ≤ Int32.ofNat i + Int32.ofInt 1 ∧ (Int32.ofNat i + Int32.ofInt 1).toInt < Lg := (wL_x (k := 1) hx hLg hi (by omega)).2
  have e2 : I 1099511627776 (Int32.ofNat i + Int32.ofInt 2).toNatClampNeg = xs (i + 2) := (wL_x (k := 2) hx hLg hi (by omega)).1
  have b2 : 0 ≤ Int32.ofNat i + Int32.ofInt 2 ∧ (Int32.ofNat i + Int32.ofInt 2).toInt < Lg := (wL_x (k := 2) hx hLg hi (by omega)).2
  have n10 : ¬ (1 : Int32) = 0 := by decide
  have n20 : ¬ (2 : Int32) = 0 := by decide
  refine ⟨_, hT, b1, ?_⟩
  rw [e1]
  refine ⟨_, hT, b2, ?_⟩
  rw [e2]
  refine s338 _ _ _ _ _ _ _ ⟨_, _, B0, len0, Cp, n, W, Pp, Sp, sqp, rfl, h537, hD, t27, hR2, hp2, fun bb hbb => ?_⟩
  have hfw : bb = (fw (Sp 0) && fw (Sp 1)) := Bool.eq_iff_iff.mpr (hbb.trans ((and_congr (hS 0 (by omega)).2.2.2.2.symm (hS 1 (by omega)).2.2.2.2.symm).trans (by rw [Bool.and_eq_true])))
  subst hfw
  refine ⟨fun hs => ?_, fun nn k hk => ⟨fun hs => ?_, fun hs J hJ fd w T1 N1 I1 L1 R1 n1 s1 hO => ?_⟩⟩
  · refine ⟨_, hT, b1, ?_⟩
    rw [e1]
    refine ⟨_, hT, b2, ?_⟩
    rw [e2]
    refine s463 _ _ _ _ _ _ _ ⟨_, _, Sp, m0, x, sqp, rfl, hwT, fun p hp => (hS p hp).1, fun p hp => (hS p hp).2.1, fun _ => ?_, fun n2 k2 hk2 => (hs ⟨n2, k2, hk2⟩).elim⟩
    refine s343 _ _ _ _ _ _ _ ⟨rfl, ?_⟩
    refine ⟨fun _ => ?_, fun h => (h (wv_u_at _ _ _ _)).elim⟩
    refine ⟨fun _ => ?_, fun h => (h n10).elim⟩
    exact wL_fin hLg hi hm hx hT (fun j => wv_u_no _ _ (by omega)) r1
  · rw [hl1, wi_lt, wi_on (by omega), show (Int32.ofInt 5).toInt = 5 from rfl] at hs
    have h65 : I 460 65 = Int32.ofInt 5 := by
      rw [hl2, show lk = 5 by omega]
      rfl
    refine ⟨_, hT, b1, ?_⟩
    rw [e1]
    refine ⟨_, hT, b2, ?_⟩
    rw [e2]
    refine s463 _ _ _ _ _ _ _ ⟨_, _, Sp, m0, x, sqp, rfl, hwT, fun p hp => (hS p hp).1, fun p hp => (hS p hp).2.1, fun z => (z ⟨nn, k, hk⟩).elim, fun n2 k2 hk2 => ⟨fun _ => ?_, fun z => (z h65).elim⟩⟩
    refine s343 _ _ _ _ _ _ _ ⟨rfl, ?_⟩
    refine ⟨fun _ => ?_, fun h => (h (wv_u_at _ _ _ _)).elim⟩
    refine ⟨fun _ => ?_, fun h => (h n20).elim⟩
    exact wL_fin hLg hi hm hx hT (fun j => wv_u_no _ _ (by omega)) r2
  · rw [hl1, wi_lt, wi_on (by omega), show (Int32.ofInt 5).toInt = 5 from rfl] at hs
    have hn1 := hk.2.2.1
    have hn3 := hk.2.2.2.1
    have hk12 := hk.2.2.2.2.2.1
    have tm := lo_T hO
    have lf := lo_I hO
    have hpu := hp2 nn J hn1 hn3 hJ
    have hT1 := tm _ _ hT
    have keep : ∀ c j v, T c = some v → ¬ c = 0 → ¬ (316 ≤ c ∧ c ≤ 322) → ¬ (333 ≤ c ∧ c ≤ 340) → I1 c j = I c j := fun c j v hc h0 h1 h2 => (lf c j v hc (by omega) (by omega)).trans (hJ.2.1 c j (by omega) (by omega))
    have fS : ∀ j, I1 1099511627776 j = I 1099511627776 j := fun j => keep _ _ _ hT (by omega) (by omega) (by omega)
    have k460 : ∀ j, I1 460 j = I 460 j := fun j => keep _ _ _ h460 (by omega) (by omega) (by omega)
    have hwT1 : wm_T T1 := fun a x e => tm _ _ (hwT a x e)
    have kK : ∀ c j, 476 ≤ c → c ≤ 483 → I1 c j = I c j := fun c j c1 c2 => by
      obtain ⟨v, hv⟩ : ∃ v, T c = some v := by
        have : c = 476 ∨ c = 477 ∨ c = 478 ∨ c = 479 ∨ c = 480 ∨ c = 481 ∨ c = 482 ∨ c = 483 := by omega
        rcases this with rfl | rfl | rfl | rfl | rfl | rfl | rfl | rfl
        all_goals exact ⟨_, wm_t hwT rfl⟩
      exact keep c j v hv (by omega) (by omega) (by omega)
    have e1b : I1 1099511627776 (Int32.ofNat i + Int32.ofInt 1).toNatClampNeg = xs (i + 1) := (fS _).trans e1
    have e2b : I1 1099511627776 (Int32.ofNat i + Int32.ofInt 2).toNatClampNeg = xs (i + 2) := (fS _).trans e2
    have h65 : ¬ I1 460 65 = Int32.ofInt 5 := fun z => by
      rw [k460, hl2] at z
      have := fd_on (b := 5) (by omega) (by omega) z
      omega
    refine ⟨_, hT1, b1, ?_⟩
    rw [e1b]
    refine ⟨_, hT1, b2, ?_⟩
    rw [e2b]
    have G : ∀ p, p < 2 → hd_g (hu_g (Pp p) nn 0 0 (fun _ => 0) (fun _ => false) (di_sg nn) (fun _ => 0) (fun _ => 0)) := fun p hp => hu_g_ok (sc_R_ok (hS p hp).2.2.1).1
    have ew : ∀ l y t, dz_w nn 0 0 (fun _ => 0) (fun _ => false) (di_sg nn) (fun _ => 0) (fun _ => 0) (dz_u nn l y) t = dz_u nn l y t := fun l y t => di_w hn3 (Nat.mod_lt _ (Nat.two_pow_pos nn))
    have link : ∀ p, p < 2 → ∀ l y bb, 1 ≤ l → l ≤ 12 → mr_w (Sp p) (x p) (dz_u nn l y) l bb → (bb = true ↔ hu_g (Pp p) nn 0 0 (fun _ => 0) (fun _ => false) (di_sg nn) (fun _ => 0) (fun _ => 0) (dz_u nn l y) l) := fun p hp l y bb l1 l2 hw => by
      obtain ⟨_, hmr, hsR, hsZ, _⟩ := hS p hp
      rw [hw_X_r hsR hmr.2.2.2.1 hmr.2.2.2.2.1 hsZ (by omega) (by omega) (fun i _ => Nat.lt_trans (dz_u_lt hn3) (by omega)) hw]
      exact ⟨hw_X_v (fun t _ => (ew l y t).symm), hw_X_v (fun t _ => ew l y t)⟩
    have he : ∀ l y, 1 ≤ l → l ≤ 12 → (∃ bb, mr_w (Sp 0) (x 0) (dz_u nn l y) l bb ∧ mr_w (Sp 1) (x 1) (dz_u nn l y) l bb) → hd_e (hu_g (Pp 0) nn 0 0 (fun _ => 0) (fun _ => false) (di_sg nn) (fun _ => 0) (fun _ => 0)) (hu_g (Pp 1) nn 0 0 (fun _ => 0) (fun _ => false) (di_sg nn) (fun _ => 0) (fun _ => 0)) (dz_u nn l y) l := fun l y l1 l2 ⟨bb, w0, w1⟩ => (link 0 (by omega) l y bb l1 l2 w0).symm.trans (link 1 (by omega) l y bb l1 l2 w1)
    obtain ⟨_, _, _, _, _, _, _, _, hR⟩ := id hO
    refine s463 _ _ _ _ _ _ _ ⟨_, _, Sp, m0, x, sqp, rfl, hwT1, fun p hp => kp_K_F (hS p hp).1 kK, fun p hp => (hS p hp).2.1, fun z => (z ⟨nn, k, hk⟩).elim, fun n2 k2 hk2 => ?_⟩
    have ek : k2 = k := fd_on (by have := hk2.2.2.2.2.2.1; omega) (by omega) (hk2.2.1.symm.trans hk.2.1)
    have enn : n2 = nn := fd_on (by have := hk2.2.2.2.1; omega) (by omega) (hk2.1.symm.trans hk.1)
    subst ek enn
    refine ⟨fun z => (h65 z).elim, fun _ => ⟨fun J2 L2 fJ kJ gL hno => ?_, fun J2 L2 len y b0 b1' l1 l2 hy fJ kJ gL rJ hw0 hw1 hne hny hnl => ?_⟩⟩
    · have efd : fd = 0 := ew_none (G 0 (by omega)) (G 1 (by omega)) hR (fun l l1 l2 y hy => he l y l1 (by omega) (hno l l1 l2 y hy))
      subst efd
      have fin := wL_fin (c1 := nc + n1) (s1 := ns + s1) (Rel := Rel) (I1 := J2) (L1 := L2) (y5 := some (.int 0)) (y6 := some (.int 0)) hLg hi hm hx hT1 (fun j => (fJ _ _ (by omega) (by omega) (by omega) (by omega) (by omega)).trans (fS j)) (r4 n2 k2 hn1 hn3 hk12 (by omega) J hJ 0 w T1 N1 I1 L1 R1 n1 s1 hO J2 L2 fJ kJ gL (fun j hj => by omega))
      refine s343 _ _ _ _ _ _ _ ⟨rfl, ?_⟩
      rw [kJ.1]
      refine ⟨fun _ => ?_, fun h => (h rfl).elim⟩
      refine ⟨fun h => (h rfl).elim, fun _ => ?_⟩
      refine ⟨_, tm _ _ h537, ⟨by decide, by decide⟩, ?_⟩
      exact ⟨fun _ => fin, fun h => (h (lg_cmp_0.mpr ((gL _ _ (by omega) (by omega) (by omega) (by omega)).trans (wv_u_at _ _ _ _)))).elim⟩
    · obtain ⟨efd, hwd⟩ := ew_same (G 0 (by omega)) (G 1 (by omega)) (by omega) hR l1 l2 hy (fun z => hne (Bool.eq_iff_iff.mpr ((link 0 (by omega) len y b0 l1 (by omega) hw0).trans (Iff.trans z (link 1 (by omega) len y b1' l1 (by omega) hw1).symm)))) (fun y2 hy2 => he len y2 l1 (by omega) (hny y2 hy2)) (fun l m1 m2 y2 hy2 => he l y2 m1 (by omega) (hnl l m1 m2 y2 hy2))
      subst efd
      have fin := wL_fin (c1 := nc + n1) (s1 := ns + s1) (Rel := Rel) (I1 := J2) (L1 := L2) (y5 := some (.int 0)) (y6 := some (.int (Int32.ofNat fd))) hLg hi hm hx hT1 (fun j => (fJ _ _ (by omega) (by omega) (by omega) (by omega) (by omega)).trans (fS j)) (r4 n2 k2 hn1 hn3 hk12 (by omega) J hJ fd w T1 N1 I1 L1 R1 n1 s1 hO J2 L2 fJ kJ gL (fun j hj => by
        rw [(rJ j hj).2, ← dz_w_c (fun i hi => hwd i (by omega)), ew]))
      refine s343 _ _ _ _ _ _ _ ⟨rfl, ?_⟩
      rw [kJ.1]
      refine ⟨fun _ => ?_, fun h => (h rfl).elim⟩
      refine ⟨fun h => (h rfl).elim, fun _ => ?_⟩
      refine ⟨_, tm _ _ h537, ⟨by decide, by decide⟩, ?_⟩
      exact ⟨fun _ => fin, fun h => (h (lg_cmp_0.mpr ((gL _ _ (by omega) (by omega) (by omega) (by omega)).trans (wv_u_at _ _ _ _)))).elim⟩
