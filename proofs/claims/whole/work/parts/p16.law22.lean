/-! ===== the law: search ===== -/
theorem lo_T {H B0 C k C1 C2 : Nat} {P1 P2 : pd_P} {S1 S2 : rn_N} {sq1 sq2 : List Nat} {a b g : Nat} {nx : Nat → Nat} {fi : Nat → Bool} {sg on tw : Nat → Nat} {T : wv_T} {N : Nat} {I : Nat → Nat → Int32} {L : Nat → Nat → Int64} {R : Nat → Nat → Option Nat} {fd : Nat} {w : Nat → Nat} {T1 : wv_T} {N1 : Nat} {I1 : Nat → Nat → Int32} {L1 : Nat → Nat → Int64} {R1 : Nat → Nat → Option Nat} {n1 s1 : Nat} (h : lo_O H B0 C k C1 P1 S1 sq1 C2 P2 S2 sq2 a b g nx fi sg on tw T N I L R fd w T1 N1 I1 L1 R1 n1 s1) : ∀ c v, T c = some v → T1 c = some v := fun c v e => by
  obtain ⟨B, len, Ip, Lp, ⟨_, _, _, _, _, _, hA, _⟩, _⟩ := h
  rcases hA with ⟨_, y, _⟩ | ⟨_, y1, y, _⟩
  · rw [y]
    exact e
  · rw [y]
    exact (if_neg (fun z => by rw [z, y1] at e; cases e)).trans e
/-- what a hunt leaves alone -/
theorem lo_I {H B0 C k C1 C2 : Nat} {P1 P2 : pd_P} {S1 S2 : rn_N} {sq1 sq2 : List Nat} {a b g : Nat} {nx : Nat → Nat} {fi : Nat → Bool} {sg on tw : Nat → Nat} {T : wv_T} {N : Nat} {I : Nat → Nat → Int32} {L : Nat → Nat → Int64} {R : Nat → Nat → Option Nat} {fd : Nat} {w : Nat → Nat} {T1 : wv_T} {N1 : Nat} {I1 : Nat → Nat → Int32} {L1 : Nat → Nat → Int64} {R1 : Nat → Nat → Option Nat} {n1 s1 : Nat} (h : lo_O H B0 C k C1 P1 S1 sq1 C2 P2 S2 sq2 a b g nx fi sg on tw T N I L R fd w T1 N1 I1 L1 R1 n1 s1) : ∀ c j v, T c = some v → ¬ (H ≤ c ∧ c ≤ H + 7) → ¬ c = C + 6 → I1 c j = I c j := fun c j v e c1 c2 => by
  obtain ⟨B, len, Ip, Lp, ⟨_, _, _, _, _, _, hA, _, hb, _⟩, ⟨hf, _⟩, _⟩ := h
  have hcN : c = N → n1 = 0 := fun z => by
    rcases hA with ⟨_, _, _, _, y, _⟩ | ⟨_, y1, _⟩
    · exact y
    · rw [z, y1] at e
      cases e
  exact (hf c j (by omega) (by omega) c2).trans (hb c j (by omega) (by omega) hcN)
def wl_c319 : wv_c1 := fun as T N I L R q => ∃ (pi ki : Int32) (B0 len0 C : Nat) (Cp n : Nat → Nat) (W : Nat → Nat → Nat) (Pp : Nat → pd_P) (Sp : Nat → rn_N) (sqp : Nat → List Nat) (Pt : pd_P) (St : rn_N) (sqt : List Nat) (a b g : Nat) (nx : Nat → Nat) (fi : Nat → Bool) (sg on tw : Nat → Nat), as = [.ref 0, .int pi, .int ki, .ref 536] ∧ T 536 = some (.inr (1, 1)) ∧ R 0 14 = some C ∧ 0 < C ∧ (∀ p, p < 2 → 0 < Cp p) ∧ (∃ k1, T 27 = some (.inr (k1 + 4, 2))) ∧ (∀ p, p < 2 → R 27 p = some (Cp p) ∧ pp_D T R (Cp p) ∧ I (Cp p) 9 = Int32.ofNat (n p) ∧ n p ≤ 67 ∧ ∀ k, k < n p → I (Cp p + 9 + k) 2 = Int32.ofNat (W p k) ∧ W p k < 2147483648) ∧ (∀ p, p < 2 → hu_p 325 B0 len0 C (Cp p) (Pp p) (Sp p) (sqp p) 220 Pt St sqt a b g nx fi sg on tw T N I L R) ∧ (rw_bp pi → q (.inl (some (.int 1))) T N I L R 1 6) ∧ ∀ p, p < 2 → pi = Int32.ofNat p → ∀ bb : Bool, (bb = true ↔ cf_s (n p) (W p) (n p)) → ((¬ ∃ k, se_ok a (se_lm bb) ki k) → q (.inl (some (.int 2))) T N I L R 1 6) ∧ ∀ k, se_ok a (se_lm bb) ki k → (¬ I 0 17 < Int32.ofInt 5 → q (.inl (some (.int 3))) T N I L R 1 6) ∧ (I 0 17 < Int32.ofInt 5 → ∀ fd w T1 N1 I1 L1 R1 n1 s1, lo_O 325 B0 C k (Cp p) (Pp p) (Sp p) (sqp p) 220 Pt St sqt a b g nx fi sg on tw T N (wv_u I 0 17 (I 0 17 + Int32.ofInt 1)) L R fd w T1 N1 I1 L1 R1 n1 s1 → q (.inl (some (.int 0))) T1 N1 I1 (wv_u L1 536 0 (Int32.ofNat fd).toInt64) R1 n1 s1)
set_option maxRecDepth 100000 in
theorem wM_319 : ∃ cb ci np, pt_mt 319 = some (0, cb, 5, false, some .int, ci, np) := ⟨_, _, _, rfl⟩
set_option maxRecDepth 100000 in
theorem wl_319 : wl_ok 319 5 [(2, 1), (0, 2), (1, 3)] = true := by decide +kernel
set_option maxRecDepth 100000 in
set_option maxHeartbeats 4000000 in
theorem wl_search {sc : pt_Sc} {d : Nat} : wv_C wm_fx sc (d + 1 + 1 + 1 + 1 + 1 + 1 + 1 + 1) 319 wl_c319 := by
  rintro as T N I L R q ⟨pi, ki, B0, len0, C, Cp, n, W, Pp, Sp, sqp, Pt, St, sqt, a, b, g, nx, fi, sg, on, tw, rfl, h537, h14, hC0, hCp, t27, hR, hp, hbad, h⟩ w0 HR
  obtain ⟨cb, ci, np, hm⟩ := wM_319
  have hc320 : wv_C wm_fx sc (d + 1 + 1 + 1 + 1 + 1 + 1 + 1) 320 lo_c320 := wv_C_deep (by omega) (lo_search (d := d))
  refine wv_meth (hh := some (wl_f 5 [(2, 1), (0, 2), (1, 3)])) rfl (sp := wv_sp [(320, lo_c320)]) (hd := fun _ => none) (n := 0) (n1 := 300) hm zc_319 (wl_HH hm wl_319) (wv_sp_ok (fun q hq => by rw [List.mem_singleton.mp hq]; exact hc320)) ?_ (fun pc P h => by cases h) HR
  refine ⟨pi, ki, B0, len0, C, Cp, n, W, Pp, Sp, sqp, Pt, St, sqt, a, b, g, nx, fi, sg, on, tw, rfl, h14, hC0, hCp, t27, hR, hp, fun z => ⟨Or.inl rfl, hbad z⟩, fun p hpp e bb hbb => ?_⟩
  obtain ⟨h1, h2⟩ := h p hpp e bb hbb
  refine ⟨fun z => ⟨Or.inl rfl, h1 z⟩, fun k hk => ?_⟩
  obtain ⟨h3, h4⟩ := h2 k hk
  refine ⟨fun z => ⟨Or.inl rfl, h3 z⟩, fun z fd w T1 N1 I1 L1 R1 n1 s1 hO => ?_⟩
  have hq := h4 z fd w T1 N1 I1 L1 R1 n1 s1 hO
  rw [← Nat.zero_add n1, ← Nat.zero_add s1] at hq
  exact ⟨_, lo_T hO _ _ h537, ⟨by decide, by decide⟩, by decide, hq⟩
/-- what Rel must give for search -/
def se_H (Rel : wv_T → Nat → (Nat → Nat → Int32) → (Nat → Nat → Int64) → (Nat → Nat → Option Nat) → Nat → Nat → Nat → Prop) (T : wv_T) (N : Nat) (I : Nat → Nat → Int32) (L : Nat → Nat → Int64) (R : Nat → Nat → Option Nat) (nc ns i : Nat) : Prop := ∃ (B0 len0 C : Nat) (Cp n : Nat → Nat) (W : Nat → Nat → Nat) (Pp : Nat → pd_P) (Sp : Nat → rn_N) (sqp : Nat → List Nat) (Pt : pd_P) (St : rn_N) (sqt : List Nat) (m0 x : Nat → Nat) (a b g : Nat) (nx : Nat → Nat) (fi : Nat → Bool) (sg on tw : Nat → Nat) (lk : Nat), T 536 = some (.inr (1, 1)) ∧ wm_T T ∧ T 460 = some (.inl 12) ∧ T 0 = some (.inl 0) ∧ R 0 14 = some C ∧ 0 < C ∧ (∀ p, p < 2 → 0 < Cp p) ∧ (∃ k1, T 27 = some (.inr (k1 + 4, 2))) ∧ (∀ p, p < 2 → R 27 p = some (Cp p) ∧ pp_D T R (Cp p) ∧ I (Cp p) 9 = Int32.ofNat (n p) ∧ n p ≤ 67 ∧ ∀ k, k < n p → I (Cp p + 9 + k) 2 = Int32.ofNat (W p k) ∧ W p k < 2147483648) ∧ (∀ p, p < 2 → hu_p 325 B0 len0 C (Cp p) (Pp p) (Sp p) (sqp p) 220 Pt St sqt a b g nx fi sg on tw T N I L R) ∧ (∀ p, p < 2 → kp_K I p (Sp p) (m0 p) (x p) (sqp p) ∧ mr_ok (Sp p) (m0 p) (x p) ∧ sc_R (Pp p) (Sp p) (x p) ∧ sc_Z (Sp p) ∧ (fw (Sp p) = true ↔ cf_s (n p) (W p) (n p))) ∧ tw_M a b g nx fi sg on tw I ∧ (sc_ok Pt ∧ ∀ v l, ¬ hw_X Pt v l) ∧ (I 0 17 = Int32.ofNat lk ∧ I 460 65 = Int32.ofNat lk ∧ lk ≤ 5) ∧ Rel T N (wv_u I 460 0 1) L R (nc + 1) (ns + 6) (i + 4) ∧ Rel T N (wv_u I 460 0 2) L R (nc + 1) (ns + 6) (i + 4) ∧ Rel T N (wv_u (wv_u I 460 0 0) 460 0 3) L R (nc + 1) (ns + 6) (i + 4) ∧ ∀ p, p < 2 → ∀ k, k ≤ 12 → lk < 5 → ∀ fd w T1 N1 I1 L1 R1 n1 s1, lo_O 325 B0 C k (Cp p) (Pp p) (Sp p) (sqp p) 220 Pt St sqt a b g nx fi sg on tw T N (wv_u I 0 17 (I 0 17 + Int32.ofInt 1)) L R fd w T1 N1 I1 L1 R1 n1 s1 → ∀ J L2, se_F I1 J → se_K (Int32.ofNat fd) I1 J → mr_FL (wv_u L1 536 0 (Int32.ofNat fd).toInt64) L2 → (∀ j, j < fd → J 502 j = Int32.ofNat (w j) ∧ J 503 j = Int32.ofNat (dz_w a b g nx fi sg on tw w j) ∧ J 504 j = Int32.ofNat (dz_r a b g nx fi sg on tw w j)) → Rel T1 N1 J L2 R1 (nc + n1) (ns + s1) (i + 4)
def wL_22 (Rel : wv_T → Nat → (Nat → Nat → Int32) → (Nat → Nat → Int64) → (Nat → Nat → Option Nat) → Nat → Nat → Nat → Prop) : Prop := ∀ T N I L R nc ns i, i ≤ 2044 → Rel T N I L R nc ns i → se_H Rel T N I L R nc ns i
set_option maxRecDepth 100000 in
set_option maxHeartbeats 4000000 in
theorem wL_case22 {Rel : wv_T → Nat → (Nat → Nat → Int32) → (Nat → Nat → Int64) → (Nat → Nat → Option Nat) → Nat → Nat → Nat → Prop} {xs : Nat → Int32} {Lg : Nat} {fv : Value} {q : wv_Q} {sp : wv_K} (hLg : Lg ≤ 2048) (H : wL_22 Rel)
    (s319 : ∀ as T N I L R q, wl_c319 as T N I L R q → sp 319 as T N I L R q) (s456 : ∀ as T N I L R q, se_c456 as T N I L R q → sp 456 as T N I L R q) (s343 : ∀ as T N I L R q, wp_c343 as T N I L R q → sp 343 as T N I L R q) :
    ∀ m lv st T N I L R nc ns, wL_P Rel xs Lg (some 22) m lv st T N I L R nc ns → wv_S wm_fx fv none sp 0 7 false (some .boolean) zt_0 q (wv wm_fx fv none sp 0 7 false (some .boolean) zt_0 (wv_h2 (wL_hd Rel xs Lg) m) q 100) (zk_at zt_0 1394) lv st T N I L R nc ns := by
  rintro m lv st T N I L R nc ns ⟨i, x5, x6, rfl, rfl, hT, hx, hR, hi, hm, hop⟩
  obtain ⟨B0, len0, C, Cp, n, W, Pp, Sp, sqp, Pt, St, sqt, m0, x, a, b, g, nx, fi, sg, on, tw, lk, h537, hwT, h460, h00, h14, hC0, hCp, t27, hR2, hp2, hS, hM, hPt, ⟨hl1, hl2, hl5⟩, r1, r2, r3, r4⟩ := H T N I L R nc ns i (by omega) hR
  have e1 : I 1099511627776 (Int32.ofNat i + Int32.ofInt 1).toNatClampNeg = xs (i + 1) := (wL_x (k := 1) hx hLg hi (by omega)).1
  have b1 : 0 ≤ Int32.ofNat i + Int32.ofInt 1 ∧ (Int32.ofNat i + Int32.ofInt 1).toInt < Lg := (wL_x (k := 1) hx hLg hi (by omega)).2
  have e2 : I 1099511627776 (Int32.ofNat i + Int32.ofInt 2).toNatClampNeg = xs (i + 2) := (wL_x (k := 2) hx hLg hi (by omega)).1
  have b2 : 0 ≤ Int32.ofNat i + Int32.ofInt 2 ∧ (Int32.ofNat i + Int32.ofInt 2).toInt < Lg := (wL_x (k := 2) hx hLg hi (by omega)).2
  have n10 : ¬ (1 : Int32) = 0 := by decide
  have n20 : ¬ (2 : Int32) = 0 := by decide
  have n30 : ¬ (3 : Int32) = 0 := by decide
  have hp0 := hp2 0 (by omega)
  have hVV := hp0.2.2.1.2.2.1
  have hN5 := hp0.1.2.2.2.2.2.1
  have hN9 := hp0.1.2.2.2.2.2.2
  have hC4 := hp0.2.2.1.2.1
  refine ⟨_, hT, b1, ?_⟩
  rw [e1]
  refine ⟨_, hT, b2, ?_⟩
  rw [e2]
  refine s319 _ _ _ _ _ _ _ ⟨_, _, B0, len0, C, Cp, n, W, Pp, Sp, sqp, Pt, St, sqt, a, b, g, nx, fi, sg, on, tw, rfl, h537, h14, hC0, hCp, t27, hR2, hp2, fun hb => ?_, fun p hp e bb hbb => ⟨fun hs => ?_, fun k hk => ⟨fun hs => ?_, fun hs fd w T1 N1 I1 L1 R1 n1 s1 hO => ?_⟩⟩⟩
  · refine ⟨_, hT, b1, ?_⟩
    rw [e1]
    refine ⟨_, hT, b2, ?_⟩
    rw [e2]
    refine s456 _ _ _ _ _ _ _ ⟨_, _, Sp, m0, x, sqp, a, b, g, nx, fi, sg, on, tw, rfl, hwT, fun p hp => (hS p hp).1, fun p hp => (hS p hp).2.1, hVV, hM, fun _ => ?_, fun p hp e => (kl_bp hp e hb).elim⟩
    refine s343 _ _ _ _ _ _ _ ⟨rfl, ?_⟩
    refine ⟨fun _ => ?_, fun h => (h (wv_u_at _ _ _ _)).elim⟩
    refine ⟨fun _ => ?_, fun h => (h n10).elim⟩
    exact wL_fin hLg hi hm hx hT (fun j => wv_u_no _ _ (by omega)) r1
  · have hfw : bb = fw (Sp p) := Bool.eq_iff_iff.mpr (hbb.trans (hS p hp).2.2.2.2.symm)
    subst hfw
    refine ⟨_, hT, b1, ?_⟩
    rw [e1]
    refine ⟨_, hT, b2, ?_⟩
    rw [e2]
    refine s456 _ _ _ _ _ _ _ ⟨_, _, Sp, m0, x, sqp, a, b, g, nx, fi, sg, on, tw, rfl, hwT, fun p hp => (hS p hp).1, fun p hp => (hS p hp).2.1, hVV, hM, fun z => (kl_bp hp e z).elim, fun p2 hp2' ee => ?_⟩
    have ep := kl_p2 hp hp2' e ee
    subst ep
    refine ⟨fun _ => ?_, fun k hk => (hs ⟨k, hk⟩).elim⟩
    refine s343 _ _ _ _ _ _ _ ⟨rfl, ?_⟩
    refine ⟨fun _ => ?_, fun h => (h (wv_u_at _ _ _ _)).elim⟩
    refine ⟨fun _ => ?_, fun h => (h n20).elim⟩
    exact wL_fin hLg hi hm hx hT (fun j => wv_u_no _ _ (by omega)) r2
  · have hfw : bb = fw (Sp p) := Bool.eq_iff_iff.mpr (hbb.trans (hS p hp).2.2.2.2.symm)
    subst hfw
    rw [hl1, wi_lt, wi_on (by omega), show (Int32.ofInt 5).toInt = 5 from rfl] at hs
    have h65 : I 460 65 = Int32.ofInt 5 := by
      rw [hl2, show lk = 5 by omega]
      rfl
    refine ⟨_, hT, b1, ?_⟩
    rw [e1]
    refine ⟨_, hT, b2, ?_⟩
    rw [e2]
    refine s456 _ _ _ _ _ _ _ ⟨_, _, Sp, m0, x, sqp, a, b, g, nx, fi, sg, on, tw, rfl, hwT, fun p hp => (hS p hp).1, fun p hp => (hS p hp).2.1, hVV, hM, fun z => (kl_bp hp e z).elim, fun p2 hp2' ee => ?_⟩
    have ep := kl_p2 hp hp2' e ee
    subst ep
    refine ⟨fun z => (z ⟨k, hk⟩).elim, fun k2 hk2 => ⟨fun _ => ?_, fun z => (z h65).elim⟩⟩
    refine s343 _ _ _ _ _ _ _ ⟨rfl, ?_⟩
    refine ⟨fun _ => ?_, fun h => (h (wv_u_at _ _ _ _)).elim⟩
    refine ⟨fun _ => ?_, fun h => (h n30).elim⟩
    exact wL_fin hLg hi hm hx hT (fun j => (wv_u_no _ _ (by omega)).trans (wv_u_no _ _ (by omega))) r3
  · have hfw : bb = fw (Sp p) := Bool.eq_iff_iff.mpr (hbb.trans (hS p hp).2.2.2.2.symm)
    subst hfw
    rw [hl1, wi_lt, wi_on (by omega), show (Int32.ofInt 5).toInt = 5 from rfl] at hs
    have tm := lo_T hO
    have lf := lo_I hO
    have hT1 := tm _ _ hT
    have keep : ∀ c j v, T c = some v → ¬ c = 0 → ¬ (325 ≤ c ∧ c ≤ 332) → ¬ c = C + 6 → I1 c j = I c j := fun c j v hc h0 h1 h2 => (lf c j v hc (by omega) h2).trans (wv_u_no _ _ (by omega))
    have fS : ∀ j, I1 1099511627776 j = I 1099511627776 j := fun j => keep _ _ _ hT (by omega) (by omega) (by omega)
    have k460 : ∀ j, I1 460 j = I 460 j := fun j => keep _ _ _ h460 (by omega) (by omega) (by omega)
    have hwT1 : wm_T T1 := fun a x e => tm _ _ (hwT a x e)
    have kK : ∀ c j, 476 ≤ c → c ≤ 483 → I1 c j = I c j := fun c j c1 c2 => by
      obtain ⟨v, hv⟩ : ∃ v, T c = some v := by
        have : c = 476 ∨ c = 477 ∨ c = 478 ∨ c = 479 ∨ c = 480 ∨ c = 481 ∨ c = 482 ∨ c = 483 := by omega
        rcases this with rfl | rfl | rfl | rfl | rfl | rfl | rfl | rfl
        all_goals exact ⟨_, wm_t hwT rfl⟩
      exact keep c j v hv (by omega) (by omega) (by omega)
    have hM1 : tw_M a b g nx fi sg on tw I1 := by
      obtain ⟨m1, m2, m3, m4, m5, m6⟩ := hM
      exact ⟨(k460 _).trans m1, (k460 _).trans m2, (k460 _).trans m3, fun i hi => ⟨(keep _ _ _ (wm_t hwT rfl) (by omega) (by omega) (by omega)).trans (m4 i hi).1, (keep _ _ _ (wm_t hwT rfl) (by omega) (by omega) (by omega)).trans (m4 i hi).2⟩, fun i hi => (keep _ _ _ (wm_t hwT rfl) (by omega) (by omega) (by omega)).trans (m5 i hi), fun i hi => ⟨(keep _ _ _ (wm_t hwT rfl) (by omega) (by omega) (by omega)).trans (m6 i hi).1, (keep _ _ _ (wm_t hwT rfl) (by omega) (by omega) (by omega)).trans (m6 i hi).2⟩⟩
    have e1b : I1 1099511627776 (Int32.ofNat i + Int32.ofInt 1).toNatClampNeg = xs (i + 1) := (fS _).trans e1
    have e2b : I1 1099511627776 (Int32.ofNat i + Int32.ofInt 2).toNatClampNeg = xs (i + 2) := (fS _).trans e2
    have h65 : ¬ I1 460 65 = Int32.ofInt 5 := fun z => by
      rw [k460, hl2] at z
      have := fd_on (b := 5) (by omega) (by omega) z
      omega
    refine ⟨_, hT1, b1, ?_⟩
    rw [e1b]
    refine ⟨_, hT1, b2, ?_⟩
    rw [e2b]
    refine s456 _ _ _ _ _ _ _ ⟨_, _, Sp, m0, x, sqp, a, b, g, nx, fi, sg, on, tw, rfl, hwT1, fun p hp => kp_K_F (hS p hp).1 kK, fun p hp => (hS p hp).2.1, hVV, hM1, fun z => (kl_bp hp e z).elim, fun p2 hp2' ee => ?_⟩
    have ep := kl_p2 hp hp2' e ee
    subst ep
    obtain ⟨_, hmr, hsR, hsZ, _⟩ := hS p2 hp
    have ho1 := (sc_R_ok hsR).1
    have G1 := hu_g_ok (a := a) (b := b) (g := g) (nx := nx) (fi := fi) (sg := sg) (on := on) (tw := tw) ho1
    have G2 := hu_g_ok (a := a) (b := b) (g := g) (nx := nx) (fi := fi) (sg := sg) (on := on) (tw := tw) hPt.1
    have link : ∀ l y bb, 1 ≤ l → l ≤ 12 → mr_w (Sp p2) (x p2) (dz_w a b g nx fi sg on tw (dz_u a l y)) l bb → (bb = true ↔ hu_g (Pp p2) a b g nx fi sg on tw (dz_u a l y) l) := fun l y bb l1 l2 hw => hw_X_r hsR hmr.2.2.2.1 hmr.2.2.2.2.1 hsZ (by omega) (by omega) (fun _ _ => dz_w_lt) hw
    have he : ∀ l y, 1 ≤ l → l ≤ 12 → mr_w (Sp p2) (x p2) (dz_w a b g nx fi sg on tw (dz_u a l y)) l false → hd_e (hu_g (Pp p2) a b g nx fi sg on tw) (hu_g Pt a b g nx fi sg on tw) (dz_u a l y) l := fun l y l1 l2 hw => ⟨fun z => absurd ((link l y false l1 l2 hw).mpr z) (by decide), fun z => (hPt.2 _ _ z).elim⟩
    obtain ⟨_, _, _, _, _, _, _, _, hR⟩ := id hO
    refine ⟨fun z => (z ⟨k, hk⟩).elim, fun k2 hk2 => ?_⟩
    have ek := se_ok_u hk hk2
    subst ek
    have hk12 := hk.2.2.1
    refine ⟨fun z => (h65 z).elim, fun _ => ⟨fun J L2 fJ kJ gL hno => ?_, fun J L2 len y l1 l2 hy fJ kJ gL rJ hw hny hnl => ?_⟩⟩
    · have efd : fd = 0 := ew_none G1 G2 hR (fun l l1 l2 y hy => he l y l1 (by omega) (hno l l1 l2 y hy))
      subst efd
      have fin := wL_fin (c1 := nc + n1) (s1 := ns + s1) (Rel := Rel) (I1 := J) (L1 := L2) (y5 := some (.int 0)) (y6 := some (.int 0)) hLg hi hm hx hT1 (fun j => (fJ _ _ (by omega) (by omega) (by omega) (by omega) (by omega)).trans (fS j)) (r4 p2 hp k2 hk12 (by omega) 0 w T1 N1 I1 L1 R1 n1 s1 hO J L2 fJ kJ gL (fun j hj => by omega))
      refine s343 _ _ _ _ _ _ _ ⟨rfl, ?_⟩
      rw [kJ.1]
      refine ⟨fun _ => ?_, fun h => (h rfl).elim⟩
      refine ⟨fun h => (h rfl).elim, fun _ => ?_⟩
      refine ⟨_, tm _ _ h537, ⟨by decide, by decide⟩, ?_⟩
      exact ⟨fun _ => fin, fun h => (h (lg_cmp_0.mpr ((gL _ _ (by omega) (by omega) (by omega) (by omega)).trans (wv_u_at _ _ _ _)))).elim⟩
    · obtain ⟨efd, hwd⟩ := ew_same G1 G2 (by omega) hR l1 l2 hy (fun z => hPt.2 _ _ (z.mp ((link len y true l1 (by omega) hw).mp rfl))) (fun y2 hy2 => he len y2 l1 (by omega) (hny y2 hy2)) (fun l m1 m2 y2 hy2 => he l y2 m1 (by omega) (hnl l m1 m2 y2 hy2))
      subst efd
      have fin := wL_fin (c1 := nc + n1) (s1 := ns + s1) (Rel := Rel) (I1 := J) (L1 := L2) (y5 := some (.int 0)) (y6 := some (.int (Int32.ofNat fd))) hLg hi hm hx hT1 (fun j => (fJ _ _ (by omega) (by omega) (by omega) (by omega) (by omega)).trans (fS j)) (r4 p2 hp k2 hk12 (by omega) fd w T1 N1 I1 L1 R1 n1 s1 hO J L2 fJ kJ gL (fun j hj => by
        obtain ⟨q1, q2, q3, _⟩ := rJ j hj
        rw [q1, q2, q3, hwd j hj, dz_w_c (fun i hi => hwd i (by omega)), dz_r_c j (fun i hi => hwd i (by omega))]
        exact ⟨rfl, rfl, rfl⟩))
      refine s343 _ _ _ _ _ _ _ ⟨rfl, ?_⟩
      rw [kJ.1]
      refine ⟨fun _ => ?_, fun h => (h rfl).elim⟩
      refine ⟨fun h => (h rfl).elim, fun _ => ?_⟩
      refine ⟨_, tm _ _ h537, ⟨by decide, by decide⟩, ?_⟩
      exact ⟨fun _ => fin, fun h => (h (lg_cmp_0.mpr ((gL _ _ (by omega) (by omega) (by omega) (by omega)).trans (wv_u_at _ _ _ _)))).elim⟩
