/-! ===== the reference: nextOfDesign ===== -/
theorem ds_word_2 {t : Nat → Int32} {n p z : Nat} (hz : 1 ≤ z) (hpn : p < n) : p < (ds_word t n p z).2 := by
  unfold ds_word
  repeat' split
  all_goals first | exact hpn | (show p < p + z; omega)
theorem wt_wl_1 {t : Nat → Int32} {p : Nat} (h : wt_sml t p = true) : 1 ≤ wt_wl t p 400 := by
  show 1 ≤ (if wt_sml t p = true then wt_wl t (p + 1) 399 + 1 else 0)
  rw [if_pos h]
  omega
theorem ds_pg {t : Nat → Int32} {n : Nat} : wt_pg (ds_st t n) n := by
  intro p hp
  unfold ds_st
  split
  · show p < p + 1
    omega
  · split
    · show p < p + 1
      omega
    · split
      · rename_i hs
        exact ds_word_2 (wt_wl_1 hs) hp
      · exact hp
theorem ds_blank {t : Nat → Int32} {n : Nat} : ∀ p, p < n → t p = (Int8.ofInt 32).toInt32 → ds_st t n p = (none, p + 1) := by
  intro p _ h
  unfold ds_st
  rw [if_pos (by rw [h]; rfl)]
theorem wt_wl_s {t : Nat → Int32} : ∀ r p j, j < wt_wl t p r → wt_sml t (p + j) = true
  | 0, p, j, h => by
    have h : j < 0 := h
    omega
  | r + 1, p, j, h => by
    have h : j < (if wt_sml t p = true then wt_wl t (p + 1) r + 1 else 0) := h
    split at h
    · rename_i hs
      cases j with
      | zero => exact hs
      | succ j =>
        have := wt_wl_s (t := t) r (p + 1) j (by omega)
        rw [show p + (j + 1) = p + 1 + j by omega]
        exact this
    · omega
/-- a token x with what comes behind it, l; the reference stands at e -/
def ds_tk (t : Nat → Int32) (n : Nat) (x : wt_t) (l : List wt_t) (e : Nat) : Prop := x.2.1 ≤ e ∧ e ≤ n ∧ (¬ x.1 = 0 → ¬ x.1 = 1 → l = wt_lx (ds_st t n) n e ∧ x.2.1 < e) ∧ (x.1 = 32 → x.2.2.2.2 = ds_nm t x.2.1 (e - x.2.1) ∧ e - x.2.1 ≤ 8 ∧ ∀ k, x.2.1 ≤ k → k < e → wt_sml t k = true) ∧ (x.1 = 0 → x.2.1 = n)
/-- what the reference's next token leaves alone -/
def wp_NF (I I1 : Nat → Nat → Int32) : Prop := ∀ c j, ¬ (c = 460 ∧ (j = 3 ∨ j = 4 ∨ j = 5)) → I1 c j = I c j
theorem wp_NF_tr {I J K : Nat → Nat → Int32} (h : wp_NF I J) (h2 : wp_NF J K) : wp_NF I K := fun c j a => by rw [h2 c j a, h c j a]
def wp_h466 (e : Nat) (T : wv_T) (N : Nat) (I : Nat → Nat → Int32) (L : Nat → Nat → Int64) (R : Nat → Nat → Option Nat) : Nat → Option (Nat → wv_P) := fun pc =>
  if pc = 0 then some (fun m lv st T1 N1 I1 L1 R1 nc ns => ∃ p : Nat, lv = [some (.ref 460), none] ∧ st = [] ∧ T1 = T ∧ N1 = N ∧ L1 = L ∧ R1 = R ∧ nc = 0 ∧ ns = 0 ∧ m = 3000 - p ∧ p ≤ 400 ∧ I1 460 5 = Int32.ofNat p ∧ wp_NF I I1 ∧ e ≤ p ∧ (∀ k, e ≤ k → k < p → wt_m I k = (Int8.ofInt 32).toInt32))
  else none
theorem ds_word_k {t : Nat → Int32} {n p z : Nat} (ht : wt_tx t n) (hz : wt_wl t p 400 = z) (h1 : 1 ≤ z) (hpn : p < n) : ∃ x p2, ds_word t n p z = (some x, p2) ∧ ds_mc x.1 = wp_dc t p z ∧ x.2.1 = p ∧ p + z ≤ n ∧ (¬ x.1 = 1 → p2 = p + z) ∧ ¬ x.1 = 0 ∧ (x.1 = 32 → x.2.2.2.2 = ds_nm t p z ∧ z ≤ 8) := by
  have hpz : p + z ≤ n := by
    by_cases h : p + z ≤ n
    · exact h
    · have hs := wt_wl_s (t := t) 400 p (z - 1) (by omega)
      unfold wt_sml at hs
      rw [ht.1 (p + (z - 1)) (by omega)] at hs
      exact absurd hs (by decide)
  unfold ds_word wp_dc
  by_cases h8 : 8 < z
  · rw [if_pos h8, if_pos h8]
    exact ⟨_, _, rfl, rfl, rfl, hpz, fun h => (h rfl).elim, (show ¬ Int32.ofInt 1 = 0 by decide), fun h => absurd (show Int32.ofInt 1 = 32 from h) (by decide)⟩
  · rw [if_neg h8, if_neg h8]
    repeat' split
    all_goals refine ⟨_, _, rfl, rfl, rfl, hpz, fun _ => rfl, ?_, fun h => ?_⟩
    all_goals first
      | exact (show ¬ (Int8.ofInt 33).toInt32 = 0 by decide)
      | exact (show ¬ (Int8.ofInt 34).toInt32 = 0 by decide)
      | exact (show ¬ (Int8.ofInt 35).toInt32 = 0 by decide)
      | exact (show ¬ (Int8.ofInt 28).toInt32 = 0 by decide)
      | exact (show ¬ (Int8.ofInt 36).toInt32 = 0 by decide)
      | exact (show ¬ (Int8.ofInt 32).toInt32 = 0 by decide)
      | exact absurd (show (Int8.ofInt 33).toInt32 = 32 from h) (by decide)
      | exact absurd (show (Int8.ofInt 34).toInt32 = 32 from h) (by decide)
      | exact absurd (show (Int8.ofInt 35).toInt32 = 32 from h) (by decide)
      | exact absurd (show (Int8.ofInt 28).toInt32 = 32 from h) (by decide)
      | exact absurd (show (Int8.ofInt 36).toInt32 = 32 from h) (by decide)
      | exact ⟨rfl, by omega⟩
def wp_c466 : wv_c1 := fun as T N I L R q => ∃ (t : Nat → Int32) (n e : Nat), as = [.ref 460] ∧ wp_Y T I t n ∧ I 460 5 = Int32.ofNat e ∧ e ≤ n ∧ ∀ x l e2 I1, wt_lx (ds_st t n) n e = x :: l → ds_tk t n x l e2 → I1 460 3 = ds_mc x.1 → I1 460 4 = Int32.ofNat x.2.1 → I1 460 5 = Int32.ofNat e2 → wp_NF I I1 → q (.inl none) T N I1 L R 0 0
set_option maxRecDepth 100000 in
theorem wM_466 : ∃ cb ci np, pt_mt 466 = some (32, cb, 1, false, none, ci, np) := ⟨_, _, _, rfl⟩
set_option maxRecDepth 100000 in
set_option maxHeartbeats 2000000 in
theorem wp_nextOfDesign {sc : pt_Sc} {d : Nat} : wv_C wm_fx sc (d + 1 + 1 + 1 + 1) 466 wp_c466 := by
  rintro as T N I L R q ⟨t, n, e, rfl, hY, i5, he, h⟩ w0 HR
  obtain ⟨cb, ci, np, hm⟩ := wM_466
  have hc349 : wv_C wm_fx sc (d + 1 + 1 + 1) 349 wp_c349 := wv_C_deep (by omega) (wp_at (d := d))
  have hc353 : wv_C wm_fx sc (d + 1 + 1 + 1) 353 wp_c353 := wv_C_deep (by omega) (wp_isSmall (d := d))
  have hc467 : wv_C wm_fx sc (d + 1 + 1 + 1) 467 wp_c467 := wv_C_deep (by omega) (wp_nameToken (d := d))
  refine wv_meth (hh := none) rfl (sp := wv_sp [(349, wp_c349), (353, wp_c353), (467, wp_c467)]) (hd := wp_h466 e T N I L R) (n := 300) (n1 := 300) hm zc_466 rfl (wv_sp_ok (fun q hq => by
    rcases List.mem_cons.mp hq with h | h
    · rw [h]; exact hc349
    rcases List.mem_cons.mp h with h | h
    · rw [h]; exact hc353
    rw [List.mem_singleton.mp h]; exact hc467)) ?_ ?_ HR
  · have hn4 := hY.2.2.1
    exact ⟨3000 - e, e, rfl, rfl, rfl, rfl, rfl, rfl, rfl, rfl, rfl, by omega, i5, fun _ _ _ => rfl, Nat.le_refl _, fun k a b => by omega⟩
  · intro pc P hP m lv st T1 N1 I1 L1 R1 nc ns hh
    unfold wp_h466 at hP
    split at hP
    · cases hP
      rename_i hpc
      subst hpc
      obtain ⟨p, rfl, rfl, rfl, rfl, rfl, rfl, rfl, rfl, hm, hp, j5, hF, hep, hbl⟩ := hh
      have hY2 : wt_m I1 = t := by
        rw [← hY.2.1]
        funext j
        unfold wt_m
        rw [hF _ _ (by omega), hF _ _ (by omega)]
      have hk1 : wt_mok T1 I1 := by
        have := hY.1
        unfold wt_mok at this ⊢
        rw [hF _ _ (by omega)]
        exact this
      have hn4 := hY.2.2.1
      have ht := hY.2.2.2
      rw [hY.2.1] at hbl
      refine ⟨p, congrArg (fun x => [Value.ref 460, Value.int x]) j5, by omega, hk1, ?_⟩
      rw [hY2]
      refine ⟨fun h1 => ?_, fun h1 => ?_⟩
      rotate_left
      · have h2 := Decidable.not_not.mp h1
        have hlt : p < 400 := by
          by_cases hpn : p < n
          · omega
          · rw [ht.1 p (by omega)] at h2
            exact absurd h2 (by decide)
        refine ⟨3000 - (p + 1), by omega, p + 1, rfl, rfl, rfl, rfl, rfl, rfl, rfl, rfl, rfl, by omega, ?_, ?_, by omega, ?_⟩
        · rw [wv_u_at, j5]; exact wq_4s p
        · intro c j hc
          rw [wv_u_no _ _ (by omega)]
          exact hF c j hc
        · intro k a b
          rw [hY.2.1]
          by_cases hkp : k = p
          · rw [hkp]; exact h2
          · exact hbl k a (by omega)
      -- p is no blank
      have hpn : p ≤ n := by
        by_cases hc : p ≤ n
        · exact hc
        · have := hbl n he (by omega)
          rw [ht.1 n (Nat.le_refl _)] at this
          exact absurd this (by decide)
      have elx : wt_lx (ds_st t n) n e = wt_lx (ds_st t n) n p := by
        have e1 := wt_lx_sk (st := ds_st t n) ds_pg ds_blank ht.1 (p - e) e (fun j a b => hbl j a (by omega))
        rw [show e + (p - e) = p by omega] at e1
        exact e1
      have h1i : ¬ (t p).toInt = 32 := fun z => h1 (wi_eq.mpr z)
      -- the state with place and end
      have jF : wp_NF I (wv_u (wv_u I1 460 4 (I1 460 5)) 460 5 (wv_u I1 460 4 (I1 460 5) 460 4 + Int32.ofInt 1)) := fun c j hc => by rw [wv_u_no _ _ (by omega), wv_u_no _ _ (by omega)]; exact hF c j hc
      have jk : wt_mok T1 (wv_u (wv_u I1 460 4 (I1 460 5)) 460 5 (wv_u I1 460 4 (I1 460 5) 460 4 + Int32.ofInt 1)) := by
        have := hY.1
        unfold wt_mok at this ⊢
        rw [jF _ _ (by omega)]
        exact this
      have jm : wt_m (wv_u (wv_u I1 460 4 (I1 460 5)) 460 5 (wv_u I1 460 4 (I1 460 5) 460 4 + Int32.ofInt 1)) = t := by
        rw [← hY.2.1]
        funext j
        unfold wt_m
        rw [jF _ _ (by omega), jF _ _ (by omega)]
      have k4 : wv_u (wv_u I1 460 4 (I1 460 5)) 460 5 (wv_u I1 460 4 (I1 460 5) 460 4 + Int32.ofInt 1) 460 4 = Int32.ofNat p := by rw [wv_u_no _ _ (by omega), wv_u_at]; exact j5
      have k5 : wv_u (wv_u I1 460 4 (I1 460 5)) 460 5 (wv_u I1 460 4 (I1 460 5) 460 4 + Int32.ofInt 1) 460 5 = Int32.ofNat (p + 1) := by rw [wv_u_at, wv_u_at, j5]; exact wq_4s p
      refine ⟨p, congrArg (fun x => [Value.ref 460, Value.int x]) k4, by omega, jk, ?_⟩
      rw [jm]
      generalize wv_u (wv_u I1 460 4 (I1 460 5)) 460 5 (wv_u I1 460 4 (I1 460 5) 460 4 + Int32.ofInt 1) = J at jF jk jm k4 k5 ⊢
      have fin : ∀ (x : wt_t) (l : List wt_t) (e2 : Nat) (J2 : Nat → Nat → Int32), wt_lx (ds_st t n) n p = x :: l → ds_tk t n x l e2 → J2 460 3 = ds_mc x.1 → J2 460 4 = Int32.ofNat x.2.1 → J2 460 5 = Int32.ofNat e2 → wp_NF I J2 → q (.inl none) T1 N1 J2 L1 R1 0 0 := by
        intro x l e2 J2 a1 a2 a3 a4 a5 a6
        exact h x l e2 J2 (by rw [elx]; exact a1) a2 a3 a4 a5 a6
      refine ⟨fun x => ?_, fun x0 => ?_⟩
      · have hpe : ¬ p < n := fun z => ht.2 p z (wi_eq.mpr x)
        refine fin (wt_E n) [] p _ (wt_lx_end (by omega)) ⟨by show n ≤ p; omega, hpn, fun z => (z rfl).elim, fun z => absurd (show Int32.ofInt 0 = 32 from z) (by decide), fun _ => rfl⟩ ?_ ?_ ?_ ?_
        · rw [wv_u_at]; rfl
        · rw [wv_u_no _ _ (by omega), wv_u_no _ _ (by omega), k4, show p = n by omega]; rfl
        · rw [wv_u_no _ _ (by omega), wv_u_at]; exact k4
        · intro c j hc
          rw [wv_u_no _ _ (by omega), wv_u_no _ _ (by omega)]
          exact jF c j hc
      have hlt : p < n := by
        by_cases z : p < n
        · exact z
        · exact (x0 (by rw [ht.1 p (by omega)]; rfl)).elim
      have one : ∀ (kd cd : Int32), ds_k (t p).toInt = some kd → ds_mc kd = cd → ¬ kd = 0 → ¬ kd = 32 → q (.inl none) T1 N1 (wv_u J 460 3 cd) L1 R1 0 0 := by
        intro kd cd hkd hcd hk0 hk32
        have hst : ds_st t n p = (some (kd, p, Int32.ofInt 0, Int32.ofInt 0, 0), p + 1) := by
          unfold ds_st
          rw [if_neg h1i, hkd]
        refine fin _ _ (p + 1) _ (wt_lx_some ds_pg hlt hst) ⟨by show p ≤ p + 1; omega, by omega, fun _ _ => ⟨rfl, by show p < p + 1; omega⟩, fun z => (hk32 z).elim, fun z => (hk0 z).elim⟩ ?_ ?_ ?_ ?_
        · rw [wv_u_at]; exact hcd.symm
        · rw [wv_u_no _ _ (by omega)]; exact k4
        · rw [wv_u_no _ _ (by omega)]; exact k5
        · intro c j hc
          rw [wv_u_no _ _ (by omega)]
          exact jF c j hc
      refine ⟨fun x => ?_, fun x1 => ?_⟩
      · exact one _ _ (by rw [x]; rfl) rfl (by decide) (by decide)
      refine ⟨fun x => ?_, fun x2 => ?_⟩
      · exact one _ _ (by rw [x]; rfl) rfl (by decide) (by decide)
      refine ⟨fun x => ?_, fun x3 => ?_⟩
      · exact one _ _ (by rw [x]; rfl) rfl (by decide) (by decide)
      refine ⟨fun x => ?_, fun x4 => ?_⟩
      · exact one _ _ (by rw [x]; rfl) rfl (by decide) (by decide)
      refine ⟨fun x => ?_, fun x5 => ?_⟩
      · exact one _ _ (by rw [x]; rfl) rfl (by decide) (by decide)
      refine ⟨fun x => ?_, fun x6 => ?_⟩
      · exact one _ _ (by rw [x]; rfl) rfl (by decide) (by decide)
      refine ⟨fun x => ?_, fun x7 => ?_⟩
      · exact one _ _ (by rw [x]; rfl) rfl (by decide) (by decide)
      refine ⟨fun x => ?_, fun x8 => ?_⟩
      · exact one _ _ (by rw [x]; rfl) rfl (by decide) (by decide)
      refine ⟨fun x => ?_, fun x9 => ?_⟩
      · exact one _ _ (by rw [x]; rfl) rfl (by decide) (by decide)
      refine ⟨fun x => ?_, fun x10 => ?_⟩
      · exact one _ _ (by rw [x]; rfl) rfl (by decide) (by decide)
      have hkn : ds_k (t p).toInt = none := by
        unfold ds_k
        rw [if_neg x1, if_neg x2, if_neg x3, if_neg x4, if_neg x5, if_neg x6, if_neg x7, if_neg x8, if_neg x9, if_neg x10]
      refine ⟨p, congrArg (fun x => [Value.ref 460, Value.int x]) k4, by omega, jk, ?_⟩
      rw [jm]
      refine ⟨fun y => ?_, fun y => ?_⟩
      · have hst : ds_st t n p = (some (Int32.ofInt 1, p, Int32.ofInt 0, Int32.ofInt 0, 0), n) := by
          unfold ds_st
          rw [if_neg h1i, hkn]
          show (if wt_sml t p = true then _ else _) = _
          rw [if_neg (by rw [wp_b0 y]; decide)]
        refine fin _ _ (p + 1) _ (wt_lx_some ds_pg hlt hst) ⟨by show p ≤ p + 1; omega, by omega, fun _ z => (z rfl).elim, fun z => absurd (show Int32.ofInt 1 = 32 from z) (by decide), fun z => absurd (show Int32.ofInt 1 = 0 from z) (by decide)⟩ ?_ ?_ ?_ ?_
        · rw [wv_u_at]; rfl
        · rw [wv_u_no _ _ (by omega)]; exact k4
        · rw [wv_u_no _ _ (by omega)]; exact k5
        · intro c j hc
          rw [wv_u_no _ _ (by omega)]
          exact jF c j hc
      · have hs := wp_b1 y
        refine ⟨p, rfl, jk, by omega, k4, k5, by rw [jm]; exact hs, fun J2 a5 aF => ?_⟩
        rw [jm] at a5 ⊢
        have hz1 := wt_wl_1 hs
        generalize hz : wt_wl t p 400 = z at a5 hz1 ⊢
        obtain ⟨xx, p2, b1, b2, b3, b4, b5, b6, b7⟩ := ds_word_k ht hz hz1 hlt
        have hst : ds_st t n p = (some xx, p2) := by
          unfold ds_st
          rw [if_neg h1i, hkn]
          show (if wt_sml t p = true then _ else _) = _
          rw [if_pos hs, hz]
          exact b1
        refine fin xx _ (p + z) _ (wt_lx_some ds_pg hlt hst) ⟨by omega, b4, fun _ w => ⟨by rw [b5 w], by omega⟩, fun w => ?_, fun w => (b6 w).elim⟩ ?_ ?_ ?_ ?_
        · obtain ⟨c1, c2⟩ := b7 w
          rw [b3, show p + z - p = z by omega]
          refine ⟨c1, c2, fun k a1 a2 => ?_⟩
          have := wt_wl_s (t := t) 400 p (k - p) (by omega)
          rw [show p + (k - p) = k by omega] at this
          exact this
        · rw [wv_u_at]; exact b2.symm
        · rw [wv_u_no _ _ (by omega), aF _ _ (by omega), b3]; exact k4
        · rw [wv_u_no _ _ (by omega)]; exact a5
        · intro c j hc
          rw [wv_u_no _ _ (by omega), aF _ _ (by omega)]
          exact jF c j hc
    · cases hP
