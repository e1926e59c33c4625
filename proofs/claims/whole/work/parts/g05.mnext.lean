/-! ===== the reference: the next token of a property text ===== -/
theorem pr_pg {t : Nat → Int32} {n : Nat} : wt_pg (pr_st t n) n := by
  intro p hp
  have hb : p < (pr_b n p).2 := hp
  have ht : ∀ k z, 1 ≤ z → p < (pr_t k p z).2 := fun k z hz => by show p < p + z; omega
  have hc : ∀ k a, p < (pr_cnt t n k p a).2 := fun k a => by
    unfold pr_cnt
    split
    · show p < p + (a + 2); omega
    · exact hb
  unfold pr_st
  split
  · show p < p + 1; omega
  split
  · split
    · exact ht _ _ (by omega)
    · exact ht _ _ (by omega)
  split
  · split
    · exact ht _ _ (by omega)
    · exact hb
  split
  · unfold pr_brk
    split
    · exact ht _ _ (by omega)
    split
    · exact ht _ _ (by omega)
    split
    · split
      · unfold pr_rng
        split
        · show p < p + 7; omega
        · exact hb
      · exact hc _ _
    split
    · exact hc _ _
    split
    · exact hc _ _
    · exact hc _ _
  split
  · unfold pr_bar
    split
    · exact ht _ _ (by omega)
    split
    · exact ht _ _ (by omega)
    split
    · exact ht _ _ (by omega)
    · exact ht _ _ (by omega)
  split
  · exact ht _ _ (by omega)
  split
  · rename_i hs
    have hw := wt_wl_1 hs
    unfold pr_word
    split
    · show p < p + wt_wl t p 400; omega
    split
    · exact hb
    · exact ht _ _ hw
  · exact hb
theorem pr_blank {t : Nat → Int32} {n : Nat} : ∀ p, p < n → t p = (Int8.ofInt 32).toInt32 → pr_st t n p = (none, p + 1) := by
  intro p _ h
  unfold pr_st
  rw [if_pos (by rw [h]; rfl)]
theorem wt_in {t : Nat → Int32} {n q : Nat} {c : Int32} (ht : wt_tx t n) (h : t q = c) (hc : ¬ c = 0) : q < n := by
  by_cases z : q < n
  · exact z
  · exact (hc (by rw [← h, ht.1 q (by omega)])).elim
theorem br_A_ge {t : Nat → Int32} {p i : Nat} {k : Int32} (h : br_A t p = (i, k)) : p + 1 ≤ i := by
  unfold br_A at h
  repeat' split at h
  all_goals (have := congrArg Prod.fst h; dsimp only at this; omega)
theorem br_C_ge {t : Nat → Int32} {i i2 : Nat} {k k2 lo hi : Int32} {d : Bool} (h : br_C t i k d = (i2, k2, lo, hi)) : i ≤ i2 := by
  unfold br_C at h
  repeat' split at h
  all_goals (have := congrArg Prod.fst h; dsimp only at this; omega)
/-- a token x with what comes behind it, l; the reference stands at e -/
def pr_tk (t : Nat → Int32) (n : Nat) (x : wt_t) (l : List wt_t) (e : Nat) : Prop := x.2.1 ≤ e ∧ e ≤ n ∧ (¬ x.1 = 0 → ¬ x.1 = 1 → l = wt_lx (pr_st t n) n e ∧ x.2.1 < e) ∧ (x.1 = 0 → x.2.1 = n)
/-- a token with a count -/
def pr_ct (x : wt_t) : Prop := x.1 = 22 ∨ x.1 = 23 ∨ x.1 = 24 ∨ x.1 = 25
/-- what the reference's next token leaves alone -/
def pr_NF (I I1 : Nat → Nat → Int32) : Prop := ∀ c j, ¬ (c = 460 ∧ 3 ≤ j ∧ j ≤ 7) → I1 c j = I c j
theorem pr_NF_tr {I J K : Nat → Nat → Int32} (h : pr_NF I J) (h2 : pr_NF J K) : pr_NF I K := fun c j a => by rw [h2 c j a, h c j a]
def wp_h348 (e : Nat) (T : wv_T) (N : Nat) (I : Nat → Nat → Int32) (L : Nat → Nat → Int64) (R : Nat → Nat → Option Nat) : Nat → Option (Nat → wv_P) := fun pc =>
  if pc = 0 then some (fun m lv st T1 N1 I1 L1 R1 nc ns => ∃ p : Nat, lv = [some (.ref 460), none, none, none] ∧ st = [] ∧ T1 = T ∧ N1 = N ∧ L1 = L ∧ R1 = R ∧ nc = 0 ∧ ns = 0 ∧ m = 3000 - p ∧ p ≤ 400 ∧ I1 460 5 = Int32.ofNat p ∧ pr_NF I I1 ∧ e ≤ p ∧ (∀ k, e ≤ k → k < p → wt_m I k = (Int8.ofInt 32).toInt32))
  else none
def wp_c348 : wv_c1 := fun as T N I L R q => ∃ (t : Nat → Int32) (n e : Nat), as = [.ref 460] ∧ wp_Y T I t n ∧ I 460 5 = Int32.ofNat e ∧ e ≤ n ∧ ∀ x l e2 I1, wt_lx (pr_st t n) n e = x :: l → pr_tk t n x l e2 → I1 460 3 = pr_mc x → I1 460 4 = Int32.ofNat x.2.1 → I1 460 5 = Int32.ofNat e2 → (pr_ct x → I1 460 6 = x.2.2.1 ∧ I1 460 7 = x.2.2.2.1) → pr_NF I I1 → q (.inl none) T N I1 L R 0 0
set_option maxRecDepth 100000 in
theorem wM_348 : ∃ cb ci np, pt_mt 348 = some (32, cb, 3, false, none, ci, np) := ⟨_, _, _, rfl⟩
set_option maxRecDepth 100000 in
set_option maxHeartbeats 4000000 in
theorem wp_next {sc : pt_Sc} {d : Nat} : wv_C wm_fx sc (d + 1 + 1 + 1 + 1) 348 wp_c348 := by
  rintro as T N I L R q ⟨t, n, e, rfl, hY, i5, he, h⟩ w0 HR
  obtain ⟨cb, ci, np, hm⟩ := wM_348
  have hc349 : wv_C wm_fx sc (d + 1 + 1 + 1) 349 wp_c349 := wv_C_deep (by omega) (wp_at (d := d))
  have hc350 : wv_C wm_fx sc (d + 1 + 1 + 1) 350 wp_c350 := wv_C_deep (by omega) (wp_two (d := d))
  have hc351 : wv_C wm_fx sc (d + 1 + 1 + 1) 351 wp_c351 := wv_C_deep (by omega) (wp_bracket (d := d))
  have hc353 : wv_C wm_fx sc (d + 1 + 1 + 1) 353 wp_c353 := wv_C_deep (by omega) (wp_isSmall (d := d))
  have hc354 : wv_C wm_fx sc (d + 1 + 1 + 1) 354 wp_c354 := wv_C_deep (by omega) (wp_wordToken (d := d))
  refine wv_meth (hh := none) rfl (sp := wv_sp [(349, wp_c349), (350, wp_c350), (351, wp_c351), (353, wp_c353), (354, wp_c354)]) (hd := wp_h348 e T N I L R) (n := 300) (n1 := 300) hm zc_348 rfl (wv_sp_ok (fun q hq => by
    rcases List.mem_cons.mp hq with h | h
    · rw [h]; exact hc349
    rcases List.mem_cons.mp h with h | h
    · rw [h]; exact hc350
    rcases List.mem_cons.mp h with h | h
    · rw [h]; exact hc351
    rcases List.mem_cons.mp h with h | h
    · rw [h]; exact hc353
    rw [List.mem_singleton.mp h]; exact hc354)) ?_ ?_ HR
  · have hn4 := hY.2.2.1
    exact ⟨3000 - e, e, rfl, rfl, rfl, rfl, rfl, rfl, rfl, rfl, rfl, by omega, i5, fun _ _ _ => rfl, Nat.le_refl _, fun k a b => by omega⟩
  · intro pc P hP m lv st T1 N1 I1 L1 R1 nc ns hh
    unfold wp_h348 at hP
    split at hP
    · cases hP
      rename_i hpc
      subst hpc
      obtain ⟨p, rfl, rfl, rfl, rfl, rfl, rfl, rfl, rfl, hm, hp, j5, hF, hep, hbl⟩ := hh
      have hY2 : wt_m I1 = t := by
        rw [← hY.2.1]
        funext j
        unfold wt_m
        rw [hF _ _ (by omega), hF _ _ (by omega)]
      have hk1 : wt_mok T1 I1 := by
        have := hY.1
        unfold wt_mok at this ⊢
        rw [hF _ _ (by omega)]
        exact this
      have hn4 := hY.2.2.1
      have ht := hY.2.2.2
      rw [hY.2.1] at hbl
      refine ⟨p, congrArg (fun x => [Value.ref 460, Value.int x]) j5, by omega, hk1, ?_⟩
      rw [hY2]
      refine ⟨fun h1 => ?_, fun h1 => ?_⟩
      rotate_left
      · have h2 := Decidable.not_not.mp h1
        have hlt : p < 400 := by
          have := wt_in ht h2 (by decide)
          omega
        refine ⟨3000 - (p + 1), by omega, p + 1, rfl, rfl, rfl, rfl, rfl, rfl, rfl, rfl, rfl, by omega, ?_, ?_, by omega, ?_⟩
        · rw [wv_u_at, j5]; exact wq_4s p
        · intro c j hc
          rw [wv_u_no _ _ (by omega)]
          exact hF c j hc
        · intro k a b
          rw [hY.2.1]
          by_cases hkp : k = p
          · rw [hkp]; exact h2
          · exact hbl k a (by omega)
      have hpn : p ≤ n := by
        by_cases hc : p ≤ n
        · exact hc
        · have := hbl n he (by omega)
          rw [ht.1 n (Nat.le_refl _)] at this
          exact absurd this (by decide)
      have elx : wt_lx (pr_st t n) n e = wt_lx (pr_st t n) n p := by
        have e1 := wt_lx_sk (st := pr_st t n) pr_pg pr_blank ht.1 (p - e) e (fun j a b => hbl j a (by omega))
        rw [show e + (p - e) = p by omega] at e1
        exact e1
      have h1i : ¬ (t p).toInt = 32 := fun z => h1 (wi_eq.mpr z)
      have jF : pr_NF I (wv_u (wv_u I1 460 4 (I1 460 5)) 460 5 (wv_u I1 460 4 (I1 460 5) 460 4 + Int32.ofInt 1)) := fun c j hc => by rw [wv_u_no _ _ (by omega), wv_u_no _ _ (by omega)]; exact hF c j hc
      have jk : wt_mok T1 (wv_u (wv_u I1 460 4 (I1 460 5)) 460 5 (wv_u I1 460 4 (I1 460 5) 460 4 + Int32.ofInt 1)) := by
        have := hY.1
        unfold wt_mok at this ⊢
        rw [jF _ _ (by omega)]
        exact this
      have jm : wt_m (wv_u (wv_u I1 460 4 (I1 460 5)) 460 5 (wv_u I1 460 4 (I1 460 5) 460 4 + Int32.ofInt 1)) = t := by
        rw [← hY.2.1]
        funext j
        unfold wt_m
        rw [jF _ _ (by omega), jF _ _ (by omega)]
      have k4 : wv_u (wv_u I1 460 4 (I1 460 5)) 460 5 (wv_u I1 460 4 (I1 460 5) 460 4 + Int32.ofInt 1) 460 4 = Int32.ofNat p := by rw [wv_u_no _ _ (by omega), wv_u_at]; exact j5
      have k5 : wv_u (wv_u I1 460 4 (I1 460 5)) 460 5 (wv_u I1 460 4 (I1 460 5) 460 4 + Int32.ofInt 1) 460 5 = Int32.ofNat (p + 1) := by rw [wv_u_at, wv_u_at, j5]; exact wq_4s p
      refine ⟨p, congrArg (fun x => [Value.ref 460, Value.int x]) k4, by omega, jk, ?_⟩
      rw [jm]
      generalize wv_u (wv_u I1 460 4 (I1 460 5)) 460 5 (wv_u I1 460 4 (I1 460 5) 460 4 + Int32.ofInt 1) = J at jF jk jm k4 k5 ⊢
      have k41 : J 460 4 + Int32.ofInt 1 = Int32.ofNat (p + 1) := by rw [k4]; exact wi_ona p 1
      refine ⟨p + 1, congrArg (fun x => [Value.ref 460, Value.int x]) k41, by omega, jk, ?_⟩
      rw [jm]
      have fin : ∀ (x : wt_t) (l : List wt_t) (e2 : Nat) (J2 : Nat → Nat → Int32), wt_lx (pr_st t n) n p = x :: l → pr_tk t n x l e2 → J2 460 3 = pr_mc x → J2 460 4 = Int32.ofNat x.2.1 → J2 460 5 = Int32.ofNat e2 → (pr_ct x → J2 460 6 = x.2.2.1 ∧ J2 460 7 = x.2.2.2.1) → pr_NF I J2 → q (.inl none) T1 N1 J2 L1 R1 0 0 := by
        intro x l e2 J2 a1 a2 a3 a4 a5 a6 a7
        exact h x l e2 J2 (by rw [elx]; exact a1) a2 a3 a4 a5 a6 a7
      refine ⟨fun x => ?_, fun x0 => ?_⟩
      · have hpe : ¬ p < n := fun z => ht.2 p z (wi_eq.mpr x)
        refine fin (wt_E n) [] p _ (wt_lx_end (by omega)) ⟨by show n ≤ p; omega, hpn, fun z => (z rfl).elim, fun _ => rfl⟩ ?_ ?_ ?_ (fun z => absurd (show Int32.ofInt 0 = 22 ∨ Int32.ofInt 0 = 23 ∨ Int32.ofInt 0 = 24 ∨ Int32.ofInt 0 = 25 from z) (by decide)) ?_
        · rw [wv_u_at]; rfl
        · rw [wv_u_no _ _ (by omega), wv_u_no _ _ (by omega), k4, show p = n by omega]; rfl
        · rw [wv_u_no _ _ (by omega), wv_u_at]; exact k4
        · intro c j hc
          rw [wv_u_no _ _ (by omega), wv_u_no _ _ (by omega)]
          exact jF c j hc
      have hlt : p < n := by
        by_cases z : p < n
        · exact z
        · exact (x0 (by rw [ht.1 p (by omega)]; rfl)).elim
      -- a token without a count, of z signs
      have tok : ∀ (kd cd : Int32) (z : Nat) (J2 : Nat → Nat → Int32), pr_st t n p = pr_t kd p z → 1 ≤ z → p + z ≤ n → pr_mc (kd, p, Int32.ofInt 0, Int32.ofInt 0, 0) = cd → ¬ kd = 0 → ¬ pr_ct (kd, p, Int32.ofInt 0, Int32.ofInt 0, 0) → J2 460 3 = cd → J2 460 4 = Int32.ofNat p → J2 460 5 = Int32.ofNat (p + z) → pr_NF I J2 → q (.inl none) T1 N1 J2 L1 R1 0 0 := by
        intro kd cd z J2 hst hz hzn hcd hk0 hkc a3 a4 a5 a7
        exact fin _ _ (p + z) J2 (wt_lx_some pr_pg hlt hst) ⟨by show p ≤ p + z; omega, hzn, fun _ _ => ⟨rfl, by show p < p + z; omega⟩, fun w => (hk0 w).elim⟩ (by rw [a3]; exact hcd.symm) a4 a5 (fun w => (hkc w).elim) a7
      have bad : pr_st t n p = pr_b n p → ∀ J2 : Nat → Nat → Int32, J2 460 3 = (Int8.ofInt 51).toInt32 → J2 460 4 = Int32.ofNat p → J2 460 5 = Int32.ofNat (p + 1) → pr_NF I J2 → q (.inl none) T1 N1 J2 L1 R1 0 0 := by
        intro hst J2 a3 a4 a5 a7
        exact fin _ _ (p + 1) J2 (wt_lx_some pr_pg hlt hst) ⟨by show p ≤ p + 1; omega, by omega, fun _ w => (w rfl).elim, fun w => absurd (show Int32.ofInt 1 = 0 from w) (by decide)⟩ (by rw [a3]; rfl) a4 a5 (fun w => absurd (show Int32.ofInt 1 = 22 ∨ Int32.ofInt 1 = 23 ∨ Int32.ofInt 1 = 24 ∨ Int32.ofInt 1 = 25 from w) (by decide)) a7
      have g3 : ∀ x, wv_u J 460 3 x 460 3 = x := fun x => wv_u_at _ _ _ _
      have g4 : ∀ x, wv_u J 460 3 x 460 4 = Int32.ofNat p := fun x => by rw [wv_u_no _ _ (by omega)]; exact k4
      have g5 : ∀ x, wv_u J 460 3 x 460 5 = Int32.ofNat (p + 1) := fun x => by rw [wv_u_no _ _ (by omega)]; exact k5
      have gF : ∀ x, pr_NF I (wv_u J 460 3 x) := fun x c j hc => by rw [wv_u_no _ _ (by omega)]; exact jF c j hc
      have k42 : J 460 4 + Int32.ofInt 2 = Int32.ofNat (p + 2) := by rw [k4]; exact wi_ona p 2
      have f3 : ∀ x y, wv_u (wv_u J 460 5 y) 460 3 x 460 3 = x := fun x y => wv_u_at _ _ _ _
      have f4 : ∀ x y, wv_u (wv_u J 460 5 y) 460 3 x 460 4 = Int32.ofNat p := fun x y => by rw [wv_u_no _ _ (by omega), wv_u_no _ _ (by omega)]; exact k4
      have f5 : ∀ x, wv_u (wv_u J 460 5 (J 460 4 + Int32.ofInt 2)) 460 3 x 460 5 = Int32.ofNat (p + 2) := fun x => by rw [wv_u_no _ _ (by omega), wv_u_at]; exact k42
      have fF : ∀ x y, pr_NF I (wv_u (wv_u J 460 5 y) 460 3 x) := fun x y c j hc => by rw [wv_u_no _ _ (by omega), wv_u_no _ _ (by omega)]; exact jF c j hc
      refine ⟨fun x => ?_, fun x33 => ?_⟩
      · exact tok ((Int8.ofInt 6).toInt32) _ 1 _ (by unfold pr_st; rw [x]; rfl) (Nat.le_refl _) (by omega) rfl (by decide) (by unfold pr_ct; dsimp only; decide) (g3 _) (g4 _) (g5 _) (gF _)
      refine ⟨fun x => ?_, fun x38 => ?_⟩
      · have xp : t p = Int32.ofNat 38 := wi_eq.mpr x
        refine ⟨fun y => ?_, fun y => ?_⟩
        · exact tok ((Int8.ofInt 7).toInt32) _ 1 _ (by unfold pr_st; rw [if_neg h1i, if_pos x, if_neg (show ¬ wt_rd t p [38, 38] = true from fun z => y (rd2.mp z).2)]) (Nat.le_refl _) (by omega) rfl (by decide) (by unfold pr_ct; dsimp only; decide) (g3 _) (g4 _) (g5 _) (gF _)
        · have hin : p + 1 < n := wt_in ht (Decidable.not_not.mp y) (by decide)
          refine ⟨_, rfl, ?_⟩
          exact tok ((Int8.ofInt 12).toInt32) _ 2 _ (by unfold pr_st; rw [if_neg h1i, if_pos x, if_pos (show wt_rd t p [38, 38] = true from rd2.mpr ⟨xp, Decidable.not_not.mp y⟩)]) (by omega) (by omega) rfl (by decide) (by unfold pr_ct; dsimp only; decide) (f3 _ _) (f4 _ _) (f5 _) (fF _ _)
      refine ⟨fun x => ?_, fun x40 => ?_⟩
      · exact tok ((Int8.ofInt 15).toInt32) _ 1 _ (by unfold pr_st; rw [x]; rfl) (Nat.le_refl _) (by omega) rfl (by decide) (by unfold pr_ct; dsimp only; decide) (g3 _) (g4 _) (g5 _) (gF _)
      refine ⟨fun x => ?_, fun x41 => ?_⟩
      · exact tok ((Int8.ofInt 16).toInt32) _ 1 _ (by unfold pr_st; rw [x]; rfl) (Nat.le_refl _) (by omega) rfl (by decide) (by unfold pr_ct; dsimp only; decide) (g3 _) (g4 _) (g5 _) (gF _)
      refine ⟨fun x => ?_, fun x45 => ?_⟩
      · have xp : t p = Int32.ofNat 45 := wi_eq.mpr x
        refine ⟨fun y => ?_, fun y => ?_⟩
        · exact bad (by unfold pr_st; rw [if_neg h1i, if_neg (show ¬ (t p).toInt = 38 by omega), if_pos x, if_neg (show ¬ wt_rd t p [45, 62] = true from fun z => y (rd2.mp z).2)]) _ (g3 _) (g4 _) (g5 _) (gF _)
        · have hin : p + 1 < n := wt_in ht (Decidable.not_not.mp y) (by decide)
          refine ⟨_, rfl, ?_⟩
          exact tok ((Int8.ofInt 17).toInt32) _ 2 _ (by unfold pr_st; rw [if_neg h1i, if_neg (show ¬ (t p).toInt = 38 by omega), if_pos x, if_pos (show wt_rd t p [45, 62] = true from rd2.mpr ⟨xp, Decidable.not_not.mp y⟩)]) (by omega) (by omega) rfl (by decide) (by unfold pr_ct; dsimp only; decide) (f3 _ _) (f4 _ _) (f5 _) (fF _ _)
      refine ⟨fun x => ?_, fun x48 => ?_⟩
      · exact tok (Int32.ofInt 4) _ 1 _ (by unfold pr_st; rw [x]; rfl) (Nat.le_refl _) (by omega) rfl (by decide) (by unfold pr_ct; dsimp only; decide) (g3 _) (g4 _) (g5 _) (gF _)
      refine ⟨fun x => ?_, fun x49 => ?_⟩
      · exact tok (Int32.ofInt 5) _ 1 _ (by unfold pr_st; rw [x]; rfl) (Nat.le_refl _) (by omega) rfl (by decide) (by unfold pr_ct; dsimp only; decide) (g3 _) (g4 _) (g5 _) (gF _)
      refine ⟨fun x => ?_, fun x58 => ?_⟩
      · exact tok ((Int8.ofInt 10).toInt32) _ 1 _ (by unfold pr_st; rw [x]; rfl) (Nat.le_refl _) (by omega) rfl (by decide) (by unfold pr_ct; dsimp only; decide) (g3 _) (g4 _) (g5 _) (gF _)
      refine ⟨fun x => ?_, fun x59 => ?_⟩
      · exact tok ((Int8.ofInt 9).toInt32) _ 1 _ (by unfold pr_st; rw [x]; rfl) (Nat.le_refl _) (by omega) rfl (by decide) (by unfold pr_ct; dsimp only; decide) (g3 _) (g4 _) (g5 _) (gF _)
      refine ⟨fun x => ?_, fun x91 => ?_⟩
      · have xp : t p = Int32.ofNat 91 := wi_eq.mpr x
        have hst : pr_st t n p = pr_brk t n p := by unfold pr_st; rw [if_neg h1i, if_neg (show ¬ (t p).toInt = 38 by omega), if_neg (show ¬ (t p).toInt = 45 by omega), if_pos x]
        refine ⟨p, t, rfl, jk, jm, k4, by omega, ?_⟩
        intro i i2 k k2 lo hi d ok J2 hA hd hC hok a6 a7 a5 a5' aF
        obtain ⟨b1, b2⟩ := br_brk (n := n) xp hA hd hC hok
        have h4 : ∀ y, wv_u J2 460 3 y 460 4 = Int32.ofNat p := fun y => by rw [wv_u_no _ _ (by omega), aF _ _ (by omega)]; exact k4
        have hF2 : ∀ y, pr_NF I (wv_u J2 460 3 y) := fun y c j hc => by rw [wv_u_no _ _ (by omega), aF _ _ (by omega)]; exact jF c j hc
        cases ok with
        | true =>
          obtain ⟨kc, c1, c2, c3, c4⟩ := b1 rfl
          have ho := of_decide_eq_true hok.symm
          have hin : i2 < n := wt_in ht ho.1 (by decide)
          have hge := br_A_ge hA
          have hge2 := br_C_ge hC
          refine fin _ _ (i2 + 1) _ (wt_lx_some pr_pg hlt (hst.trans c1)) ⟨by show p ≤ i2 + 1; omega, by omega, fun _ _ => ⟨rfl, by show p < i2 + 1; omega⟩, fun w => (c3 w).elim⟩ ?_ (h4 _) ?_ (fun _ => ⟨?_, ?_⟩) (hF2 _)
          · rw [wv_u_at]; exact c2.symm
          · rw [wv_u_no _ _ (by omega)]; exact a5 rfl
          · rw [wv_u_no _ _ (by omega)]; exact a6
          · rw [wv_u_no _ _ (by omega)]; exact a7
        | false =>
          exact bad (hst.trans (b2 rfl)) _ (wv_u_at _ _ _ _) (h4 _) (by rw [wv_u_no _ _ (by omega)]; exact a5' rfl) (hF2 _)
      refine ⟨fun x => ?_, fun x123 => ?_⟩
      · exact tok ((Int8.ofInt 13).toInt32) _ 1 _ (by unfold pr_st; rw [x]; rfl) (Nat.le_refl _) (by omega) rfl (by decide) (by unfold pr_ct; dsimp only; decide) (g3 _) (g4 _) (g5 _) (gF _)
      refine ⟨fun x => ?_, fun x124 => ?_⟩
      · have xp : t p = Int32.ofNat 124 := wi_eq.mpr x
        have hst : pr_st t n p = pr_bar t n p := by unfold pr_st; rw [if_neg h1i, if_neg (show ¬ (t p).toInt = 38 by omega), if_neg (show ¬ (t p).toInt = 45 by omega), if_neg (show ¬ (t p).toInt = 91 by omega), if_pos x]
        unfold pr_bar at hst
        have r3 : ∀ b c, wt_rd t p [124, b, c] = true ↔ t (p + 1) = Int32.ofNat b ∧ t (p + 2) = Int32.ofNat c := fun b c => by rw [rd3]; exact ⟨fun z => z.2, fun z => ⟨xp, z⟩⟩
        have r2 : wt_rd t p [124, 124] = true ↔ t (p + 1) = Int32.ofNat 124 := by rw [rd2]; exact ⟨fun z => z.2, fun z => ⟨xp, z⟩⟩
        have k43 : J 460 4 + Int32.ofInt 3 = Int32.ofNat (p + 3) := by rw [k4]; exact wi_ona p 3
        refine ⟨fun y => ?_, fun y => ?_⟩
        · -- no second bar
          have m3 : wt_mok T1 (wv_u J 460 3 (Int8.ofInt 22).toInt32) ∧ wt_m (wv_u J 460 3 (Int8.ofInt 22).toInt32) = t := by
            constructor
            · have := jk
              unfold wt_mok at this ⊢
              rw [wv_u_no _ _ (by omega)]
              exact this
            · rw [← jm]
              funext j
              unfold wt_m
              rw [wv_u_no _ _ (by omega), wv_u_no _ _ (by omega)]
          have one : pr_st t n p = pr_t ((Int8.ofInt 8).toInt32) p 1 → q (.inl none) T1 N1 (wv_u J 460 3 (Int8.ofInt 22).toInt32) L1 R1 0 0 := fun hs => tok ((Int8.ofInt 8).toInt32) _ 1 _ hs (Nat.le_refl _) (by omega) rfl (by decide) (by unfold pr_ct; dsimp only; decide) (g3 _) (g4 _) (g5 _) (gF _)
          have e2 : wv_u J 460 3 (Int8.ofInt 22).toInt32 460 4 + Int32.ofInt 2 = Int32.ofNat (p + 2) := by rw [wv_u_no _ _ (by omega)]; exact k42
          have e3 : wv_u J 460 3 (Int8.ofInt 22).toInt32 460 4 + Int32.ofInt 3 = Int32.ofNat (p + 3) := by rw [wv_u_no _ _ (by omega)]; exact k43
          have thr : ∀ (kd cd : Int32), pr_st t n p = pr_t kd p 3 → p + 3 ≤ n → pr_mc (kd, p, Int32.ofInt 0, Int32.ofInt 0, 0) = cd → ¬ kd = 0 → ¬ pr_ct (kd, p, Int32.ofInt 0, Int32.ofInt 0, 0) → q (.inl none) T1 N1 (wv_u (wv_u (wv_u J 460 3 (Int8.ofInt 22).toInt32) 460 5 (wv_u J 460 3 (Int8.ofInt 22).toInt32 460 4 + Int32.ofInt 3)) 460 3 cd) L1 R1 0 0 := fun kd cd hs hin hcd hk0 hkc => tok kd cd 3 _ hs (by omega) hin hcd hk0 hkc (wv_u_at _ _ _ _) (by rw [wv_u_no _ _ (by omega), wv_u_no _ _ (by omega)]; exact g4 _) (by rw [wv_u_no _ _ (by omega), wv_u_at]; exact e3) (fun c j hc => by rw [wv_u_no _ _ (by omega), wv_u_no _ _ (by omega)]; exact gF _ c j hc)
          refine ⟨fun z1 => ?_, fun z1 => ?_⟩
          · -- a hyphen
            refine ⟨p + 2, congrArg (fun x => [Value.ref 460, Value.int x]) e2, by omega, m3.1, ?_⟩
            rw [m3.2]
            refine ⟨fun z2 => ?_, fun z2 => ?_⟩
            · exact one (by rw [hst, if_neg (fun z => z2 ((r3 45 62).mp z).2), if_neg (fun z => z2 ((r3 61 62).mp z).2), if_neg (fun z => y (r2.mp z))])
            · have z2 := Decidable.not_not.mp z2
              have hin : p + 2 < n := wt_in ht z2 (by decide)
              refine ⟨fun z3 => (z3 z1).elim, fun _ => ?_⟩
              exact thr ((Int8.ofInt 18).toInt32) _ (by rw [hst, if_pos ((r3 45 62).mpr ⟨z1, z2⟩)]) (by omega) rfl (by decide) (by unfold pr_ct; dsimp only; decide)
          · refine ⟨fun z2 => ?_, fun z2 => ?_⟩
            · exact one (by rw [hst, if_neg (fun z => z1 ((r3 45 62).mp z).1), if_neg (fun z => z2 ((r3 61 62).mp z).1), if_neg (fun z => y (r2.mp z))])
            · have z2 := Decidable.not_not.mp z2
              refine ⟨p + 2, congrArg (fun x => [Value.ref 460, Value.int x]) e2, by omega, m3.1, ?_⟩
              rw [m3.2]
              refine ⟨fun z3 => ?_, fun z3 => ?_⟩
              · exact one (by rw [hst, if_neg (fun z => z3 ((r3 45 62).mp z).2), if_neg (fun z => z3 ((r3 61 62).mp z).2), if_neg (fun z => y (r2.mp z))])
              · have z3 := Decidable.not_not.mp z3
                have hin : p + 2 < n := wt_in ht z3 (by decide)
                refine ⟨fun _ => ?_, fun z4 => (z4 z1).elim⟩
                exact thr ((Int8.ofInt 19).toInt32) _ (by rw [hst, if_neg (fun z => z1 ((r3 45 62).mp z).1), if_pos ((r3 61 62).mpr ⟨z2, z3⟩)]) (by omega) rfl (by decide) (by unfold pr_ct; dsimp only; decide)
        · have y := Decidable.not_not.mp y
          have hin : p + 1 < n := wt_in ht y (by decide)
          refine ⟨_, rfl, ?_⟩
          have nq : ∀ c : Int32, ¬ (Int8.ofInt 124).toInt32 = c → ¬ t (p + 1) = c := fun c hc z => hc (by rw [← z]; exact y.symm)
          refine ⟨fun z1 => (nq _ (by decide) z1).elim, fun _ => ?_⟩
          refine ⟨fun _ => ?_, fun z2 => (z2 (nq _ (by decide))).elim⟩
          exact tok ((Int8.ofInt 11).toInt32) _ 2 _ (by rw [hst, if_neg (fun z => nq _ (by decide) ((r3 45 62).mp z).1), if_neg (fun z => nq _ (by decide) ((r3 61 62).mp z).1), if_pos (r2.mpr y)]) (by omega) (by omega) rfl (by decide) (by unfold pr_ct; dsimp only; decide) (f3 _ _) (f4 _ _) (f5 _) (fF _ _)
      refine ⟨fun x => ?_, fun x125 => ?_⟩
      · exact tok ((Int8.ofInt 14).toInt32) _ 1 _ (by unfold pr_st; rw [x]; rfl) (Nat.le_refl _) (by omega) rfl (by decide) (by unfold pr_ct; dsimp only; decide) (g3 _) (g4 _) (g5 _) (gF _)
      have hkn : pr_k (t p).toInt = none := by
        unfold pr_k
        rw [if_neg x33, if_neg x40, if_neg x41, if_neg x48, if_neg x49, if_neg x58, if_neg x59, if_neg x123, if_neg x125]
      have hst0 : pr_st t n p = if wt_sml t p = true then pr_word t n p else pr_b n p := by
        unfold pr_st
        rw [if_neg h1i, if_neg x38, if_neg x45, if_neg x91, if_neg x124, hkn]
      refine ⟨p, congrArg (fun x => [Value.ref 460, Value.int x]) k4, by omega, jk, ?_⟩
      rw [jm]
      refine ⟨fun y => ?_, fun y => ?_⟩
      · exact bad (by rw [hst0, if_neg (by rw [wp_b0 y]; decide)]) _ (g3 _) (g4 _) (g5 _) (gF _)
      · have hs := wp_b1 y
        refine ⟨p, rfl, jk, by omega, k4, k5, by rw [jm]; exact hs, fun J2 a5 aF => ?_⟩
        rw [jm] at a5 ⊢
        generalize hz : wt_wl t p 400 = z at a5 ⊢
        have hz1 : 1 ≤ z := by rw [← hz]; exact wt_wl_1 hs
        obtain ⟨xx, p2, b1, b2, b3, b4, b5, b6, b7⟩ := pr_word_k ht hs hz hlt
        have hst : pr_st t n p = (some xx, p2) := by rw [hst0, if_pos hs]; exact b1
        refine fin xx _ (p + z) _ (wt_lx_some pr_pg hlt hst) ⟨by omega, b4, fun _ w => ⟨by rw [b5 w], by omega⟩, fun w => (b6 w).elim⟩ ?_ ?_ ?_ (fun w => (b7 w).elim) ?_
        · rw [wv_u_at]; exact b2.symm
        · rw [wv_u_no _ _ (by omega), aF _ _ (by omega), b3]; exact k4
        · rw [wv_u_no _ _ (by omega)]; exact a5
        · intro c j hc
          rw [wv_u_no _ _ (by omega), aF _ _ (by omega)]
          exact jF c j hc
    · cases hP
