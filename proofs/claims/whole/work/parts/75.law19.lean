/-! ===== the law: gate ===== -/
theorem wi_div (a b : Int32) : (a / b).toInt = wr (a.toInt.tdiv b.toInt) := by rw [Int32.toInt_div, ← wr_bmod]
theorem wo_res {a b c : Int32} (a0 : 0 ≤ a.toInt) (a1 : a.toInt ≤ 1000) (b0 : 0 ≤ b.toInt) (b1 : b.toInt ≤ 1000) (c0 : 0 ≤ c.toInt) (c1 : c.toInt ≤ 1000) : Int32.ofInt 2 * (Int32.ofInt 1 + a + b + c) / Int32.ofInt 2 = a + b + (c + Int32.ofInt 1) := by
  apply wi_eq.mpr
  have e1 : (Int32.ofInt 1).toInt = 1 := rfl
  have e2 : (Int32.ofInt 2).toInt = 2 := rfl
  have s1 : (Int32.ofInt 1 + a).toInt = 1 + a.toInt := by rw [wi_add, e1, wr_id (by omega) (by omega)]
  have s2 : (Int32.ofInt 1 + a + b).toInt = 1 + a.toInt + b.toInt := by rw [wi_add, s1, wr_id (by omega) (by omega)]
  have s3 : (Int32.ofInt 1 + a + b + c).toInt = 1 + a.toInt + b.toInt + c.toInt := by rw [wi_add, s2, wr_id (by omega) (by omega)]
  have s4 : (Int32.ofInt 2 * (Int32.ofInt 1 + a + b + c)).toInt = 2 * (1 + a.toInt + b.toInt + c.toInt) := by rw [wi_mul, s3, e2, wr_id (by omega) (by omega)]
  have s5 : (a + b).toInt = a.toInt + b.toInt := by rw [wi_add, wr_id (by omega) (by omega)]
  have s6 : (c + Int32.ofInt 1).toInt = c.toInt + 1 := by rw [wi_add, e1, wr_id (by omega) (by omega)]
  rw [wi_div, s4, e2, wi_add, s5, s6, Int.mul_tdiv_cancel_left _ (by decide), wr_id (by omega) (by omega), wr_id (by omega) (by omega)]
  omega
/-- where things lie: C is the class's design -/
def wL_B (T : wv_T) (R : Nat → Nat → Option Nat) (C : Nat) : Prop := T 536 = some (.inr (1, 1)) ∧ wm_T T ∧ T 460 = some (.inl 12) ∧ T 325 = some (.inl 11) ∧ T 333 = some (.inl 11) ∧ R 0 14 = some C ∧ wd_D T R C ∧ C < 1099511000000
/-- the designs are the same -/
def wL_S (I : Nat → Nat → Int32) (C : Nat) : Prop := I C 8 = I 460 56 ∧ I C 9 = I 460 57 ∧ I C 10 = I 460 58 ∧ (1 ≤ (I 460 56).toInt ∧ (I 460 56).toInt ≤ 3) ∧ (0 ≤ (I 460 57).toInt ∧ (I 460 57).toInt ≤ 5) ∧ (0 ≤ (I 460 58).toInt ∧ (I 460 58).toInt ≤ 60)
theorem wL_B_ne {T : wv_T} {R : Nat → Nat → Option Nat} {C : Nat} (h : wL_B T R C) : (∀ k, k ≤ 6 → ¬ 460 = C + k) ∧ (∀ k, k ≤ 6 → ¬ 325 = C + k) := by
  obtain ⟨_, _, h1, h2, _, _, hD, _⟩ := h
  obtain ⟨d0, _, d1, d2, d3, d4, d5, d6⟩ := hD
  constructor
  · intro k hk e
    rw [e] at h1
    match k, hk with
    | 0, _ => rw [Nat.add_zero, d0] at h1; cases h1
    | 1, _ => rw [d1] at h1; cases h1
    | 2, _ => rw [d2] at h1; cases h1
    | 3, _ => rw [d3] at h1; cases h1
    | 4, _ => rw [d4] at h1; cases h1
    | 5, _ => rw [d5] at h1; cases h1
    | 6, _ => rw [d6] at h1; cases h1
  · intro k hk e
    rw [e] at h2
    match k, hk with
    | 0, _ => rw [Nat.add_zero, d0] at h2; cases h2
    | 1, _ => rw [d1] at h2; cases h2
    | 2, _ => rw [d2] at h2; cases h2
    | 3, _ => rw [d3] at h2; cases h2
    | 4, _ => rw [d4] at h2; cases h2
    | 5, _ => rw [d5] at h2; cases h2
    | 6, _ => rw [d6] at h2; cases h2
theorem wd_add_no {C c k : Nat} {a b g : Int32} {I : Nat → Nat → Int32} (h0 : ¬ c = C) (h1 : ¬ c = C + 1) (h2 : ¬ c = C + 2) : wd_add C a b g I c k = I c k := by
  unfold wd_add
  rw [wv_u_no _ _ (fun z => h0 z.1), wv_u_no _ _ (fun z => h0 z.1), wv_u_no _ _ (fun z => h2 z.1), wv_u_no _ _ (fun z => h1 z.1)]
theorem wn_add_no {c k : Nat} {a b : Int32} {I : Nat → Nat → Int32} (h0 : ¬ c = 460) (h1 : ¬ c = 496) (h2 : ¬ c = 497) : wn_add a b I c k = I c k := by
  unfold wn_add
  rw [wv_u_no _ _ (fun z => h0 z.1), wv_u_no _ _ (fun z => h0 z.1), wv_u_no _ _ (fun z => h2 z.1), wv_u_no _ _ (fun z => h1 z.1)]
def wL_19 (Rel : wv_T → Nat → (Nat → Nat → Int32) → (Nat → Nat → Int64) → (Nat → Nat → Option Nat) → Nat → Nat → Nat → Prop) : Prop := ∀ T N I L R nc ns i, i ≤ 2044 → Rel T N I L R nc ns i → ∃ C, wL_B T R C ∧ wL_S I C ∧ Rel T N (wv_u I 460 0 1) L R (nc + 1) (ns + 6) (i + 4) ∧ Rel T N (wv_u I 460 0 2) L R (nc + 1) (ns + 6) (i + 4) ∧ ∀ a b x, (wn_no I a || wn_no I b) = false → (I 460 58).toInt < 60 → Rel T N (wn_add a b (wv_u (wd_add C a b (I C 10) (wv_u I 325 8 (Int32.ofInt 0))) 460 0 0)) (wv_u L 536 0 x) R nc ns (i + 4)
set_option maxRecDepth 100000 in
set_option maxHeartbeats 4000000 in
theorem wL_case19 {Rel : wv_T → Nat → (Nat → Nat → Int32) → (Nat → Nat → Int64) → (Nat → Nat → Option Nat) → Nat → Nat → Nat → Prop} {xs : Nat → Int32} {Lg : Nat} {fv : Value} {q : wv_Q} {sp : wv_K} (hLg : Lg ≤ 2048) (H : wL_19 Rel)
    (s312 : ∀ as T N I L R q, wl_c312 as T N I L R q → sp 312 as T N I L R q) (s452 : ∀ as T N I L R q, wp_c452 as T N I L R q → sp 452 as T N I L R q) (s343 : ∀ as T N I L R q, wp_c343 as T N I L R q → sp 343 as T N I L R q) :
    ∀ m lv st T N I L R nc ns, wL_P Rel xs Lg (some 19) m lv st T N I L R nc ns → wv_S wm_fx fv none sp 0 7 false (some .boolean) zt_0 q (wv wm_fx fv none sp 0 7 false (some .boolean) zt_0 (wv_h2 (wL_hd Rel xs Lg) m) q 100) (zk_at zt_0 1202) lv st T N I L R nc ns := by
  rintro m lv st T N I L R nc ns ⟨i, x5, x6, rfl, rfl, hT, hx, hR, hi, hm, hop⟩
  obtain ⟨C, hB, hS, r1, r2, r3⟩ := H T N I L R nc ns i (by omega) hR
  have e1 : I 1099511627776 (Int32.ofNat i + Int32.ofInt 1).toNatClampNeg = xs (i + 1) := (wL_x (k := 1) hx hLg hi (by omega)).1
  have b1 : 0 ≤ Int32.ofNat i + Int32.ofInt 1 ∧ (Int32.ofNat i + Int32.ofInt 1).toInt < Lg := (wL_x (k := 1) hx hLg hi (by omega)).2
  have e2 : I 1099511627776 (Int32.ofNat i + Int32.ofInt 2).toNatClampNeg = xs (i + 2) := (wL_x (k := 2) hx hLg hi (by omega)).1
  have b2 : 0 ≤ Int32.ofNat i + Int32.ofInt 2 ∧ (Int32.ofNat i + Int32.ofInt 2).toInt < Lg := (wL_x (k := 2) hx hLg hi (by omega)).2
  have hne := wL_B_ne hB
  obtain ⟨h537, hwT, h460, h325, h333, hC, hD, hC0⟩ := hB
  obtain ⟨a0, a1, a2, c0, c1, c2⟩ := hS
  have n10 : ¬ (1 : Int32) = 0 := by decide
  have n20 : ¬ (2 : Int32) = 0 := by decide
  have eno : ∀ l, wo_no (I C 8) (I C 9) (I C 10) l = wn_no I l := fun l => by rw [a0, a1, a2]; rfl
  refine ⟨_, hT, b1, _, hT, b2, ?_⟩
  refine s312 _ _ _ _ _ _ _ ⟨_, _, C, rfl, h537, hC, hD, hC0, h325, by rw [a2]; exact c2.1, by rw [a2]; exact c2.2, ?_⟩
  rw [e1, e2, eno, eno, a2]
  by_cases ha : (wn_no I (xs (i + 1)) || wn_no I (xs (i + 2))) = true
  · rw [if_pos ha]
    refine ⟨_, hT, b1, _, hT, b2, ?_⟩
    refine s452 _ _ _ _ _ _ _ ⟨_, _, rfl, hwT, c2.1, c2.2, ?_⟩
    rw [e1, e2, if_pos ha]
    refine s343 _ _ _ _ _ _ _ ⟨rfl, ?_⟩
    refine ⟨fun _ => ?_, fun h => (h (wv_u_at _ _ _ _)).elim⟩
    refine ⟨fun _ => ?_, fun h => (h n10).elim⟩
    exact wL_fin hLg hi hm hx hT (fun j => wv_u_no _ _ (by omega)) r1
  · have ha' : (wn_no I (xs (i + 1)) || wn_no I (xs (i + 2))) = false := by
      cases h : (wn_no I (xs (i + 1)) || wn_no I (xs (i + 2))) with
      | false => rfl
      | true => exact (ha h).elim
    rw [if_neg ha]
    by_cases hb : (I 460 58).toInt = 60
    · rw [if_pos hb]
      refine ⟨_, hT, b1, _, hT, b2, ?_⟩
      refine s452 _ _ _ _ _ _ _ ⟨_, _, rfl, hwT, c2.1, c2.2, ?_⟩
      rw [e1, e2, if_neg ha, if_pos hb]
      refine s343 _ _ _ _ _ _ _ ⟨rfl, ?_⟩
      refine ⟨fun _ => ?_, fun h => (h (wv_u_at _ _ _ _)).elim⟩
      refine ⟨fun _ => ?_, fun h => (h n20).elim⟩
      exact wL_fin hLg hi hm hx hT (fun j => wv_u_no _ _ (by omega)) r2
    · rw [if_neg hb]
      have f1 : ∀ c k, ¬ c = C → ¬ c = C + 1 → ¬ c = C + 2 → ¬ c = 325 → wd_add C (xs (i + 1)) (xs (i + 2)) (I 460 58) (wv_u I 325 8 (Int32.ofInt 0)) c k = I c k := fun c k x0 x1 x2 x3 => by
        rw [wd_add_no x0 x1 x2, wv_u_no _ _ (fun z => x3 z.1)]
      have fs : ∀ j, wd_add C (xs (i + 1)) (xs (i + 2)) (I 460 58) (wv_u I 325 8 (Int32.ofInt 0)) 1099511627776 j = I 1099511627776 j := fun j => f1 _ _ (by omega) (by omega) (by omega) (by decide)
      have fm : ∀ j, wd_add C (xs (i + 1)) (xs (i + 2)) (I 460 58) (wv_u I 325 8 (Int32.ofInt 0)) 460 j = I 460 j := fun j => f1 _ _ (hne.1 0 (by omega)) (hne.1 1 (by omega)) (hne.1 2 (by omega)) (by decide)
      have fn : ∀ l, wn_no (wd_add C (xs (i + 1)) (xs (i + 2)) (I 460 58) (wv_u I 325 8 (Int32.ofInt 0))) l = wn_no I l := fun l => by unfold wn_no wn_lim; rw [fm, fm, fm]
      refine ⟨_, hT, b1, _, hT, b2, ?_⟩
      refine s452 _ _ _ _ _ _ _ ⟨_, _, rfl, hwT, by rw [fm]; exact c2.1, by rw [fm]; exact c2.2, ?_⟩
      rw [fs, fs, e1, e2, fn, fn, if_neg ha, fm, if_neg hb, fm, fm]
      refine s343 _ _ _ _ _ _ _ ⟨rfl, ?_⟩
      have g0 : ∀ (a b : Int32) (J : Nat → Nat → Int32), wn_add a b (wv_u J 460 0 0) 460 0 = 0 := fun a b J => by
        unfold wn_add
        rw [wv_u_no _ _ (by omega), wv_u_no _ _ (by omega), wv_u_no _ _ (by omega), wv_u_no _ _ (by omega), wv_u_at]
      refine ⟨fun _ => ?_, fun h => (h (g0 _ _ _)).elim⟩
      refine ⟨fun h => (h rfl).elim, fun _ => ?_⟩
      refine ⟨_, h537, ⟨by decide, by decide⟩, ?_⟩
      rw [a2] at r3
      refine ⟨fun _ => ?_, fun h => (h ?_).elim⟩
      · exact wL_fin hLg hi hm hx hT (fun j => by rw [wn_add_no (by decide) (by decide) (by decide), wv_u_no _ _ (by omega), fs]) (r3 _ _ _ ha' (by omega))
      · show lg_cmp (wv_u L 536 0 (Int32.ofInt 2 * (Int32.ofInt 1 + I C 8 + I C 9 + I 460 58) / Int32.ofInt 2).toInt64 536 0) (I 460 56 + I 460 57 + (I 460 58 + Int32.ofInt 1)).toInt64 = 0
        rw [wv_u_at, a0, a1, wo_res (by omega) (by omega) (by omega) (by omega) (by omega) (by omega)]
        exact lg_cmp_self _
