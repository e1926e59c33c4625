/-! ===== the law: run and witness ===== -/
def wL_23 (Rel : wv_T → Nat → (Nat → Nat → Int32) → (Nat → Nat → Int64) → (Nat → Nat → Option Nat) → Nat → Nat → Nat → Prop) : Prop := ∀ T N I L R nc ns i, i ≤ 2044 → Rel T N I L R nc ns i → T 536 = some (.inr (1, 1)) ∧ wm_T T ∧ wh_H T R 325 ∧ (I 325 8).toInt ≤ 12 ∧ I 325 8 = I 460 66 ∧ (∀ t : Nat, (t : Int) < (I 460 66).toInt → I 329 t = I 502 t ∧ I 330 t = I 503 t ∧ I 331 t = I 504 t) ∧ Rel T N (wv_u I 460 0 1) L R (nc + 1) (ns + 6) (i + 4) ∧ Rel T N (wv_u I 460 0 2) L R (nc + 1) (ns + 6) (i + 4) ∧ Rel T N (wv_u (wv_u I 460 0 0) 460 0 (Int32.ofInt 3)) L R (nc + 1) (ns + 6) (i + 4) ∧ ∀ x, Rel T N (wv_u I 460 0 0) (wv_u L 536 0 x) R nc ns (i + 4)
set_option maxRecDepth 100000 in
set_option maxHeartbeats 4000000 in
theorem wL_case23 {Rel : wv_T → Nat → (Nat → Nat → Int32) → (Nat → Nat → Int64) → (Nat → Nat → Option Nat) → Nat → Nat → Nat → Prop} {xs : Nat → Int32} {Lg : Nat} {fv : Value} {q : wv_Q} {sp : wv_K} (hLg : Lg ≤ 2048) (H : wL_23 Rel)
    (s331 : ∀ as T N I L R q, wl_c331 as T N I L R q → sp 331 as T N I L R q) (s462 : ∀ as T N I L R q, wp_c462 as T N I L R q → sp 462 as T N I L R q) (s343 : ∀ as T N I L R q, wp_c343 as T N I L R q → sp 343 as T N I L R q) :
    ∀ m lv st T N I L R nc ns, wL_P Rel xs Lg (some 23) m lv st T N I L R nc ns → wv_S wm_fx fv none sp 0 7 false (some .boolean) zt_0 q (wv wm_fx fv none sp 0 7 false (some .boolean) zt_0 (wv_h2 (wL_hd Rel xs Lg) m) q 100) (zk_at zt_0 1462) lv st T N I L R nc ns := by
  rintro m lv st T N I L R nc ns ⟨i, x5, x6, rfl, rfl, hT, hx, hR, hi, hm, hop⟩
  obtain ⟨h537, hwT, hH, hf, ef, ev, r1, r2, r3, r4⟩ := H T N I L R nc ns i (by omega) hR
  have e1 : I 1099511627776 (Int32.ofNat i + Int32.ofInt 1).toNatClampNeg = xs (i + 1) := (wL_x (k := 1) hx hLg hi (by omega)).1
  have b1 : 0 ≤ Int32.ofNat i + Int32.ofInt 1 ∧ (Int32.ofNat i + Int32.ofInt 1).toInt < Lg := (wL_x (k := 1) hx hLg hi (by omega)).2
  have e2 : I 1099511627776 (Int32.ofNat i + Int32.ofInt 2).toNatClampNeg = xs (i + 2) := (wL_x (k := 2) hx hLg hi (by omega)).1
  have b2 : 0 ≤ Int32.ofNat i + Int32.ofInt 2 ∧ (Int32.ofNat i + Int32.ofInt 2).toInt < Lg := (wL_x (k := 2) hx hLg hi (by omega)).2
  refine ⟨_, hT, b1, _, hT, b2, ?_⟩
  refine s331 _ _ _ _ _ _ _ ⟨_, _, rfl, h537, hH, hf, ?_, ?_, ?_, ?_⟩
  · intro h0
    rw [ef] at h0
    refine ⟨_, hT, b1, _, hT, b2, ?_⟩
    refine s462 _ _ _ _ _ _ _ ⟨_, _, rfl, hwT, by rw [← ef]; exact hf, ?_, fun z => (z h0).elim, fun z => (z h0).elim, fun z => (z h0).elim⟩
    intro _
    refine s343 _ _ _ _ _ _ _ ⟨rfl, ?_⟩
    refine ⟨fun _ => ?_, fun h => (h (wv_u_at _ _ _ _)).elim⟩
    refine ⟨fun _ => ?_, fun h => (h (by decide)).elim⟩
    exact wL_fin hLg hi hm hx hT (fun j => by rw [wv_u_no _ _ (by omega)]) r1

  · intro h0 h1
    rw [e1] at h1
    rw [ef] at h0 h1
    refine ⟨_, hT, b1, _, hT, b2, ?_⟩
    refine s462 _ _ _ _ _ _ _ ⟨_, _, rfl, hwT, by rw [← ef]; exact hf, fun z => (h0 z).elim, ?_, fun _ z => (z (by rw [e1]; exact h1)).elim, fun _ z => (z (by rw [e1]; exact h1)).elim⟩
    intro _ _
    refine s343 _ _ _ _ _ _ _ ⟨rfl, ?_⟩
    refine ⟨fun _ => ?_, fun h => (h (wv_u_at _ _ _ _)).elim⟩
    refine ⟨fun _ => ?_, fun h => (h (by decide)).elim⟩
    exact wL_fin hLg hi hm hx hT (fun j => by rw [wv_u_no _ _ (by omega)]) r2

  · intro h0 h1 h2
    rw [e1] at h1
    rw [e2] at h2
    rw [ef] at h0 h1
    refine ⟨_, hT, b1, _, hT, b2, ?_⟩
    refine s462 _ _ _ _ _ _ _ ⟨_, _, rfl, hwT, by rw [← ef]; exact hf, fun z => (h0 z).elim, fun _ z => (h1 (by rw [e1] at z; exact z)).elim, ?_, fun _ _ z => (z (by rw [e2]; exact h2)).elim⟩
    intro _ _ _
    refine s343 _ _ _ _ _ _ _ ⟨rfl, ?_⟩
    refine ⟨fun _ => ?_, fun h => (h (wv_u_at _ _ _ _)).elim⟩
    refine ⟨fun _ => ?_, fun h => (h (by decide)).elim⟩
    exact wL_fin hLg hi hm hx hT (fun j => by rw [wv_u_no _ _ (by omega), wv_u_no _ _ (by omega)]) r3

  · intro h0 h1 h2
    rw [e1] at h1
    rw [e2] at h2
    rw [ef] at h0 h1
    rw [e1, e2]
    refine ⟨_, hT, b1, _, hT, b2, ?_⟩
    refine s462 _ _ _ _ _ _ _ ⟨_, _, rfl, hwT, by rw [← ef]; exact hf, fun z => (h0 z).elim, fun _ z => (h1 (by rw [e1] at z; exact z)).elim, fun _ _ z => (h2 (by rw [e2] at z; exact z)).elim, ?_⟩
    intro _ _ _
    rw [e1, e2]
    refine s343 _ _ _ _ _ _ _ ⟨rfl, ?_⟩
    refine ⟨fun _ => ?_, fun h => (h (wv_u_at _ _ _ _)).elim⟩
    refine ⟨fun h => (h rfl).elim, fun _ => ?_⟩
    refine ⟨_, h537, ⟨by decide, by decide⟩, ?_⟩
    refine ⟨fun _ => ?_, fun h => (h ?_).elim⟩
    · exact wL_fin hLg hi hm hx hT (fun j => wv_u_no _ _ (by omega)) (r4 _)
    · show lg_cmp (wv_u L 536 0 (wh_run (I 329 (xs (i + 1)).toNatClampNeg) (I 330 (xs (i + 1)).toNatClampNeg) (I 331 (xs (i + 1)).toNatClampNeg) (xs (i + 2))).toInt64 536 0) (wh_run (I 502 (xs (i + 1)).toNatClampNeg) (I 503 (xs (i + 1)).toNatClampNeg) (I 504 (xs (i + 1)).toNatClampNeg) (xs (i + 2))).toInt64 = 0
      have h3 : ((xs (i + 1)).toNatClampNeg : Int) < (I 460 66).toInt := by
        have x1 : ¬ (xs (i + 1)) < 0 := fun z => h1 (Or.inl z)
        have x2 : ¬ I 460 66 ≤ xs (i + 1) := fun z => h1 (Or.inr z)
        rw [wi_lt, wi_0] at x1
        rw [wi_le] at x2
        rw [wi_nat, Int.toNat_of_nonneg (by omega)]
        omega
      obtain ⟨y0, y1, y2⟩ := ev _ h3
      rw [wv_u_at, y0, y1, y2]
      exact lg_cmp_self _
def wL_25 (Rel : wv_T → Nat → (Nat → Nat → Int32) → (Nat → Nat → Int64) → (Nat → Nat → Option Nat) → Nat → Nat → Nat → Prop) : Prop := ∀ T N I L R nc ns i, i ≤ 2044 → Rel T N I L R nc ns i → T 536 = some (.inr (1, 1)) ∧ wm_T T ∧ wh_H T R 333 ∧ (I 333 8).toInt ≤ 12 ∧ I 333 8 = I 460 70 ∧ (∀ t : Nat, (t : Int) < (I 460 70).toInt → I 338 t = I 505 t) ∧ Rel T N (wv_u I 460 0 1) L R (nc + 1) (ns + 6) (i + 4) ∧ Rel T N (wv_u I 460 0 2) L R (nc + 1) (ns + 6) (i + 4) ∧ ∀ x, Rel T N (wv_u I 460 0 0) (wv_u L 536 0 x) R nc ns (i + 4)
set_option maxRecDepth 100000 in
set_option maxHeartbeats 4000000 in
theorem wL_case25 {Rel : wv_T → Nat → (Nat → Nat → Int32) → (Nat → Nat → Int64) → (Nat → Nat → Option Nat) → Nat → Nat → Nat → Prop} {xs : Nat → Int32} {Lg : Nat} {fv : Value} {q : wv_Q} {sp : wv_K} (hLg : Lg ≤ 2048) (H : wL_25 Rel)
    (s340 : ∀ as T N I L R q, wl_c340 as T N I L R q → sp 340 as T N I L R q) (s464 : ∀ as T N I L R q, wp_c464 as T N I L R q → sp 464 as T N I L R q) (s343 : ∀ as T N I L R q, wp_c343 as T N I L R q → sp 343 as T N I L R q) :
    ∀ m lv st T N I L R nc ns, wL_P Rel xs Lg (some 25) m lv st T N I L R nc ns → wv_S wm_fx fv none sp 0 7 false (some .boolean) zt_0 q (wv wm_fx fv none sp 0 7 false (some .boolean) zt_0 (wv_h2 (wL_hd Rel xs Lg) m) q 100) (zk_at zt_0 1598) lv st T N I L R nc ns := by
  rintro m lv st T N I L R nc ns ⟨i, x5, x6, rfl, rfl, hT, hx, hR, hi, hm, hop⟩
  obtain ⟨h537, hwT, hH, hf, ef, ev, r1, r2, r4⟩ := H T N I L R nc ns i (by omega) hR
  have e1 : I 1099511627776 (Int32.ofNat i + Int32.ofInt 1).toNatClampNeg = xs (i + 1) := (wL_x (k := 1) hx hLg hi (by omega)).1
  have b1 : 0 ≤ Int32.ofNat i + Int32.ofInt 1 ∧ (Int32.ofNat i + Int32.ofInt 1).toInt < Lg := (wL_x (k := 1) hx hLg hi (by omega)).2
  refine ⟨_, hT, b1, ?_⟩
  refine s340 _ _ _ _ _ _ _ ⟨_, rfl, h537, hH, hf, ?_, ?_, ?_⟩
  · intro h0
    rw [ef] at h0
    refine ⟨_, hT, b1, ?_⟩
    refine s464 _ _ _ _ _ _ _ ⟨_, rfl, hwT, by rw [← ef]; exact hf, ?_, fun z => (z h0).elim, fun z => (z h0).elim⟩
    intro _
    refine s343 _ _ _ _ _ _ _ ⟨rfl, ?_⟩
    refine ⟨fun _ => ?_, fun h => (h (wv_u_at _ _ _ _)).elim⟩
    refine ⟨fun _ => ?_, fun h => (h (by decide)).elim⟩
    exact wL_fin hLg hi hm hx hT (fun j => by rw [wv_u_no _ _ (by omega)]) r1

  · intro h0 h1
    rw [e1] at h1
    rw [ef] at h0 h1
    refine ⟨_, hT, b1, ?_⟩
    refine s464 _ _ _ _ _ _ _ ⟨_, rfl, hwT, by rw [← ef]; exact hf, fun z => (h0 z).elim, ?_, fun _ z => (z (by rw [e1]; exact h1)).elim⟩
    intro _ _
    refine s343 _ _ _ _ _ _ _ ⟨rfl, ?_⟩
    refine ⟨fun _ => ?_, fun h => (h (wv_u_at _ _ _ _)).elim⟩
    refine ⟨fun _ => ?_, fun h => (h (by decide)).elim⟩
    exact wL_fin hLg hi hm hx hT (fun j => by rw [wv_u_no _ _ (by omega)]) r2

  · intro h0 h1
    rw [e1] at h1
    rw [ef] at h0 h1
    rw [e1]
    refine ⟨_, hT, b1, ?_⟩
    refine s464 _ _ _ _ _ _ _ ⟨_, rfl, hwT, by rw [← ef]; exact hf, fun z => (h0 z).elim, fun _ z => (h1 (by rw [e1] at z; exact z)).elim, ?_⟩
    intro _ _
    rw [e1]
    refine s343 _ _ _ _ _ _ _ ⟨rfl, ?_⟩
    refine ⟨fun _ => ?_, fun h => (h (wv_u_at _ _ _ _)).elim⟩
    refine ⟨fun h => (h rfl).elim, fun _ => ?_⟩
    refine ⟨_, h537, ⟨by decide, by decide⟩, ?_⟩
    refine ⟨fun _ => ?_, fun h => (h ?_).elim⟩
    · exact wL_fin hLg hi hm hx hT (fun j => wv_u_no _ _ (by omega)) (r4 _)
    · show lg_cmp (wv_u L 536 0 (I 338 (xs (i + 1)).toNatClampNeg).toInt64 536 0) (I 505 (xs (i + 1)).toNatClampNeg).toInt64 = 0
      have h3 : ((xs (i + 1)).toNatClampNeg : Int) < (I 460 70).toInt := by
        have x1 : ¬ (xs (i + 1)) < 0 := fun z => h1 (Or.inl z)
        have x2 : ¬ I 460 70 ≤ xs (i + 1) := fun z => h1 (Or.inr z)
        rw [wi_lt, wi_0] at x1
        rw [wi_le] at x2
        rw [wi_nat, Int.toNat_of_nonneg (by omega)]
        omega
      rw [wv_u_at, ev _ h3]
      exact lg_cmp_self _
