/-! ===== has: the reference, the law ===== -/
def wp_c493 : wv_c1 := fun as T N I L R q => ∃ n : Int32, as = [.ref 460, .int n] ∧ wm_T T ∧ (if n < 0 ∨ 8 < n.toInt then q (.inl (some (.int 0))) T N (wv_u I 460 0 1) L R 0 0 else q (.inl (some (.int (wh (I 460 56) (I 460 57) (I 460 58) (I 500) n)))) T N (wv_u I 460 0 0) L R 0 0)
set_option maxRecDepth 100000 in
theorem wp_m493 : ∃ cb ci np, pt_mt 493 = some (32, cb, 2, false, some .int, ci, np) := ⟨_, _, _, rfl⟩
set_option maxRecDepth 100000 in
theorem wp_has {sc : pt_Sc} {d : Nat} : wv_C wm_fx sc (d + 1 + 1) 493 wp_c493 := by
  rintro as T N I L R q ⟨n, rfl, hT, h⟩ w HR
  obtain ⟨cb, ci, np, hm⟩ := wp_m493
  have n10 : ¬ (1 : Int32) = 0 := by decide
  refine wv_meth (hh := none) rfl (sp := wv_sp [(345, wp_c345)]) (hd := fun _ => none) (n := 0) (n1 := 100) hm zc_493 rfl (wv_sp_ok (fun q hq => by rw [List.mem_singleton.mp hq]; exact wp_refuse)) ?_ (fun pc P h => by cases h) HR
  have e8 : ((Int8.ofInt 8).toInt32).toInt = 8 := rfl
  have u : ∀ k, ¬ k = 0 → wv_u I 460 0 0 460 k = I 460 k := fun k hk => wv_u_no _ _ (fun z => hk z.2)
  refine ⟨?_, ?_⟩
  · intro h1
    rw [if_pos (Or.inl h1)] at h
    refine ⟨_, _, rfl, ?_⟩
    rw [if_neg (by decide)]
    exact ⟨fun z => (n10 z).elim, fun _ => h⟩
  · intro h1
    refine ⟨?_, ?_⟩
    · intro h2
      have h3 : n.toInt ≤ 8 := by rw [wi_le, e8] at h2; exact h2
      rw [if_neg (fun z => z.elim h1 (fun y => by omega))] at h
      refine ⟨_, _, rfl, ?_⟩
      rw [if_pos (by decide), if_pos (by decide)]
      refine ⟨fun _ => ?_, fun z => (z rfl).elim⟩
      unfold wh at h
      refine ⟨?_, ?_⟩
      · intro h5
        rw [if_neg h5] at h
        refine ⟨?_, ?_⟩
        · intro h6
          rw [if_neg (show ¬ n = 1 from h6)] at h
          refine ⟨?_, ?_⟩
          · intro h7
            rw [if_neg (show ¬ n = 2 from h7)] at h
            have h4 : ¬ n < 3 := by
              intro z
              have b0 : ¬ n.toInt < 0 := fun z => h1 (wi_lt.mpr z)
              have b1 : n.toInt < 3 := wi_lt.mp z
              have b2 : ¬ n.toInt = 0 := fun z => h5 (wi_eq.mpr z)
              have b3 : ¬ n.toInt = 1 := fun z => h6 (wi_eq.mpr z)
              have b4 : ¬ n.toInt = 2 := fun z => h7 (wi_eq.mpr z)
              omega
            refine ⟨_, wm_t hT rfl, wh_in h1 h3 h4, ?_⟩
            have e : wv_u I 460 0 0 500 (n - Int32.ofInt 3).toNatClampNeg = I 500 (n - Int32.ofInt 3).toNatClampNeg := wv_u_no _ _ (by omega)
            rw [← e] at h
            exact h
          · intro h7
            rw [if_pos (show n = 2 from Decidable.not_not.mp h7), ← u 58 (by decide)] at h
            exact h
        · intro h6
          rw [if_pos (show n = 1 from Decidable.not_not.mp h6), ← u 57 (by decide)] at h
          exact h
      · intro h5
        rw [if_pos (Decidable.not_not.mp h5), ← u 56 (by decide)] at h
        exact h
    · intro h2
      have h3 : 8 < n.toInt := by rw [wi_le, e8] at h2; omega
      rw [if_pos (Or.inr h3)] at h
      refine ⟨_, _, rfl, ?_⟩
      rw [if_neg (by decide)]
      exact ⟨fun z => (n10 z).elim, fun _ => h⟩
set_option maxRecDepth 100000 in
theorem wl_305 : wl_ok 305 4 [(0, 1)] = true := by decide +kernel
def wl_c305 : wv_c1 := fun as T N I L R q => ∃ (n : Int32) (C : Nat), as = [.ref 0, .int n, .ref 536] ∧ T 536 = some (.inr (1, 1)) ∧ R 0 14 = some C ∧ wd_D T R C ∧ (if n < 0 ∨ 8 < n.toInt then q (.inl (some (.int 1))) T N I L R 1 6 else q (.inl (some (.int 0))) T N I (wv_u L 536 0 (wh (I C 8) (I C 9) (I C 10) (I (C + 5)) n).toInt64) R 0 0)
set_option maxRecDepth 100000 in
theorem wl_m305 : ∃ cb ci np, pt_mt 305 = some (0, cb, 4, false, some .int, ci, np) := ⟨_, _, _, rfl⟩
set_option maxRecDepth 100000 in
theorem wl_has {sc : pt_Sc} {d : Nat} : wv_C wm_fx sc (d + 1 + 1 + 1) 305 wl_c305 := by
  rintro as T N I L R q ⟨n, C, rfl, h537, hC, hD, h⟩ w HR
  obtain ⟨cb, ci, np, hm⟩ := wl_m305
  refine wv_meth (hh := some (wl_f 4 [(0, 1)])) rfl (sp := wv_sp [(306, wq_c306)]) (hd := fun _ => none) (n := 0) (n1 := 100) hm zc_305 (wl_HH hm wl_305) (wv_sp_ok (fun q hq => by rw [List.mem_singleton.mp hq]; exact wq_has)) ?_ (fun pc P h => by cases h) HR
  refine ⟨_, C, rfl, hC, hD, ?_⟩
  split
  · rename_i h1
    rw [if_pos h1] at h
    exact ⟨Or.inl rfl, h⟩
  · rename_i h1
    rw [if_neg h1] at h
    exact ⟨_, h537, ⟨by decide, by decide⟩, by decide, h⟩
def wL_17 (Rel : wv_T → Nat → (Nat → Nat → Int32) → (Nat → Nat → Int64) → (Nat → Nat → Option Nat) → Nat → Nat → Nat → Prop) : Prop := ∀ T N I L R nc ns i, i ≤ 2044 → Rel T N I L R nc ns i → T 536 = some (.inr (1, 1)) ∧ wm_T T ∧ (∃ C, R 0 14 = some C ∧ wd_D T R C ∧ I C 8 = I 460 56 ∧ I C 9 = I 460 57 ∧ I C 10 = I 460 58 ∧ ∀ k, k < 6 → I (C + 5) k = I 500 k) ∧ Rel T N (wv_u I 460 0 1) L R (nc + 1) (ns + 6) (i + 4) ∧ ∀ x, Rel T N (wv_u I 460 0 0) (wv_u L 536 0 x) R nc ns (i + 4)
set_option maxRecDepth 100000 in
set_option maxHeartbeats 4000000 in
theorem wL_case17 {Rel : wv_T → Nat → (Nat → Nat → Int32) → (Nat → Nat → Int64) → (Nat → Nat → Option Nat) → Nat → Nat → Nat → Prop} {xs : Nat → Int32} {Lg : Nat} {fv : Value} {q : wv_Q} {sp : wv_K} (hLg : Lg ≤ 2048) (H : wL_17 Rel)
    (s305 : ∀ as T N I L R q, wl_c305 as T N I L R q → sp 305 as T N I L R q) (s493 : ∀ as T N I L R q, wp_c493 as T N I L R q → sp 493 as T N I L R q) (s343 : ∀ as T N I L R q, wp_c343 as T N I L R q → sp 343 as T N I L R q) :
    ∀ m lv st T N I L R nc ns, wL_P Rel xs Lg (some 17) m lv st T N I L R nc ns → wv_S wm_fx fv none sp 0 7 false (some .boolean) zt_0 q (wv wm_fx fv none sp 0 7 false (some .boolean) zt_0 (wv_h2 (wL_hd Rel xs Lg) m) q 100) (zk_at zt_0 1098) lv st T N I L R nc ns := by
  rintro m lv st T N I L R nc ns ⟨i, x5, x6, rfl, rfl, hT, hx, hR, hi, hm, hop⟩
  obtain ⟨h537, hwT, ⟨C, hC, hD, a0, a1, a2, a3⟩, r1, r2⟩ := H T N I L R nc ns i (by omega) hR
  have e1 : I 1099511627776 (Int32.ofNat i + Int32.ofInt 1).toNatClampNeg = xs (i + 1) := (wL_x (k := 1) hx hLg hi (by omega)).1
  have b1 : 0 ≤ Int32.ofNat i + Int32.ofInt 1 ∧ (Int32.ofNat i + Int32.ofInt 1).toInt < Lg := (wL_x (k := 1) hx hLg hi (by omega)).2
  have n10 : ¬ (1 : Int32) = 0 := by decide
  refine ⟨_, hT, b1, ?_⟩
  refine s305 _ _ _ _ _ _ _ ⟨_, C, rfl, h537, hC, hD, ?_⟩
  rw [e1]
  by_cases ha : xs (i + 1) < 0 ∨ 8 < (xs (i + 1)).toInt
  · rw [if_pos ha]
    refine ⟨_, hT, b1, ?_⟩
    refine s493 _ _ _ _ _ _ _ ⟨_, rfl, hwT, ?_⟩
    rw [e1, if_pos ha]
    refine s343 _ _ _ _ _ _ _ ⟨rfl, ?_⟩
    refine ⟨fun _ => ?_, fun h => (h (wv_u_at _ _ _ _)).elim⟩
    refine ⟨fun _ => ?_, fun h => (h n10).elim⟩
    exact wL_fin hLg hi hm hx hT (fun j => wv_u_no _ _ (by omega)) r1
  · rw [if_neg ha]
    refine ⟨_, hT, b1, ?_⟩
    refine s493 _ _ _ _ _ _ _ ⟨_, rfl, hwT, ?_⟩
    rw [e1, if_neg ha]
    refine s343 _ _ _ _ _ _ _ ⟨rfl, ?_⟩
    refine ⟨fun _ => ?_, fun h => (h (wv_u_at _ _ _ _)).elim⟩
    refine ⟨fun h => (h rfl).elim, fun _ => ?_⟩
    refine ⟨_, h537, ⟨by decide, by decide⟩, ?_⟩
    refine ⟨fun _ => ?_, fun h => (h ?_).elim⟩
    · exact wL_fin hLg hi hm hx hT (fun j => wv_u_no _ _ (by omega)) (r2 _)
    · show lg_cmp (wv_u L 536 0 (wh (I C 8) (I C 9) (I C 10) (I (C + 5)) (xs (i + 1))).toInt64 536 0) (wh (I 460 56) (I 460 57) (I 460 58) (I 500) (xs (i + 1))).toInt64 = 0
      have e : wh (I C 8) (I C 9) (I C 10) (I (C + 5)) (xs (i + 1)) = wh (I 460 56) (I 460 57) (I 460 58) (I 500) (xs (i + 1)) := by
        unfold wh
        rw [a0, a1, a2]
        split
        · rfl
        · rename_i h5
          split
          · rfl
          · rename_i h6
            split
            · rfl
            · rename_i h7
              refine a3 _ (wv_inb2 (wh_in (fun z => ha (Or.inl z)) (by omega) ?_))
              intro z
              have b0 : ¬ (xs (i + 1)).toInt < 0 := fun z => ha (Or.inl (wi_lt.mpr z))
              have b1 : (xs (i + 1)).toInt < 3 := wi_lt.mp z
              have b2 : ¬ (xs (i + 1)).toInt = 0 := fun z => h5 (wi_eq.mpr z)
              have b3 : ¬ (xs (i + 1)).toInt = 1 := fun z => h6 (wi_eq.mpr z)
              have b4 : ¬ (xs (i + 1)).toInt = 2 := fun z => h7 (wi_eq.mpr z)
              omega
      rw [wv_u_at, e]
      exact lg_cmp_self _
