/-! ===== the law's calls: put ===== -/
theorem wb_ap_no {a k b c i : Nat} {s : Int32} {I : Nat → Nat → Int32} (ha : ¬ c = a) (hb : ¬ c = b) : ∀ j, wb_ap a k b s I j c i = I c i
  | 0 => rfl
  | j + 1 => by
    unfold wb_ap
    split
    · exact wb_ap_no ha hb j
    · rw [wv_u_no _ _ (fun z => ha z.1), wv_u_no _ _ (fun z => hb z.1)]
      exact wb_ap_no ha hb j
theorem wb_ap_k {a k b i : Nat} {s : Int32} {I : Nat → Nat → Int32} (ha : ¬ i = k) (hb : ¬ a = b) : ∀ j, wb_ap a k b s I j a i = I a i
  | 0 => rfl
  | j + 1 => by
    unfold wb_ap
    split
    · exact wb_ap_k ha hb j
    · rw [wv_u_no _ _ (fun z => ha z.2), wv_u_no _ _ (fun z => hb z.1)]
      exact wb_ap_k ha hb j
theorem lg_cmp_self (x : Int64) : lg_cmp x x = 0 := by
  unfold lg_cmp
  simp [Int64.lt_irrefl]
def wp_c343 : wv_c1 := fun as T N I L R q => as = [.ref 460] ∧ q (.inl (some (.int (I 460 0)))) T N I L R 0 0
set_option maxRecDepth 100000 in
theorem wp_m343 : ∃ cb ci np, pt_mt 343 = some (32, cb, 1, false, some .int, ci, np) := ⟨_, _, _, rfl⟩
set_option maxRecDepth 100000 in
theorem wp_thrown {sc : pt_Sc} {d : Nat} : wv_C wm_fx sc (d + 1) 343 wp_c343 := by
  rintro as T N I L R q ⟨rfl, h⟩ w HR
  obtain ⟨cb, ci, np, hm⟩ := wp_m343
  refine wv_meth (hh := none) rfl (sp := fun _ _ _ _ _ _ _ _ => False) (hd := fun _ => none) (n := 0) (n1 := 100) hm zc_343 rfl (fun k as T N I L R q h => by cases h) ?_ (fun pc P h => by cases h) HR
  exact h
/-- what the relation must give for put -/
def wL_0 (Rel : wv_T → Nat → (Nat → Nat → Int32) → (Nat → Nat → Int64) → (Nat → Nat → Option Nat) → Nat → Nat → Nat → Prop) : Prop := ∀ T N I L R nc ns i, i ≤ 2044 → Rel T N I L R nc ns i → T 536 = some (.inr (1, 1)) ∧ wm_T T ∧ I 1 6 = I 460 2 ∧ 0 ≤ (I 460 2).toInt ∧ (I 460 2).toInt ≤ 400 ∧ ∀ s : Int32,
  (wb_any s 4 = true → Rel T N (wv_u I 460 0 1) L R (nc + 1) (ns + 6) (i + 4)) ∧ (wb_any s 4 = false → 400 < (I 460 2).toInt + wb_cnt s 4 → Rel T N (wv_u I 460 0 2) L R (nc + 1) (ns + 6) (i + 4)) ∧ (wb_any s 4 = false → ¬ 400 < (I 460 2).toInt + wb_cnt s 4 → Rel T N (wb_ap 460 2 461 s (wv_u (wb_ap 1 6 2 s I 4) 460 0 0) 4) (wv_u L 536 0 (wb_ap 1 6 2 s I 4 1 6).toInt64) R nc ns (i + 4))
theorem wL_x {xs : Nat → Int32} {Lg i k : Nat} {I : Nat → Nat → Int32} (hx : ∀ j, j < Lg → I 1099511627776 j = xs j) (hLg : Lg ≤ 2048) (h : i + 4 ≤ Lg) (hk : k < 4) : I 1099511627776 (Int32.ofNat i + Int32.ofInt k).toNatClampNeg = xs (i + k) ∧ (0 ≤ Int32.ofNat i + Int32.ofInt k ∧ (Int32.ofNat i + Int32.ofInt k).toInt < Lg) := by
  have ei := wL_of (n := i) (by omega)
  have e : (Int32.ofNat i + Int32.ofInt k).toInt = i + k := by
    rw [wi_add, ei, wi_of, wr_id (x := k) (by omega) (by omega), wr_id (by omega) (by omega)]
  refine ⟨?_, by rw [wi_le, e, wi_0]; omega, by rw [e]; omega⟩
  rw [wi_nat, e]
  exact hx (i + k) (by omega)
set_option maxRecDepth 100000 in
set_option maxHeartbeats 4000000 in
theorem wL_case0 {Rel : wv_T → Nat → (Nat → Nat → Int32) → (Nat → Nat → Int64) → (Nat → Nat → Option Nat) → Nat → Nat → Nat → Prop} {xs : Nat → Int32} {Lg : Nat} {fv : Value} {q : wv_Q} {sp : wv_K} (hLg : Lg ≤ 2048) (H : wL_0 Rel)
    (s89 : ∀ as T N I L R q, wl_c89 as T N I L R q → sp 89 as T N I L R q) (s344 : ∀ as T N I L R q, wp_c344 as T N I L R q → sp 344 as T N I L R q) (s343 : ∀ as T N I L R q, wp_c343 as T N I L R q → sp 343 as T N I L R q) :
    ∀ m lv st T N I L R nc ns, wL_P Rel xs Lg (some 0) m lv st T N I L R nc ns → wv_S wm_fx fv none sp 0 7 false (some .boolean) zt_0 q (wv wm_fx fv none sp 0 7 false (some .boolean) zt_0 (wv_h2 (wL_hd Rel xs Lg) m) q 100) (zk_at zt_0 156) lv st T N I L R nc ns := by
  rintro m lv st T N I L R nc ns ⟨i, x5, x6, rfl, rfl, hT, hx, hR, hi, hm, hop⟩
  obtain ⟨h537, hwT, hsz, h0, h1, hH⟩ := H T N I L R nc ns i (by omega) hR
  have e1 : I 1099511627776 (Int32.ofNat i + Int32.ofInt 1).toNatClampNeg = xs (i + 1) := (wL_x (k := 1) hx hLg hi (by omega)).1
  have b1 : 0 ≤ Int32.ofNat i + Int32.ofInt 1 ∧ (Int32.ofNat i + Int32.ofInt 1).toInt < Lg := (wL_x (k := 1) hx hLg hi (by omega)).2
  refine ⟨_, hT, b1, ?_⟩
  obtain ⟨r1, r2, r3⟩ := hH (xs (i + 1))
  have fin : ∀ (y5 y6 : Int32) (I1 : Nat → Nat → Int32) (L1 : Nat → Nat → Int64) (c1 s1 : Nat), (∀ j, I1 1099511627776 j = I 1099511627776 j) → Rel T N I1 L1 R c1 s1 (i + 4) → ∃ m1, m1 < m ∧ wL_P Rel xs Lg none m1 [some (.ref 1099511627776), some (.ref 0), some (.ref 460), some (.ref 536), some (.int (Int32.ofNat i + Int32.ofInt 4)), some (.int y5), some (.int y6)] [] T N I1 L1 R c1 s1 := by
    intro y5 y6 I1 L1 c1 s1 hI hR1
    exact ⟨2 * (4000 - (i + 4)) + 1, by omega, i + 4, _, _, by rw [wL_4s]; rfl, rfl, hT, fun j hj => by rw [hI]; exact hx j hj, hR1, by omega, rfl⟩
  have n10 : ¬ (1 : Int32) = 0 := by decide
  have n20 : ¬ (2 : Int32) = 0 := by decide
  refine s89 _ _ _ _ _ _ _ ⟨_, rfl, h537, hwT, by rw [hsz]; exact h0, by rw [hsz]; exact h1, ?_⟩
  rw [e1, hsz]
  by_cases ha : wb_any (xs (i + 1)) 4 = true
  · rw [if_pos ha]
    refine ⟨_, hT, b1, ?_⟩
    refine s344 _ _ _ _ _ _ _ ⟨_, rfl, hwT, h0, h1, ?_⟩
    unfold wp_put
    rw [e1, if_pos ha]
    refine s343 _ _ _ _ _ _ _ ⟨rfl, ?_⟩
    refine ⟨fun _ => ?_, fun h => (h (wv_u_at _ _ _ _)).elim⟩
    refine ⟨fun _ => ?_, fun h => (h n10).elim⟩
    exact fin _ _ _ _ _ _ (fun j => wv_u_no _ _ (by omega)) (r1 ha)
  · have ha' : wb_any (xs (i + 1)) 4 = false := by
      cases h : wb_any (xs (i + 1)) 4 with
      | false => rfl
      | true => exact (ha h).elim
    rw [if_neg ha]
    by_cases hb : 400 < (I 460 2).toInt + wb_cnt (xs (i + 1)) 4
    · rw [if_pos hb]
      refine ⟨_, hT, b1, ?_⟩
      refine s344 _ _ _ _ _ _ _ ⟨_, rfl, hwT, h0, h1, ?_⟩
      unfold wp_put
      rw [e1, if_neg ha, if_pos hb]
      refine s343 _ _ _ _ _ _ _ ⟨rfl, ?_⟩
      refine ⟨fun _ => ?_, fun h => (h (wv_u_at _ _ _ _)).elim⟩
      refine ⟨fun _ => ?_, fun h => (h n20).elim⟩
      exact fin _ _ _ _ _ _ (fun j => wv_u_no _ _ (by omega)) (r2 ha' hb)
    · rw [if_neg hb]
      have f1 : ∀ j, wb_ap 1 6 2 (xs (i + 1)) I 4 1099511627776 j = I 1099511627776 j := fun j => wb_ap_no (by decide) (by decide) 4
      have f2 : wb_ap 1 6 2 (xs (i + 1)) I 4 460 2 = I 460 2 := wb_ap_no (by decide) (by decide) 4
      refine ⟨_, hT, b1, ?_⟩
      refine s344 _ _ _ _ _ _ _ ⟨_, rfl, hwT, by rw [f2]; exact h0, by rw [f2]; exact h1, ?_⟩
      unfold wp_put
      rw [f1, e1, if_neg ha, f2, if_neg hb]
      refine s343 _ _ _ _ _ _ _ ⟨rfl, ?_⟩
      have g0 : wb_ap 460 2 461 (xs (i + 1)) (wv_u (wb_ap 1 6 2 (xs (i + 1)) I 4) 460 0 0) 4 460 0 = 0 := by
        rw [wb_ap_k (by decide) (by decide), wv_u_at]
      refine ⟨fun _ => ?_, fun h => (h g0).elim⟩
      refine ⟨fun h => (h rfl).elim, fun _ => ?_⟩
      refine ⟨_, h537, ⟨by decide, by decide⟩, ?_⟩
      refine ⟨fun _ => ?_, fun h => ?_⟩
      · exact fin _ _ _ _ _ _ (fun j => by rw [wb_ap_no (by decide) (by decide), wv_u_no _ _ (by omega), f1]) (r3 ha' hb)
      · have x1 := wb_ap_n (a := 1) (k := 6) (b := 2) (s := xs (i + 1)) (I := I) (by decide) (by rw [hsz]; exact h0) (by rw [hsz]; exact h1) 4 (Nat.le_refl _)
        have e2 : wv_u (wb_ap 1 6 2 (xs (i + 1)) I 4) 460 0 0 460 2 = I 460 2 := by rw [wv_u_no _ _ (by omega), f2]
        have x2 := wb_ap_n (a := 460) (k := 2) (b := 461) (s := xs (i + 1)) (I := wv_u (wb_ap 1 6 2 (xs (i + 1)) I 4) 460 0 0) (by decide) (by rw [e2]; exact h0) (by rw [e2]; exact h1) 4 (Nat.le_refl _)
        rw [e2] at x2
        rw [hsz] at x1
        have e3 : wb_ap 1 6 2 (xs (i + 1)) I 4 1 6 = wb_ap 460 2 461 (xs (i + 1)) (wv_u (wb_ap 1 6 2 (xs (i + 1)) I 4) 460 0 0) 4 460 2 := wi_eq.mpr (by rw [x1, x2])
        refine (h ?_).elim
        show lg_cmp (wv_u L 536 0 (wb_ap 1 6 2 (xs (i + 1)) I 4 1 6).toInt64 536 0) (wb_ap 460 2 461 (xs (i + 1)) (wv_u (wb_ap 1 6 2 (xs (i + 1)) I 4) 460 0 0) 4 460 2).toInt64 = 0
        rw [wv_u_at, e3]
        exact lg_cmp_self _
