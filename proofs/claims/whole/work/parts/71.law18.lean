/-! ===== the law's calls: design ===== -/
theorem wg_f_no {r c k : Nat} {v : Int32} {I : Nat → Nat → Int32} (h : ¬ c = r) : ∀ j, wg_f r v I j c k = I c k
  | 0 => rfl
  | j + 1 => by
    show wv_u (wg_f r v I j) r j v c k = _
    rw [wv_u_no _ _ (fun z => h z.1)]
    exact wg_f_no h j
theorem wd_l_no {C c k : Nat} {I : Nat → Nat → Int32} (h3 : ¬ c = C + 3) (h4 : ¬ c = C + 4) : ∀ j, wd_l C I j c k = I c k
  | 0 => rfl
  | j + 1 => by
    show wv_u (wv_u (wd_l C I j) (C + 3) j _) (C + 4) j _ c k = _
    rw [wv_u_no _ _ (fun z => h4 z.1), wv_u_no _ _ (fun z => h3 z.1)]
    exact wd_l_no h3 h4 j
theorem wd_new_no {C c k : Nat} {a b : Int32} {I : Nat → Nat → Int32} (h0 : ¬ c = C) (h3 : ¬ c = C + 3) (h4 : ¬ c = C + 4) (h5 : ¬ c = C + 5) : wd_new C a b I c k = I c k := by
  unfold wd_new wd_0
  rw [wv_u_no _ _ (fun z => h0 z.1), wg_f_no h5, wd_l_no h3 h4, wv_u_no _ _ (fun z => h0 z.1), wv_u_no _ _ (fun z => h0 z.1), wv_u_no _ _ (fun z => h0 z.1)]
theorem wg_l_no {c k : Nat} {I : Nat → Nat → Int32} (h3 : ¬ c = 498) (h4 : ¬ c = 499) : ∀ j, wg_l I j c k = I c k
  | 0 => rfl
  | j + 1 => by
    show wv_u (wv_u (wg_l I j) 498 j _) 499 j _ c k = _
    rw [wv_u_no _ _ (fun z => h4 z.1), wv_u_no _ _ (fun z => h3 z.1)]
    exact wg_l_no h3 h4 j
theorem wg_s_no {b c k : Nat} {I : Nat → Nat → Int32} (h : ¬ c = b) : ∀ j, wg_s b I j c k = I c k
  | 0 => rfl
  | j + 1 => by
    show wv_u (wg_s b I j) b j _ c k = _
    rw [wv_u_no _ _ (fun z => h z.1)]
    exact wg_s_no h j
/-- the reference's new design -/
def wg_new (a b : Int32) (I : Nat → Nat → Int32) : Nat → Nat → Int32 := wv_u (wg_s 500 (wg_l (wg_0 a b I) 5) 6) 460 66 (Int32.ofInt 0)
theorem wg_new_no {c k : Nat} {a b : Int32} {I : Nat → Nat → Int32} (h0 : ¬ c = 460) (h3 : ¬ c = 498) (h4 : ¬ c = 499) (h5 : ¬ c = 500) : wg_new a b I c k = I c k := by
  unfold wg_new wg_0
  rw [wv_u_no _ _ (fun z => h0 z.1), wg_s_no h5, wg_l_no h3 h4, wv_u_no _ _ (fun z => h0 z.1), wv_u_no _ _ (fun z => h0 z.1), wv_u_no _ _ (fun z => h0 z.1), wv_u_no _ _ (fun z => h0 z.1)]
theorem wg_new_0 {a b : Int32} {I : Nat → Nat → Int32} : wg_new a b I 460 0 = 0 := by
  unfold wg_new wg_0
  rw [wv_u_no _ _ (by omega), wg_s_no (by decide), wg_l_no (by decide) (by decide), wv_u_no _ _ (by omega), wv_u_no _ _ (by omega), wv_u_no _ _ (by omega), wv_u_at]
def wL_18 (Rel : wv_T → Nat → (Nat → Nat → Int32) → (Nat → Nat → Int64) → (Nat → Nat → Option Nat) → Nat → Nat → Nat → Prop) : Prop := ∀ T N I L R nc ns i, i ≤ 2044 → Rel T N I L R nc ns i → wm_T T ∧ T 325 = some (.inl 11) ∧ ∃ C, R 0 14 = some C ∧ wd_D T R C ∧ C < 1099511000000 ∧ Rel T N (wv_u I 460 0 1) L R (nc + 1) (ns + 6) (i + 4) ∧ ∀ a b, ¬ wg_bad a b → Rel T N (wg_new a b (wv_u (wd_new C a b I) 325 8 (Int32.ofInt 0))) L R nc ns (i + 4)
set_option maxRecDepth 100000 in
set_option maxHeartbeats 4000000 in
theorem wL_case18 {Rel : wv_T → Nat → (Nat → Nat → Int32) → (Nat → Nat → Int64) → (Nat → Nat → Option Nat) → Nat → Nat → Nat → Prop} {xs : Nat → Int32} {Lg : Nat} {fv : Value} {q : wv_Q} {sp : wv_K} (hLg : Lg ≤ 2048) (H : wL_18 Rel)
    (s310 : ∀ as T N I L R q, wl_c310 as T N I L R q → sp 310 as T N I L R q) (s451 : ∀ as T N I L R q, wp_c451 as T N I L R q → sp 451 as T N I L R q) (s343 : ∀ as T N I L R q, wp_c343 as T N I L R q → sp 343 as T N I L R q) :
    ∀ m lv st T N I L R nc ns, wL_P Rel xs Lg (some 18) m lv st T N I L R nc ns → wv_S wm_fx fv none sp 0 7 false (some .boolean) zt_0 q (wv wm_fx fv none sp 0 7 false (some .boolean) zt_0 (wv_h2 (wL_hd Rel xs Lg) m) q 100) (zk_at zt_0 1154) lv st T N I L R nc ns := by
  rintro m lv st T N I L R nc ns ⟨i, x5, x6, rfl, rfl, hT, hx, hR, hi, hm, hop⟩
  obtain ⟨hwT, h325, C, hC, hD, hC0, r1, r2⟩ := H T N I L R nc ns i (by omega) hR
  have e1 : I 1099511627776 (Int32.ofNat i + Int32.ofInt 1).toNatClampNeg = xs (i + 1) := (wL_x (k := 1) hx hLg hi (by omega)).1
  have b1 : 0 ≤ Int32.ofNat i + Int32.ofInt 1 ∧ (Int32.ofNat i + Int32.ofInt 1).toInt < Lg := (wL_x (k := 1) hx hLg hi (by omega)).2
  have e2 : I 1099511627776 (Int32.ofNat i + Int32.ofInt 2).toNatClampNeg = xs (i + 2) := (wL_x (k := 2) hx hLg hi (by omega)).1
  have b2 : 0 ≤ Int32.ofNat i + Int32.ofInt 2 ∧ (Int32.ofNat i + Int32.ofInt 2).toInt < Lg := (wL_x (k := 2) hx hLg hi (by omega)).2
  refine ⟨_, hT, b1, _, hT, b2, ?_⟩
  refine s310 _ _ _ _ _ _ _ ⟨_, _, C, rfl, hC, hD, hC0, h325, ?_, ?_⟩
  · rw [e1, e2]
    intro ha
    refine ⟨_, hT, b1, _, hT, b2, ?_⟩
    refine s451 _ _ _ _ _ _ _ ⟨_, _, rfl, hwT, ?_, ?_⟩
    · intro _
      refine s343 _ _ _ _ _ _ _ ⟨rfl, ?_⟩
      refine ⟨fun _ => ?_, fun h => (h (wv_u_at _ _ _ _)).elim⟩
      exact wL_fin hLg hi hm hx hT (fun j => wv_u_no _ _ (by omega)) r1
    · rw [e1, e2]
      intro hn
      exact (hn ha).elim
  · rw [e1, e2]
    intro ha
    have f1 : ∀ j, wv_u (wd_new C (xs (i + 1)) (xs (i + 2)) I) 325 8 (Int32.ofInt 0) 1099511627776 j = I 1099511627776 j := fun j => by
      rw [wv_u_no _ _ (by omega), wd_new_no (by omega) (by omega) (by omega) (by omega)]
    refine ⟨_, hT, b1, _, hT, b2, ?_⟩
    refine s451 _ _ _ _ _ _ _ ⟨_, _, rfl, hwT, ?_, ?_⟩
    · rw [f1, f1, e1, e2]
      intro hn
      exact (ha hn).elim
    · rw [f1, f1, e1, e2]
      intro _
      refine s343 _ _ _ _ _ _ _ ⟨rfl, ?_⟩
      refine ⟨fun _ => ?_, fun h => (h wg_new_0).elim⟩
      exact wL_fin hLg hi hm hx hT (fun j => by rw [show wv_u (wg_s 500 (wg_l (wg_0 (xs (i + 1)) (xs (i + 2)) (wv_u (wd_new C (xs (i + 1)) (xs (i + 2)) I) 325 8 (Int32.ofInt 0))) 5) 6) 460 66 (Int32.ofInt 0) 1099511627776 j = _ from wg_new_no (by decide) (by decide) (by decide) (by decide), f1]) (r2 _ _ ha)
