/-! ===== clear; the law's calls: clear, word ===== -/
/-- the word is empty again: of the object a with its length at k, b its failures -/
def wc (a k b : Nat) (I : Nat → Nat → Int32) : Nat → Nat → Int32 := wv_u (wv_u (wv_u I a k (Int32.ofInt 0)) b 0 (Int32.ofInt 0)) b 1 (Int32.ofInt 0)
def wp_c410 : wv_c1 := fun as T N I L R q => as = [.ref 460] ∧ wm_T T ∧ q (.inl none) T N (wc 460 46 490 (wv_u I 460 0 (Int32.ofInt 0))) L R 0 0
set_option maxRecDepth 100000 in
theorem wp_m410 : ∃ cb ci np, pt_mt 410 = some (32, cb, 1, false, none, ci, np) := ⟨_, _, _, rfl⟩
set_option maxRecDepth 100000 in
theorem wp_clear {sc : pt_Sc} {d : Nat} : wv_C wm_fx sc (d + 1) 410 wp_c410 := by
  rintro as T N I L R q ⟨rfl, hT, h⟩ w HR
  obtain ⟨cb, ci, np, hm⟩ := wp_m410
  refine wv_meth (hh := none) rfl (sp := fun _ _ _ _ _ _ _ _ => False) (hd := fun _ => none) (n := 0) (n1 := 100) hm zc_410 rfl (fun k as T N I L R q h => by cases h) ?_ (fun pc P h => by cases h) HR
  refine ⟨_, wm_t hT rfl, ⟨by decide, by decide⟩, by decide, _, wm_t hT rfl, ⟨by decide, by decide⟩, by decide, ?_⟩
  exact h
def wq_c19 : wv_c1 := fun as T N I L R q => as = [.ref 0] ∧ wm_T T ∧ q (.inl none) T N (wc 0 16 345 I) L R 0 0
set_option maxRecDepth 100000 in
theorem wq_m19 : ∃ cb ci np, pt_mt 19 = some (1, cb, 2, false, none, ci, np) := ⟨_, _, _, rfl⟩
set_option maxRecDepth 100000 in
theorem wq_empty {sc : pt_Sc} {d : Nat} : wv_C wm_fx sc (d + 1) 19 wq_c19 := by
  rintro as T N I L R q ⟨rfl, hT, h⟩ w HR
  obtain ⟨cb, ci, np, hm⟩ := wq_m19
  refine wv_meth (hh := none) rfl (sp := fun _ _ _ _ _ _ _ _ => False) (hd := fun _ => none) (n := 0) (n1 := 100) hm zc_19 rfl (fun k as T N I L R q h => by cases h) ?_ (fun pc P h => by cases h) HR
  refine ⟨fun z => absurd z (by decide), fun _ => ?_⟩
  refine ⟨_, wm_t hT rfl, ⟨by decide, by decide⟩, by decide, ?_⟩
  refine ⟨fun z => absurd z (by decide), fun _ => ?_⟩
  refine ⟨_, wm_t hT rfl, ⟨by decide, by decide⟩, by decide, ?_⟩
  refine ⟨fun _ => ?_, fun z => absurd (by decide) z⟩
  exact h
def wq_c18 : wv_c1 := fun as T N I L R q => as = [.ref 0] ∧ wm_T T ∧ q (.inl none) T N (wc 0 16 345 I) L R 0 0
set_option maxRecDepth 100000 in
theorem wq_m18 : ∃ cb ci np, pt_mt 18 = some (1, cb, 1, false, none, ci, np) := ⟨_, _, _, rfl⟩
set_option maxRecDepth 100000 in
theorem wq_clear {sc : pt_Sc} {d : Nat} : wv_C wm_fx sc (d + 1 + 1) 18 wq_c18 := by
  rintro as T N I L R q ⟨rfl, hT, h⟩ w HR
  obtain ⟨cb, ci, np, hm⟩ := wq_m18
  refine wv_meth (hh := none) rfl (sp := wv_sp [(19, wq_c19)]) (hd := fun _ => none) (n := 0) (n1 := 100) hm zc_18 rfl (wv_sp_ok (fun q hq => by rw [List.mem_singleton.mp hq]; exact wq_empty)) ?_ (fun pc P h => by cases h) HR
  exact ⟨rfl, hT, h⟩
def wL_4 (Rel : wv_T → Nat → (Nat → Nat → Int32) → (Nat → Nat → Int64) → (Nat → Nat → Option Nat) → Nat → Nat → Nat → Prop) : Prop := ∀ T N I L R nc ns i, i ≤ 2044 → Rel T N I L R nc ns i → wm_T T ∧ Rel T N (wc 460 46 490 (wv_u (wc 0 16 345 I) 460 0 (Int32.ofInt 0))) L R nc ns (i + 4)
theorem wc_no {a k b c j : Nat} {I : Nat → Nat → Int32} (h1 : ¬ c = a) (h2 : ¬ c = b) : wc a k b I c j = I c j := by
  unfold wc
  rw [wv_u_no _ _ (fun z => h2 z.1), wv_u_no _ _ (fun z => h2 z.1), wv_u_no _ _ (fun z => h1 z.1)]
set_option maxRecDepth 100000 in
set_option maxHeartbeats 4000000 in
theorem wL_case4 {Rel : wv_T → Nat → (Nat → Nat → Int32) → (Nat → Nat → Int64) → (Nat → Nat → Option Nat) → Nat → Nat → Nat → Prop} {xs : Nat → Int32} {Lg : Nat} {fv : Value} {q : wv_Q} {sp : wv_K} (hLg : Lg ≤ 2048) (H : wL_4 Rel)
    (s18 : ∀ as T N I L R q, wq_c18 as T N I L R q → sp 18 as T N I L R q) (s410 : ∀ as T N I L R q, wp_c410 as T N I L R q → sp 410 as T N I L R q) :
    ∀ m lv st T N I L R nc ns, wL_P Rel xs Lg (some 4) m lv st T N I L R nc ns → wv_S wm_fx fv none sp 0 7 false (some .boolean) zt_0 q (wv wm_fx fv none sp 0 7 false (some .boolean) zt_0 (wv_h2 (wL_hd Rel xs Lg) m) q 100) (zk_at zt_0 360) lv st T N I L R nc ns := by
  rintro m lv st T N I L R nc ns ⟨i, x5, x6, rfl, rfl, hT, hx, hR, hi, hm, hop⟩
  obtain ⟨hwT, r⟩ := H T N I L R nc ns i (by omega) hR
  refine s18 _ _ _ _ _ _ _ ⟨rfl, hwT, ?_⟩
  refine s410 _ _ _ _ _ _ _ ⟨rfl, hwT, ?_⟩
  exact wL_fin hLg hi hm hx hT (fun j => by rw [wc_no (by decide) (by decide), wv_u_no _ _ (by omega), wc_no (by decide) (by decide)]) r
def wL_5 (Rel : wv_T → Nat → (Nat → Nat → Int32) → (Nat → Nat → Int64) → (Nat → Nat → Option Nat) → Nat → Nat → Nat → Prop) : Prop := ∀ T N I L R nc ns i, i ≤ 2044 → Rel T N I L R nc ns i → T 536 = some (.inr (1, 1)) ∧ wm_T T ∧ I 0 16 = I 460 46 ∧ I 345 0 = I 490 0 ∧ I 345 1 = I 490 1 ∧ Rel T N (wv_u I 460 0 1) L R (nc + 1) (ns + 6) (i + 4) ∧ ∀ x, Rel T N (wv_u I 460 0 0) (wv_u L 536 0 x) R nc ns (i + 4)
theorem ww_eq {I : Nat → Nat → Int32} {n : Int32} (h : ¬ (n < 0 ∨ Int32.ofInt 2 < n)) (e0 : I 0 16 = I 460 46) (e1 : I 345 0 = I 490 0) (e2 : I 345 1 = I 490 1) : ww 0 16 345 I n = ww 460 46 490 (wv_u I 460 0 0) n := by
  unfold ww
  by_cases h3 : n = 0
  · rw [if_pos h3, if_pos h3, e0, wv_u_no _ _ (by omega)]
  · rw [if_neg h3, if_neg h3, wv_u_no _ _ (by omega)]
    have h4 := ww_in (fun z => h (Or.inl z)) (Int32.not_lt.mp (fun z => h (Or.inr z))) h3
    have h5 : (n - Int32.ofInt 1).toNatClampNeg < 2 := wv_inb2 h4
    have h6 : (n - Int32.ofInt 1).toNatClampNeg = 0 ∨ (n - Int32.ofInt 1).toNatClampNeg = 1 := by omega
    rcases h6 with h6 | h6
    · rw [h6, e1]
    · rw [h6, e2]
set_option maxRecDepth 100000 in
set_option maxHeartbeats 4000000 in
theorem wL_case5 {Rel : wv_T → Nat → (Nat → Nat → Int32) → (Nat → Nat → Int64) → (Nat → Nat → Option Nat) → Nat → Nat → Nat → Prop} {xs : Nat → Int32} {Lg : Nat} {fv : Value} {q : wv_Q} {sp : wv_K} (hLg : Lg ≤ 2048) (H : wL_5 Rel)
    (s186 : ∀ as T N I L R q, wl_c186 as T N I L R q → sp 186 as T N I L R q) (s411 : ∀ as T N I L R q, wp_c411 as T N I L R q → sp 411 as T N I L R q) (s343 : ∀ as T N I L R q, wp_c343 as T N I L R q → sp 343 as T N I L R q) :
    ∀ m lv st T N I L R nc ns, wL_P Rel xs Lg (some 5) m lv st T N I L R nc ns → wv_S wm_fx fv none sp 0 7 false (some .boolean) zt_0 q (wv wm_fx fv none sp 0 7 false (some .boolean) zt_0 (wv_h2 (wL_hd Rel xs Lg) m) q 100) (zk_at zt_0 371) lv st T N I L R nc ns := by
  rintro m lv st T N I L R nc ns ⟨i, x5, x6, rfl, rfl, hT, hx, hR, hi, hm, hop⟩
  obtain ⟨h537, hwT, a0, a1, a2, r1, r2⟩ := H T N I L R nc ns i (by omega) hR
  have e1 : I 1099511627776 (Int32.ofNat i + Int32.ofInt 1).toNatClampNeg = xs (i + 1) := (wL_x (k := 1) hx hLg hi (by omega)).1
  have b1 : 0 ≤ Int32.ofNat i + Int32.ofInt 1 ∧ (Int32.ofNat i + Int32.ofInt 1).toInt < Lg := (wL_x (k := 1) hx hLg hi (by omega)).2
  have n10 : ¬ (1 : Int32) = 0 := by decide
  refine ⟨_, hT, b1, ?_⟩
  refine s186 _ _ _ _ _ _ _ ⟨_, rfl, h537, hwT, ?_⟩
  rw [e1]
  by_cases ha : xs (i + 1) < 0 ∨ Int32.ofInt 2 < xs (i + 1)
  · rw [if_pos ha]
    refine ⟨_, hT, b1, ?_⟩
    refine s411 _ _ _ _ _ _ _ ⟨_, rfl, hwT, ?_⟩
    rw [e1, if_pos ha]
    refine s343 _ _ _ _ _ _ _ ⟨rfl, ?_⟩
    refine ⟨fun _ => ?_, fun h => (h (wv_u_at _ _ _ _)).elim⟩
    refine ⟨fun _ => ?_, fun h => (h n10).elim⟩
    exact wL_fin hLg hi hm hx hT (fun j => wv_u_no _ _ (by omega)) r1
  · rw [if_neg ha]
    refine ⟨_, hT, b1, ?_⟩
    refine s411 _ _ _ _ _ _ _ ⟨_, rfl, hwT, ?_⟩
    rw [e1, if_neg ha]
    refine s343 _ _ _ _ _ _ _ ⟨rfl, ?_⟩
    refine ⟨fun _ => ?_, fun h => (h (wv_u_at _ _ _ _)).elim⟩
    refine ⟨fun h => (h rfl).elim, fun _ => ?_⟩
    refine ⟨_, h537, ⟨by decide, by decide⟩, ?_⟩
    refine ⟨fun _ => ?_, fun h => (h ?_).elim⟩
    · exact wL_fin hLg hi hm hx hT (fun j => wv_u_no _ _ (by omega)) (r2 _)
    · show lg_cmp (wv_u L 536 0 (ww 0 16 345 I (xs (i + 1))).toInt64 536 0) (ww 460 46 490 (wv_u I 460 0 0) (xs (i + 1))).toInt64 = 0
      rw [wv_u_at, ww_eq ha a0 a1 a2]
      exact lg_cmp_self _
