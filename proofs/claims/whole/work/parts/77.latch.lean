/-! ===== latch and signal: the reference, the law ===== -/
def wn_lat (k l f : Int32) (J : Nat → Nat → Int32) : Nat → Nat → Int32 := wv_u (wv_u (wv_u J 498 k.toNatClampNeg l) 499 k.toNatClampNeg (vp_nar .boolean f)) 460 66 (Int32.ofInt 0)
def wn_sig (k l : Int32) (J : Nat → Nat → Int32) : Nat → Nat → Int32 := wv_u (wv_u J 500 k.toNatClampNeg l) 460 66 (Int32.ofInt 0)
def wp_c454 : wv_c1 := fun as T N I L R q => ∃ k l f : Int32, as = [.ref 460, .int k, .int l, .int f] ∧ wm_T T ∧ (I 460 57).toInt ≤ 5 ∧ (wk_bl (I 460 56) (I 460 57) (I 460 58) k l → q (.inl none) T N (wv_u I 460 0 1) L R 0 0) ∧ (¬ wk_bl (I 460 56) (I 460 57) (I 460 58) k l → q (.inl none) T N (wn_lat k l f (wv_u I 460 0 0)) L R 0 0)
set_option maxRecDepth 100000 in
theorem wM_454 : ∃ cb ci np, pt_mt 454 = some (32, cb, 4, false, none, ci, np) := ⟨_, _, _, rfl⟩
set_option maxRecDepth 100000 in
set_option maxHeartbeats 4000000 in
theorem wp_latch {sc : pt_Sc} {d : Nat} : wv_C wm_fx sc (d + 1 + 1) 454 wp_c454 := by
  rintro as T N I L R q ⟨k, l, f, rfl, hT, g1, hb, hg⟩ w HR
  obtain ⟨cb, ci, np, hm⟩ := wM_454
  have hc345 : wv_C wm_fx sc (d + 1) 345 wp_c345 := wv_C_deep (by omega) (wp_refuse (d := d))
  have hc453 : wv_C wm_fx sc (d + 1) 453 wp_c453 := wv_C_deep (by omega) (wp_noLiteral (d := d))
  refine wv_meth (hh := none) rfl (sp := wv_sp [(345, wp_c345), (453, wp_c453)]) (hd := fun _ => none) (n := 0) (n1 := 300) hm zc_454 rfl (wv_sp_ok (fun q hq => by
    rcases List.mem_cons.mp hq with h | h
    · rw [h]; exact hc345
    rw [List.mem_singleton.mp h]; exact hc453)) ?_ (fun pc P h => by cases h) HR
  have n10 : ¬ (1 : Int32) = 0 := by decide
  have wb1 : ∀ x : Bool, ¬ wp_b x = 0 → x = true := by decide
  have wb2 : ∀ x : Bool, wp_b x = 0 → x = false := by decide
  have wb3 : ∀ x : Bool, ¬ ¬ wp_b x = 0 → x = false := by decide

  refine ⟨fun h1 => ?_, fun h1 => ?_⟩
  · refine ⟨_, _, rfl, ?_⟩
    rw [if_neg (by decide)]
    exact ⟨fun _ => hb (Or.inl h1), fun z => (z n10).elim⟩
  refine ⟨fun h2 => ?_, fun h2 => ?_⟩
  · refine ⟨_, _, rfl, ?_⟩
    rw [if_neg (by decide)]
    exact ⟨fun _ => hb (Or.inr (Or.inl h2)), fun z => (z n10).elim⟩
  refine ⟨_, rfl, ?_⟩
  refine ⟨fun h3 => ?_, fun h3 => ?_⟩
  · have hn : ¬ wk_bl (I 460 56) (I 460 57) (I 460 58) k l := fun z => z.elim h1 (fun z => z.elim h2 (fun z => by rw [show wo_no (I 460 56) (I 460 57) (I 460 58) l = wn_no I l from rfl, wb2 _ h3] at z; cases z))
    have bk : 0 ≤ k ∧ k.toInt < (5 : Nat) := by
      rw [wi_le] at h2
      rw [wi_lt, wi_0] at h1
      exact ⟨by rw [wi_le, wi_0]; omega, by omega⟩
    refine ⟨_, _, rfl, ?_⟩
    rw [if_pos (by decide), if_pos (by decide)]
    refine ⟨fun z => (z rfl).elim, fun _ => ?_⟩
    exact ⟨_, wm_t hT rfl, bk, by decide, _, wm_t hT rfl, bk, by decide, hg hn⟩
  · have h4 : wo_no (I 460 56) (I 460 57) (I 460 58) l = true := by
      cases hx : wn_no I l with
      | true => exact hx
      | false => rw [hx] at h3; exact (h3 rfl).elim
    refine ⟨_, _, rfl, ?_⟩
    rw [if_neg (by decide)]
    exact ⟨fun _ => hb (Or.inr (Or.inr h4)), fun z => (z n10).elim⟩
def wp_c455 : wv_c1 := fun as T N I L R q => ∃ k l : Int32, as = [.ref 460, .int k, .int l] ∧ wm_T T ∧ (wk_bs (I 460 56) (I 460 57) (I 460 58) k l → q (.inl none) T N (wv_u I 460 0 1) L R 0 0) ∧ (¬ wk_bs (I 460 56) (I 460 57) (I 460 58) k l → q (.inl none) T N (wn_sig k l (wv_u I 460 0 0)) L R 0 0)
set_option maxRecDepth 100000 in
theorem wM_455 : ∃ cb ci np, pt_mt 455 = some (32, cb, 3, false, none, ci, np) := ⟨_, _, _, rfl⟩
set_option maxRecDepth 100000 in
set_option maxHeartbeats 4000000 in
theorem wp_signal {sc : pt_Sc} {d : Nat} : wv_C wm_fx sc (d + 1 + 1) 455 wp_c455 := by
  rintro as T N I L R q ⟨k, l, rfl, hT, hb, hg⟩ w HR
  obtain ⟨cb, ci, np, hm⟩ := wM_455
  have hc345 : wv_C wm_fx sc (d + 1) 345 wp_c345 := wv_C_deep (by omega) (wp_refuse (d := d))
  have hc453 : wv_C wm_fx sc (d + 1) 453 wp_c453 := wv_C_deep (by omega) (wp_noLiteral (d := d))
  refine wv_meth (hh := none) rfl (sp := wv_sp [(345, wp_c345), (453, wp_c453)]) (hd := fun _ => none) (n := 0) (n1 := 300) hm zc_455 rfl (wv_sp_ok (fun q hq => by
    rcases List.mem_cons.mp hq with h | h
    · rw [h]; exact hc345
    rw [List.mem_singleton.mp h]; exact hc453)) ?_ (fun pc P h => by cases h) HR
  have n10 : ¬ (1 : Int32) = 0 := by decide
  have wb1 : ∀ x : Bool, ¬ wp_b x = 0 → x = true := by decide
  have wb2 : ∀ x : Bool, wp_b x = 0 → x = false := by decide
  have wb3 : ∀ x : Bool, ¬ ¬ wp_b x = 0 → x = false := by decide

  have e5 : (Int32.ofInt 5).toInt = 5 := rfl
  refine ⟨fun h1 => ?_, fun h1 => ?_⟩
  · refine ⟨_, _, rfl, ?_⟩
    rw [if_neg (by decide)]
    exact ⟨fun _ => hb (Or.inl h1), fun z => (z n10).elim⟩
  refine ⟨fun h2 => ?_, fun h2 => ?_⟩
  · refine ⟨_, _, rfl, ?_⟩
    rw [if_neg (by decide)]
    exact ⟨fun _ => hb (Or.inr (Or.inl (by rw [wi_lt, e5] at h2; exact h2))), fun z => (z n10).elim⟩
  refine ⟨_, rfl, ?_⟩
  refine ⟨fun h3 => ?_, fun h3 => ?_⟩
  · have h4 : ¬ 5 < k.toInt := by rw [wi_lt, e5] at h2; exact h2
    have hn : ¬ wk_bs (I 460 56) (I 460 57) (I 460 58) k l := fun z => z.elim h1 (fun z => z.elim h4 (fun z => by rw [show wo_no (I 460 56) (I 460 57) (I 460 58) l = wn_no I l from rfl, wb2 _ h3] at z; cases z))
    have bk : 0 ≤ k ∧ k.toInt < (6 : Nat) := by
      rw [wi_lt, wi_0] at h1
      exact ⟨by rw [wi_le, wi_0]; omega, by omega⟩
    refine ⟨_, _, rfl, ?_⟩
    rw [if_pos (by decide), if_pos (by decide)]
    refine ⟨fun z => (z rfl).elim, fun _ => ?_⟩
    exact ⟨_, wm_t hT rfl, bk, by decide, hg hn⟩
  · have h4 : wo_no (I 460 56) (I 460 57) (I 460 58) l = true := by
      cases hx : wn_no I l with
      | true => exact hx
      | false => rw [hx] at h3; exact (h3 rfl).elim
    refine ⟨_, _, rfl, ?_⟩
    rw [if_neg (by decide)]
    exact ⟨fun _ => hb (Or.inr (Or.inr h4)), fun z => (z n10).elim⟩
theorem wd_lat_no {C c j : Nat} {k l f : Int32} {I : Nat → Nat → Int32} (h0 : ¬ c = C) (h3 : ¬ c = C + 3) (h4 : ¬ c = C + 4) (h5 : ¬ c = 325) : wd_lat C k l f I c j = I c j := by
  unfold wd_lat
  rw [wv_u_no _ _ (fun z => h5 z.1), wv_u_no _ _ (fun z => h0 z.1), wv_u_no _ _ (fun z => h4 z.1), wv_u_no _ _ (fun z => h0 z.1), wv_u_no _ _ (fun z => h3 z.1)]
theorem wn_lat_no {c j : Nat} {k l f : Int32} {I : Nat → Nat → Int32} (h0 : ¬ (c = 460 ∧ j = 66)) (h3 : ¬ c = 498) (h4 : ¬ c = 499) : wn_lat k l f I c j = I c j := by
  unfold wn_lat
  rw [wv_u_no _ _ h0, wv_u_no _ _ (fun z => h4 z.1), wv_u_no _ _ (fun z => h3 z.1)]
theorem wd_sig_no {C c j : Nat} {k l : Int32} {I : Nat → Nat → Int32} (h0 : ¬ c = C) (h3 : ¬ c = C + 5) (h5 : ¬ c = 325) : wd_sig C k l I c j = I c j := by
  unfold wd_sig
  rw [wv_u_no _ _ (fun z => h5 z.1), wv_u_no _ _ (fun z => h0 z.1), wv_u_no _ _ (fun z => h3 z.1)]
theorem wn_sig_no {c j : Nat} {k l : Int32} {I : Nat → Nat → Int32} (h0 : ¬ (c = 460 ∧ j = 66)) (h3 : ¬ c = 500) : wn_sig k l I c j = I c j := by
  unfold wn_sig
  rw [wv_u_no _ _ h0, wv_u_no _ _ (fun z => h3 z.1)]
def wL_21 (Rel : wv_T → Nat → (Nat → Nat → Int32) → (Nat → Nat → Int64) → (Nat → Nat → Option Nat) → Nat → Nat → Nat → Prop) : Prop := ∀ T N I L R nc ns i, i ≤ 2044 → Rel T N I L R nc ns i → ∃ C, wL_B T R C ∧ wL_S I C ∧ Rel T N (wv_u I 460 0 1) L R (nc + 1) (ns + 6) (i + 4) ∧ ∀ k l, ¬ wk_bs (I 460 56) (I 460 57) (I 460 58) k l → Rel T N (wn_sig k l (wv_u (wd_sig C k l I) 460 0 0)) L R nc ns (i + 4)
set_option maxRecDepth 100000 in
set_option maxHeartbeats 4000000 in
theorem wL_case21 {Rel : wv_T → Nat → (Nat → Nat → Int32) → (Nat → Nat → Int64) → (Nat → Nat → Option Nat) → Nat → Nat → Nat → Prop} {xs : Nat → Int32} {Lg : Nat} {fv : Value} {q : wv_Q} {sp : wv_K} (hLg : Lg ≤ 2048) (H : wL_21 Rel)
    (s317 : ∀ as T N I L R q, wl_c317 as T N I L R q → sp 317 as T N I L R q) (s455 : ∀ as T N I L R q, wp_c455 as T N I L R q → sp 455 as T N I L R q) (s343 : ∀ as T N I L R q, wp_c343 as T N I L R q → sp 343 as T N I L R q) :
    ∀ m lv st T N I L R nc ns, wL_P Rel xs Lg (some 21) m lv st T N I L R nc ns → wv_S wm_fx fv none sp 0 7 false (some .boolean) zt_0 q (wv wm_fx fv none sp 0 7 false (some .boolean) zt_0 (wv_h2 (wL_hd Rel xs Lg) m) q 100) (zk_at zt_0 1346) lv st T N I L R nc ns := by
  rintro m lv st T N I L R nc ns ⟨i, x5, x6, rfl, rfl, hT, hx, hR, hi, hm, hop⟩
  obtain ⟨C, hB, hS, r1, r2⟩ := H T N I L R nc ns i (by omega) hR
  have e1 : I 1099511627776 (Int32.ofNat i + Int32.ofInt 1).toNatClampNeg = xs (i + 1) := (wL_x (k := 1) hx hLg hi (by omega)).1
  have b1 : 0 ≤ Int32.ofNat i + Int32.ofInt 1 ∧ (Int32.ofNat i + Int32.ofInt 1).toInt < Lg := (wL_x (k := 1) hx hLg hi (by omega)).2
  have e2 : I 1099511627776 (Int32.ofNat i + Int32.ofInt 2).toNatClampNeg = xs (i + 2) := (wL_x (k := 2) hx hLg hi (by omega)).1
  have b2 : 0 ≤ Int32.ofNat i + Int32.ofInt 2 ∧ (Int32.ofNat i + Int32.ofInt 2).toInt < Lg := (wL_x (k := 2) hx hLg hi (by omega)).2
  have hne := wL_B_ne hB
  obtain ⟨h537, hwT, h460, h325, h333, hC, hD, hC0⟩ := hB
  obtain ⟨a0, a1, a2, c0, c1, c2⟩ := hS
  refine ⟨_, hT, b1, _, hT, b2, ?_⟩
  refine s317 _ _ _ _ _ _ _ ⟨_, _, C, rfl, hC, hD, hC0, h325, ?_, ?_⟩
  · rw [e1, e2, a0, a1, a2]
    intro ha
    refine ⟨_, hT, b1, _, hT, b2, ?_⟩
    refine s455 _ _ _ _ _ _ _ ⟨_, _, rfl, hwT, ?_, ?_⟩
    · intro _
      refine s343 _ _ _ _ _ _ _ ⟨rfl, ?_⟩
      refine ⟨fun _ => ?_, fun h => (h (wv_u_at _ _ _ _)).elim⟩
      exact wL_fin hLg hi hm hx hT (fun j => wv_u_no _ _ (by omega)) r1
    · rw [e1, e2]
      intro hn
      exact (hn ha).elim
  · rw [e1, e2, a0, a1, a2]
    intro ha
    have f1 : ∀ j, wd_sig C (xs (i + 1)) (xs (i + 2)) I 1099511627776 j = I 1099511627776 j := fun j => wd_sig_no (by omega) (by omega) (by decide)
    have fm : ∀ j, wd_sig C (xs (i + 1)) (xs (i + 2)) I 460 j = I 460 j := fun j => wd_sig_no (hne.1 0 (by omega)) (hne.1 5 (by omega)) (by decide)
    refine ⟨_, hT, b1, _, hT, b2, ?_⟩
    refine s455 _ _ _ _ _ _ _ ⟨_, _, rfl, hwT, ?_, ?_⟩
    · rw [f1, f1, e1, e2, fm, fm, fm]
      intro hn
      exact (ha hn).elim
    · rw [f1, f1, e1, e2, fm, fm, fm]
      intro _
      refine s343 _ _ _ _ _ _ _ ⟨rfl, ?_⟩
      refine ⟨fun _ => ?_, fun h => (h ?_).elim⟩
      · exact wL_fin hLg hi hm hx hT (fun j => by rw [wn_sig_no (by omega) (by decide), wv_u_no _ _ (by omega), f1]) (r2 _ _ ha)
      · show wn_sig (xs (i + 1)) (xs (i + 2)) (wv_u (wd_sig C (xs (i + 1)) (xs (i + 2)) I) 460 0 0) 460 0 = 0
        rw [wn_sig_no (by omega) (by decide), wv_u_at]
/-- a number of the script as a truth value -/
def wL_b (x : Int32) : Int32 := if x = 0 then 0 else 1
def wL_20 (Rel : wv_T → Nat → (Nat → Nat → Int32) → (Nat → Nat → Int64) → (Nat → Nat → Option Nat) → Nat → Nat → Nat → Prop) : Prop := ∀ T N I L R nc ns i, i ≤ 2044 → Rel T N I L R nc ns i → ∃ C, wL_B T R C ∧ wL_S I C ∧ Rel T N (wv_u I 460 0 1) L R (nc + 1) (ns + 6) (i + 4) ∧ ∀ k l f, (f = 0 ∨ f = 1) → ¬ wk_bl (I 460 56) (I 460 57) (I 460 58) k l → Rel T N (wn_lat k l f (wv_u (wd_lat C k l f I) 460 0 0)) L R nc ns (i + 4)
set_option maxRecDepth 100000 in
set_option maxHeartbeats 4000000 in
theorem wL_case20 {Rel : wv_T → Nat → (Nat → Nat → Int32) → (Nat → Nat → Int64) → (Nat → Nat → Option Nat) → Nat → Nat → Nat → Prop} {xs : Nat → Int32} {Lg : Nat} {fv : Value} {q : wv_Q} {sp : wv_K} (hLg : Lg ≤ 2048) (H : wL_20 Rel)
    (s315 : ∀ as T N I L R q, wl_c315 as T N I L R q → sp 315 as T N I L R q) (s454 : ∀ as T N I L R q, wp_c454 as T N I L R q → sp 454 as T N I L R q) (s343 : ∀ as T N I L R q, wp_c343 as T N I L R q → sp 343 as T N I L R q) :
    ∀ m lv st T N I L R nc ns, wL_P Rel xs Lg (some 20) m lv st T N I L R nc ns → wv_S wm_fx fv none sp 0 7 false (some .boolean) zt_0 q (wv wm_fx fv none sp 0 7 false (some .boolean) zt_0 (wv_h2 (wL_hd Rel xs Lg) m) q 100) (zk_at zt_0 1270) lv st T N I L R nc ns := by
  rintro m lv st T N I L R nc ns ⟨i, x5, x6, rfl, rfl, hT, hx, hR, hi, hm, hop⟩
  obtain ⟨C, hB, hS, r1, r2⟩ := H T N I L R nc ns i (by omega) hR
  have e1 : I 1099511627776 (Int32.ofNat i + Int32.ofInt 1).toNatClampNeg = xs (i + 1) := (wL_x (k := 1) hx hLg hi (by omega)).1
  have b1 : 0 ≤ Int32.ofNat i + Int32.ofInt 1 ∧ (Int32.ofNat i + Int32.ofInt 1).toInt < Lg := (wL_x (k := 1) hx hLg hi (by omega)).2
  have e2 : I 1099511627776 (Int32.ofNat i + Int32.ofInt 2).toNatClampNeg = xs (i + 2) := (wL_x (k := 2) hx hLg hi (by omega)).1
  have b2 : 0 ≤ Int32.ofNat i + Int32.ofInt 2 ∧ (Int32.ofNat i + Int32.ofInt 2).toInt < Lg := (wL_x (k := 2) hx hLg hi (by omega)).2
  have e3 : I 1099511627776 (Int32.ofNat i + Int32.ofInt 3).toNatClampNeg = xs (i + 3) := (wL_x (k := 3) hx hLg hi (by omega)).1
  have b3 : 0 ≤ Int32.ofNat i + Int32.ofInt 3 ∧ (Int32.ofNat i + Int32.ofInt 3).toInt < Lg := (wL_x (k := 3) hx hLg hi (by omega)).2
  have hne := wL_B_ne hB
  obtain ⟨h537, hwT, h460, h325, h333, hC, hD, hC0⟩ := hB
  obtain ⟨a0, a1, a2, c0, c1, c2⟩ := hS
  have r3 : ∀ f, (f = 0 ∨ f = 1) → Rel T N (wn_lat (xs (i + 1)) (xs (i + 2)) f (wv_u (wd_lat C (xs (i + 1)) (xs (i + 2)) f I) 460 0 0)) L R nc ns (i + 4) ∨ wk_bl (I 460 56) (I 460 57) (I 460 58) (xs (i + 1)) (xs (i + 2)) := fun f hf => by
    by_cases hb : wk_bl (I 460 56) (I 460 57) (I 460 58) (xs (i + 1)) (xs (i + 2))
    · exact Or.inr hb
    · exact Or.inl (r2 _ _ f hf hb)
  have f1 : ∀ f j, wd_lat C (xs (i + 1)) (xs (i + 2)) f I 1099511627776 j = I 1099511627776 j := fun f j => wd_lat_no (by omega) (by omega) (by omega) (by decide)
  have fm : ∀ f j, wd_lat C (xs (i + 1)) (xs (i + 2)) f I 460 j = I 460 j := fun f j => wd_lat_no (hne.1 0 (by omega)) (hne.1 3 (by omega)) (hne.1 4 (by omega)) (by decide)
  refine ⟨_, hT, b1, _, hT, b2, _, hT, b3, ?_⟩
  refine ⟨fun h3 => ?_, fun h3 => ?_⟩
  · refine s315 _ _ _ _ _ _ _ ⟨_, _, _, C, rfl, hC, hD, hC0, h325, by rw [a1]; exact c1.2, ?_, ?_⟩
    · rw [e1, e2, a0, a1, a2]
      intro ha
      refine ⟨_, hT, b1, _, hT, b2, _, hT, b3, ?_⟩
      refine ⟨fun h4 => ?_, fun h4 => ?_⟩
      · refine s454 _ _ _ _ _ _ _ ⟨_, _, _, rfl, hwT, c1.2, ?_, ?_⟩
        · intro _
          refine s343 _ _ _ _ _ _ _ ⟨rfl, ?_⟩
          refine ⟨fun _ => ?_, fun h => (h (wv_u_at _ _ _ _)).elim⟩
          exact wL_fin hLg hi hm hx hT (fun j => wv_u_no _ _ (by omega)) r1
        · rw [e1, e2]
          intro hn
          exact (hn ha).elim
      · refine s454 _ _ _ _ _ _ _ ⟨_, _, _, rfl, hwT, c1.2, ?_, ?_⟩
        · intro _
          refine s343 _ _ _ _ _ _ _ ⟨rfl, ?_⟩
          refine ⟨fun _ => ?_, fun h => (h (wv_u_at _ _ _ _)).elim⟩
          exact wL_fin hLg hi hm hx hT (fun j => wv_u_no _ _ (by omega)) r1
        · rw [e1, e2]
          intro hn
          exact (hn ha).elim
    · rw [e1, e2, a0, a1, a2]
      intro ha
      have r4 := (r3 0 (Or.inl rfl)).resolve_right ha
      refine ⟨_, hT, b1, _, hT, b2, _, hT, b3, ?_⟩
      refine ⟨fun h4 => ?_, fun h4 => ?_⟩
      · refine s454 _ _ _ _ _ _ _ ⟨_, _, _, rfl, hwT, by rw [fm]; exact c1.2, ?_, ?_⟩
        · rw [f1, f1, e1, e2, fm, fm, fm]
          intro hn
          exact (ha hn).elim
        · rw [f1, f1, e1, e2, fm, fm, fm]
          intro _
          refine s343 _ _ _ _ _ _ _ ⟨rfl, ?_⟩
          refine ⟨fun _ => ?_, fun h => (h ?_).elim⟩
          · exact wL_fin hLg hi hm hx hT (fun j => by rw [wn_lat_no (by omega) (by decide) (by decide), wv_u_no _ _ (by omega), f1]) r4
          · show wn_lat (xs (i + 1)) (xs (i + 2)) _ (wv_u (wd_lat C (xs (i + 1)) (xs (i + 2)) _ I) 460 0 0) 460 0 = 0
            rw [wn_lat_no (by omega) (by decide) (by decide), wv_u_at]
      · rw [f1] at h4
        exact (h4 h3).elim
  · refine s315 _ _ _ _ _ _ _ ⟨_, _, _, C, rfl, hC, hD, hC0, h325, by rw [a1]; exact c1.2, ?_, ?_⟩
    · rw [e1, e2, a0, a1, a2]
      intro ha
      refine ⟨_, hT, b1, _, hT, b2, _, hT, b3, ?_⟩
      refine ⟨fun h4 => ?_, fun h4 => ?_⟩
      · refine s454 _ _ _ _ _ _ _ ⟨_, _, _, rfl, hwT, c1.2, ?_, ?_⟩
        · intro _
          refine s343 _ _ _ _ _ _ _ ⟨rfl, ?_⟩
          refine ⟨fun _ => ?_, fun h => (h (wv_u_at _ _ _ _)).elim⟩
          exact wL_fin hLg hi hm hx hT (fun j => wv_u_no _ _ (by omega)) r1
        · rw [e1, e2]
          intro hn
          exact (hn ha).elim
      · refine s454 _ _ _ _ _ _ _ ⟨_, _, _, rfl, hwT, c1.2, ?_, ?_⟩
        · intro _
          refine s343 _ _ _ _ _ _ _ ⟨rfl, ?_⟩
          refine ⟨fun _ => ?_, fun h => (h (wv_u_at _ _ _ _)).elim⟩
          exact wL_fin hLg hi hm hx hT (fun j => wv_u_no _ _ (by omega)) r1
        · rw [e1, e2]
          intro hn
          exact (hn ha).elim
    · rw [e1, e2, a0, a1, a2]
      intro ha
      have r4 := (r3 1 (Or.inr rfl)).resolve_right ha
      refine ⟨_, hT, b1, _, hT, b2, _, hT, b3, ?_⟩
      refine ⟨fun h4 => ?_, fun h4 => ?_⟩
      · rw [f1] at h4
        exact (h3 h4).elim
      · refine s454 _ _ _ _ _ _ _ ⟨_, _, _, rfl, hwT, by rw [fm]; exact c1.2, ?_, ?_⟩
        · rw [f1, f1, e1, e2, fm, fm, fm]
          intro hn
          exact (ha hn).elim
        · rw [f1, f1, e1, e2, fm, fm, fm]
          intro _
          refine s343 _ _ _ _ _ _ _ ⟨rfl, ?_⟩
          refine ⟨fun _ => ?_, fun h => (h ?_).elim⟩
          · exact wL_fin hLg hi hm hx hT (fun j => by rw [wn_lat_no (by omega) (by decide) (by decide), wv_u_no _ _ (by omega), f1]) r4
          · show wn_lat (xs (i + 1)) (xs (i + 2)) _ (wv_u (wd_lat C (xs (i + 1)) (xs (i + 2)) _ I) 460 0 0) 460 0 = 0
            rw [wn_lat_no (by omega) (by decide) (by decide), wv_u_at]
