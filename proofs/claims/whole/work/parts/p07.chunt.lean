/-! ===== the class: the hunt's small steps ===== -/
def hu_c325 : wv_c1 := fun as T N I L R q => ∃ C : Nat, as = [.ref C] ∧ T C = some (.inl 7) ∧ q (.inl (some (.int (I C 10)))) T N I L R 0 0
set_option maxRecDepth 100000 in
theorem wM_325 : ∃ cb ci np, pt_mt 325 = some (8, cb, 1, false, some .int, ci, np) := ⟨_, _, _, rfl⟩
set_option maxRecDepth 100000 in
set_option maxHeartbeats 4000000 in
theorem hu_rowSize {sc : pt_Sc} {d : Nat} : wv_C wm_fx sc (d + 1) 325 hu_c325 := by
  rintro as T N I L R q ⟨C, rfl, hC, h⟩ w0 HR
  obtain ⟨cb, ci, np, hm⟩ := wM_325
  refine wv_meth (hh := none) rfl (sp := fun _ _ _ _ _ _ _ _ => False) (hd := fun _ => none) (n := 0) (n1 := 300) hm zc_325 rfl (fun k as T N I L R q h => by cases h) ?_ (fun pc P h => by cases h) HR
  exact ⟨hC, h⟩
/-- a cycle as the class packs it -/
def hu_y (a b g : Nat) (nx : Nat → Nat) (fi : Nat → Bool) (sg on tw : Nat → Nat) (s x : Nat) : Nat := dz_let a b g nx fi sg on tw s x + 64 * dz_nx a b g nx fi sg on tw s x
theorem hu_y_lt {a b g : Nat} {nx : Nat → Nat} {fi : Nat → Bool} {sg on tw : Nat → Nat} {s x : Nat} (hb : b ≤ 5) : hu_y a b g nx fi sg on tw s x < 2048 := by
  have h1 := dz_B_lt (fun k => dz_l (dz_n a b on tw s x g) (sg k)) 6
  have h2 := Nat.lt_of_lt_of_le (dz_B_lt (fun k => dz_l (dz_n a b on tw s x g) (nx k)) b) (dz_p5 hb)
  unfold hu_y dz_let dz_nx
  omega
/-- cycles that are known -/
def hu_C (H : Nat) (a b g : Nat) (nx : Nat → Nat) (fi : Nat → Bool) (sg on tw : Nat → Nat) (I : Nat → Nat → Int32) : Prop := ∀ s x, s < 32 → x < 8 → I (H + 7) (s * 8 + x) = Int32.ofInt (-1) ∨ I (H + 7) (s * 8 + x) = Int32.ofNat (hu_y a b g nx fi sg on tw s x)
/-- only these two rows change -/
def hu_f2 (c d : Nat) (I I1 : Nat → Nat → Int32) : Prop := ∀ e j, ¬ e = c → ¬ e = d → I1 e j = I e j
def hu_c327 : wv_c1 := fun as T N I L R q => ∃ (H C s x : Nat) (a b g : Nat) (nx : Nat → Nat) (fi : Nat → Bool) (sg on tw : Nat → Nat), as = [.ref H, .ref C, .int (Int32.ofNat s), .int (Int32.ofNat x)] ∧ wh_H T R H ∧ H + 7 < 1099511627776 ∧ wd_D T R C ∧ C + 6 < 1099511627776 ∧ (H + 7 < C ∨ C + 6 < H) ∧ dz_V a b g nx fi sg on tw ∧ tw_N C a b g nx fi sg on tw I ∧ I (C + 6) 0 = 0 ∧ hu_C H a b g nx fi sg on tw I ∧ s < 32 ∧ x < 8 ∧ ∀ I1, hu_f2 (H + 7) (C + 6) I I1 → hu_C H a b g nx fi sg on tw I1 → I1 (C + 6) 0 = 0 → q (.inl (some (.int (Int32.ofNat (hu_y a b g nx fi sg on tw s x))))) T N I1 L R 0 0
set_option maxRecDepth 100000 in
theorem wM_327 : ∃ cb ci np, pt_mt 327 = some (16, cb, 5, false, some .int, ci, np) := ⟨_, _, _, rfl⟩
set_option maxRecDepth 100000 in
set_option maxHeartbeats 4000000 in
theorem hu_cycleOf {sc : pt_Sc} {d : Nat} : wv_C wm_fx sc (d + 1 + 1 + 1) 327 hu_c327 := by
  rintro as T N I L R q ⟨H, C, s, x, a, b, g, nx, fi, sg, on, tw, rfl, hH, hH2, hD, hC2, hsep, hV, hM, h0, hC, hs, hx, h⟩ w0 HR
  obtain ⟨cb, ci, np, hm⟩ := wM_327
  have hc328 : wv_C wm_fx sc (d + 1 + 1) 328 dz_c328 := wv_C_deep (by omega) (dz_cycle (d := d))
  refine wv_meth (hh := none) rfl (sp := wv_sp [(328, dz_c328)]) (hd := fun _ => none) (n := 0) (n1 := 300) hm zc_327 rfl (wv_sp_ok (fun q hq => by rw [List.mem_singleton.mp hq]; exact hc328)) ?_ (fun pc P h => by cases h) HR
  have hix : Int32.ofNat s * (Int8.ofInt 8).toInt32 + Int32.ofNat x = Int32.ofNat (s * 8 + x) := by
    rw [show (Int8.ofInt 8).toInt32 = Int32.ofNat 8 from rfl, ← Int32.ofNat_mul, wi_ona]
  have hin := wi_onn (n := s * 8 + x) (by omega)
  have t7 := hH.2.2.2.2.2.2.2.2
  have r7 : R H 6 = some (H + 7) := hH.2.1 6 (by omega)
  have hy := hu_y_lt (a := a) (g := g) (nx := nx) (fi := fi) (sg := sg) (on := on) (tw := tw) (s := s) (x := x) hV.2.2.1
  refine ⟨hH.1, H + 7, r7, _, t7, ?_, ?_⟩
  · rw [hix]
    exact pp_b (c := 256) (by omega) (by omega)
  rw [hix, hin]
  refine ⟨fun w1 => ?_, fun w1 => ?_⟩
  · have w1 : ¬ I (H + 7) (s * 8 + x) = Int32.ofInt (-1) := w1
    have e : I (H + 7) (s * 8 + x) = Int32.ofNat (hu_y a b g nx fi sg on tw s x) := (hC s x hs hx).elim (fun y => (w1 y).elim) id
    refine ⟨hH.1, H + 7, r7, _, t7, pp_b (c := 256) (by omega) (by omega), ?_⟩
    rw [hin, e]
    exact h I (fun _ _ _ _ => rfl) hC h0
  · refine ⟨hH.1, H + 7, r7, hD.1, C, s, x, a, b, g, nx, fi, sg, on, tw, rfl, hD, hC2, hV, hM, h0, hs, hx, fun I1 f1 z1 => ?_⟩
    refine ⟨_, t7, pp_b (c := 256) (by omega) (by omega), hH2, ?_⟩
    rw [hin]
    refine ⟨hH.1, H + 7, r7, _, t7, pp_b (c := 256) (by omega) (by omega), ?_⟩
    rw [hin, wv_u_at]
    refine h _ (fun e j e1 e2 => ?_) (fun s2 x2 hs2 hx2 => ?_) ?_
    · rw [wv_u_no _ _ (by omega)]
      exact f1 e j e2
    · by_cases e : s2 * 8 + x2 = s * 8 + x
      · have e1 : s2 = s := by omega
        have e2 : x2 = x := by omega
        subst e1 e2
        rw [wv_u_at]
        exact Or.inr rfl
      · rw [wv_u_no _ _ (fun y => e y.2), f1 _ _ (by omega)]
        exact hC s2 x2 hs2 hx2
    · rw [wv_u_no _ _ (by omega)]
      exact z1
/-- what keep copies -/
def hu_k (H n : Nat) (I : Nat → Nat → Int32) : Nat → Nat → Int32 := fun c j => if c = H + 4 ∧ j < n then I (H + 1) j else if c = H + 5 ∧ j < n then I (H + 3) j else if c = H + 6 ∧ j < n then I (H + 2) j else I c j
theorem hu_k_s {H n : Nat} {I : Nat → Nat → Int32} : wv_u (wv_u (wv_u (hu_k H n I) (H + 4) n (I (H + 1) n)) (H + 5) n (I (H + 3) n)) (H + 6) n (I (H + 2) n) = hu_k H (n + 1) I := by
  funext c j
  unfold hu_k
  by_cases e : j = n
  · subst e
    by_cases c4 : c = H + 4
    · subst c4
      rw [wv_u_no _ _ (by omega), wv_u_no _ _ (by omega), wv_u_at, if_pos ⟨rfl, by omega⟩]
    · by_cases c5 : c = H + 5
      · subst c5
        rw [wv_u_no _ _ (by omega), wv_u_at, if_neg (by omega), if_pos ⟨rfl, by omega⟩]
      · by_cases c6 : c = H + 6
        · subst c6
          rw [wv_u_at, if_neg (by omega), if_neg (by omega), if_pos ⟨rfl, by omega⟩]
        · rw [wv_u_no _ _ (by omega), wv_u_no _ _ (by omega), wv_u_no _ _ (by omega), if_neg (by omega), if_neg (by omega), if_neg (by omega), if_neg (by omega), if_neg (by omega), if_neg (by omega)]
  · rw [wv_u_no _ _ (by omega), wv_u_no _ _ (by omega), wv_u_no _ _ (by omega)]
    have e2 : ∀ d, (c = d ∧ j < n) ↔ (c = d ∧ j < n + 1) := fun d => by omega
    simp only [e2]
def hu_l30 (H m i : Nat) : List (Option Value) := [some (.ref H), some (.int (Int32.ofNat m)), some (.int (Int32.ofNat i)), none, none]
def hu_h330 (H m : Nat) (T : wv_T) (N : Nat) (I : Nat → Nat → Int32) (L : Nat → Nat → Int64) (R : Nat → Nat → Option Nat) : Nat → Option (Nat → wv_P) := fun pc =>
  if pc = 7 then some (fun mm lv st T1 N1 I1 L1 R1 nc ns => ∃ (i : Nat), lv = hu_l30 H m i ∧ st = [] ∧ T1 = T ∧ N1 = N ∧ L1 = L ∧ R1 = R ∧ nc = 0 ∧ ns = 0 ∧ i ≤ m ∧ I1 = hu_k H i (wv_u I H 8 (Int32.ofNat m)) ∧ mm = 100 - i)
  else none
def hu_c330 : wv_c1 := fun as T N I L R q => ∃ (H m : Nat), as = [.ref H, .int (Int32.ofNat m)] ∧ wh_H T R H ∧ H + 7 < 1099511627776 ∧ m ≤ 12 ∧ q (.inl none) T N (hu_k H m (wv_u I H 8 (Int32.ofNat m))) L R 0 0
set_option maxRecDepth 100000 in
theorem wM_330 : ∃ cb ci np, pt_mt 330 = some (16, cb, 3, false, none, ci, np) := ⟨_, _, _, rfl⟩
set_option maxRecDepth 100000 in
set_option maxHeartbeats 4000000 in
theorem hu_keep {sc : pt_Sc} {d : Nat} : wv_C wm_fx sc (d + 1) 330 hu_c330 := by
  rintro as T N I L R q ⟨H, mp, rfl, hH, hH2, hmp, h⟩ w0 HR
  obtain ⟨cb, ci, np, hm⟩ := wM_330
  refine wv_meth (hh := none) rfl (sp := fun _ _ _ _ _ _ _ _ => False) (hd := hu_h330 H mp T N I L R) (n := 300) (n1 := 300) hm zc_330 rfl (fun k as T N I L R q h => by cases h) ?_ ?_ HR
  · have a0 : H < 1099511627776 := by omega
    refine ⟨⟨hH.1, a0⟩, ?_⟩
    refine ⟨100 - 0, 0, rfl, rfl, rfl, rfl, rfl, rfl, rfl, rfl, Nat.zero_le _, ?_, rfl⟩
    funext c j
    unfold hu_k
    rw [if_neg (by omega), if_neg (by omega), if_neg (by omega)]
  · intro pc P hP m lv st T1 N1 I1 L1 R1 nc ns hh
    unfold hu_h330 at hP
    by_cases p7 : pc = 7
    · rw [if_pos p7] at hP
      cases hP
      subst p7
      obtain ⟨i, rfl, rfl, rfl, rfl, rfl, rfl, rfl, rfl, hi, rfl, rfl⟩ := hh
      have ei := wi_on (n := i) (by omega)
      have ein := wi_onn (n := i) (by omega)
      refine ⟨fun w1 => ?_, fun w1 => ?_⟩
      · have w1 : Int32.ofNat mp ≤ Int32.ofNat i := w1
        rw [wi_le, wi_on (by omega), ei] at w1
        have e : i = mp := by omega
        subst e
        exact h
      · have w1 : ¬ Int32.ofNat mp ≤ Int32.ofNat i := w1
        rw [wi_le, wi_on (by omega), ei] at w1
        have a4 : H + 4 < 1099511627776 := by omega
        have a5 : H + 5 < 1099511627776 := by omega
        have a6 : H + 6 < 1099511627776 := by omega
        obtain ⟨J, hJ⟩ : ∃ J, J = wv_u I H 8 (Int32.ofNat mp) := ⟨_, rfl⟩
        rw [← hJ]
        have k1 : hu_k H i J (H + 1) i = J (H + 1) i := by
          unfold hu_k
          rw [if_neg (by omega), if_neg (by omega), if_neg (by omega)]
        have k2 : hu_k H i J (H + 3) i = J (H + 3) i := by
          unfold hu_k
          rw [if_neg (by omega), if_neg (by omega), if_neg (by omega)]
        have k3 : hu_k H i J (H + 2) i = J (H + 2) i := by
          unfold hu_k
          rw [if_neg (by omega), if_neg (by omega), if_neg (by omega)]
        refine ⟨hH.1, H + 4, hH.2.1 3 (by omega), hH.1, H + 1, hH.2.1 0 (by omega), _, hH.2.2.1, pp_b (c := 13) (by omega) (by omega), ?_⟩
        rw [ein, k1]
        refine ⟨_, hH.2.2.2.2.2.1, pp_b (c := 12) (by omega) (by omega), a4, ?_⟩
        rw [ein]
        refine ⟨hH.1, H + 5, hH.2.1 4 (by omega), hH.1, H + 3, hH.2.1 2 (by omega), _, hH.2.2.2.2.1, pp_b (c := 13) (by omega) (by omega), ?_⟩
        rw [ein, wv_u_no _ _ (by omega), k2]
        refine ⟨_, hH.2.2.2.2.2.2.1, pp_b (c := 12) (by omega) (by omega), a5, ?_⟩
        rw [ein]
        refine ⟨hH.1, H + 6, hH.2.1 5 (by omega), hH.1, H + 2, hH.2.1 1 (by omega), _, hH.2.2.2.1, pp_b (c := 13) (by omega) (by omega), ?_⟩
        rw [ein, wv_u_no _ _ (by omega), wv_u_no _ _ (by omega), k3]
        refine ⟨_, hH.2.2.2.2.2.2.2.1, pp_b (c := 12) (by omega) (by omega), a6, ?_⟩
        rw [ein, hu_k_s]
        refine ⟨100 - (i + 1), by omega, i + 1, ?_, rfl, rfl, rfl, rfl, rfl, rfl, rfl, by omega, by rw [hJ], rfl⟩
        unfold hu_l30
        rw [← wq_4s]
        rfl
    rw [if_neg p7] at hP
    cases hP
