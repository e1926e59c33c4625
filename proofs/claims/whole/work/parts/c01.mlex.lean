/-! ===== the reference: words of a text ===== -/
def wp_c353 : wv_c1 := fun as T N I L R q => ∃ p : Nat, as = [.ref 460, .int (Int32.ofNat p)] ∧ p < 2000000000 ∧ wt_mok T I ∧ q (.inl (some (.int (wp_b (wt_sml (wt_m I) p))))) T N I L R 0 0
set_option maxRecDepth 100000 in
theorem wM_353 : ∃ cb ci np, pt_mt 353 = some (32, cb, 2, false, some .boolean, ci, np) := ⟨_, _, _, rfl⟩
set_option maxRecDepth 100000 in
set_option maxHeartbeats 4000000 in
theorem wp_isSmall {sc : pt_Sc} {d : Nat} : wv_C wm_fx sc (d + 1 + 1) 353 wp_c353 := by
  rintro as T N I L R q ⟨p, rfl, hp, hk, h⟩ w0 HR
  obtain ⟨cb, ci, np, hm⟩ := wM_353
  have hc349 : wv_C wm_fx sc (d + 1) 349 wp_c349 := wv_C_deep (by omega) (wp_at (d := d))
  refine wv_meth (hh := none) rfl (sp := wv_sp [(349, wp_c349)]) (hd := fun _ => none) (n := 0) (n1 := 300) hm zc_353 rfl (wv_sp_ok (fun q hq => by rw [List.mem_singleton.mp hq]; exact hc349)) ?_ (fun pc P h => by cases h) HR
  have e1 : ((Int8.ofInt 97).toInt32).toInt = 97 := rfl
  have e2 : ((Int8.ofInt 122).toInt32).toInt = 122 := rfl
  refine ⟨p, rfl, hp, hk, ?_⟩
  refine ⟨fun h1 => ?_, fun h1 => ?_⟩
  · rw [wi_lt, e1] at h1
    rw [show wt_sml (wt_m I) p = false from decide_eq_false (by omega)] at h
    exact ⟨⟨rfl, rfl⟩, h⟩
  refine ⟨p, rfl, hp, hk, ?_⟩
  refine ⟨fun h2 => ?_, fun h2 => ?_⟩
  · rw [wi_lt, e2] at h2
    rw [show wt_sml (wt_m I) p = false from decide_eq_false (by omega)] at h
    exact ⟨⟨rfl, rfl⟩, h⟩
  · rw [wi_lt, e1] at h1
    rw [wi_lt, e2] at h2
    rw [show wt_sml (wt_m I) p = true from decide_eq_true (by omega)] at h
    exact ⟨⟨rfl, rfl⟩, h⟩
def wp_wn (a4 a5 a6 : Int32) : Nat := if 0 < a6 then 6 else if 0 < a5 then 5 else if 0 < a4 then 4 else 3
/-- the word from p on, of z signs -/
def wp_isw (t : Nat → Int32) (p z n : Nat) (a1 a2 a3 a4 a5 a6 : Int32) : Bool := decide (z = n ∧ t p = a1 ∧ t (p + 1) = a2 ∧ t (p + 2) = a3) && decide ((n < 4 ∨ t (p + 3) = a4) ∧ (n < 5 ∨ t (p + 4) = a5) ∧ (n < 6 ∨ t (p + 5) = a6))
def wp_l355 (a1 a2 a3 a4 a5 a6 : Int32) (x7 x8 : Option Value) : List (Option Value) := [some (.ref 460), some (.int a1), some (.int a2), some (.int a3), some (.int a4), some (.int a5), some (.int a6), x7, x8, none, none, none, none, none, none, none]
def wp_h355 (p z k : Nat) (a1 a2 a3 a4 a5 a6 : Int32) (T : wv_T) (N : Nat) (I : Nat → Nat → Int32) (L : Nat → Nat → Int64) (R : Nat → Nat → Option Nat) : Nat → Option (Nat → wv_P) := fun pc =>
  if pc = 31 then some (fun m lv st T1 N1 I1 L1 R1 nc ns => lv = wp_l355 a1 a2 a3 a4 a5 a6 (some (.int (Int32.ofNat k))) none ∧ st = [] ∧ T1 = T ∧ N1 = N ∧ I1 = I ∧ L1 = L ∧ R1 = R ∧ nc = 0 ∧ ns = 0 ∧ m = 2)
  else if pc = 92 then some (fun m lv st T1 N1 I1 L1 R1 nc ns => lv = wp_l355 a1 a2 a3 a4 a5 a6 (some (.int (Int32.ofNat k))) (some (.int (wp_b (decide (z = k ∧ wt_m I p = a1 ∧ wt_m I (p + 1) = a2 ∧ wt_m I (p + 2) = a3))))) ∧ st = [] ∧ T1 = T ∧ N1 = N ∧ I1 = I ∧ L1 = L ∧ R1 = R ∧ nc = 0 ∧ ns = 0 ∧ m = 1)
  else none
def wp_c355 : wv_c1 := fun as T N I L R q => ∃ (p z : Nat) (a1 a2 a3 a4 a5 a6 : Int32), as = [.ref 460, .int a1, .int a2, .int a3, .int a4, .int a5, .int a6] ∧ wt_mok T I ∧ I 460 4 = Int32.ofNat p ∧ I 460 5 = Int32.ofNat (p + z) ∧ p + z ≤ 1000 ∧ q (.inl (some (.int (wp_b (wp_isw (wt_m I) p z (wp_wn a4 a5 a6) a1 a2 a3 a4 a5 a6))))) T N I L R 0 0
set_option maxRecDepth 100000 in
theorem wM_355 : ∃ cb ci np, pt_mt 355 = some (32, cb, 9, false, some .boolean, ci, np) := ⟨_, _, _, rfl⟩
set_option maxRecDepth 100000 in
set_option maxHeartbeats 2000000 in
theorem wp_isWord {sc : pt_Sc} {d : Nat} : wv_C wm_fx sc (d + 1 + 1) 355 wp_c355 := by
  rintro as T N I L R q ⟨p, z, a1, a2, a3, a4, a5, a6, rfl, hk, i4, i5, hpz, h⟩ w0 HR
  obtain ⟨cb, ci, np, hm⟩ := wM_355
  obtain ⟨k, hk0⟩ : ∃ k, k = wp_wn a4 a5 a6 := ⟨_, rfl⟩
  have hkb : 3 ≤ k ∧ k ≤ 6 := by
    rw [hk0]
    unfold wp_wn
    repeat' split
    all_goals omega
  rw [← hk0] at h
  have ek := wi_on (n := k) (by omega)
  have j40 : I 460 4 = Int32.ofNat (p + 0) := i4
  have j41 : I 460 4 + Int32.ofInt 1 = Int32.ofNat (p + 1) := by rw [i4]; exact wi_ona p 1
  have j42 : I 460 4 + Int32.ofInt 2 = Int32.ofNat (p + 2) := by rw [i4]; exact wi_ona p 2
  have j43 : I 460 4 + Int32.ofInt 3 = Int32.ofNat (p + 3) := by rw [i4]; exact wi_ona p 3
  have j44 : I 460 4 + Int32.ofInt 4 = Int32.ofNat (p + 4) := by rw [i4]; exact wi_ona p 4
  have j45 : I 460 4 + Int32.ofInt 5 = Int32.ofNat (p + 5) := by rw [i4]; exact wi_ona p 5
  have hsub : I 460 5 - I 460 4 = Int32.ofNat z := by
    rw [i4, i5]
    apply wi_eq.mpr
    rw [wi_sub, wi_on (by omega), wi_on (by omega), wi_on (by omega), wr_id (by omega) (by omega)]
    omega
  have hz : I 460 5 - I 460 4 = Int32.ofNat k ↔ z = k := by
    rw [hsub]
    constructor
    · intro e
      have := wi_eq.mp e
      rw [wi_on (by omega), ek] at this
      omega
    · intro e
      rw [e]
  have hc349 : wv_C wm_fx sc (d + 1) 349 wp_c349 := wv_C_deep (by omega) (wp_at (d := d))
  refine wv_meth (hh := none) rfl (sp := wv_sp [(349, wp_c349)]) (hd := wp_h355 p z k a1 a2 a3 a4 a5 a6 T N I L R) (n := 300) (n1 := 300) hm zc_355 rfl (wv_sp_ok (fun q hq => by rw [List.mem_singleton.mp hq]; exact hc349)) ?_ ?_ HR
  · refine ⟨fun y1 => ?_, fun y1 => ?_⟩
    · refine ⟨fun y2 => ?_, fun y2 => ?_⟩
      · refine ⟨fun y3 => ?_, fun y3 => ?_⟩
        · exact ⟨2, by rw [hk0]; unfold wp_wn; rw [if_neg (Int32.not_lt.mpr y1), if_neg (Int32.not_lt.mpr y2), if_neg (Int32.not_lt.mpr y3)]; rfl, rfl, rfl, rfl, rfl, rfl, rfl, rfl, rfl, rfl⟩
        · exact ⟨2, by rw [hk0]; unfold wp_wn; rw [if_neg (Int32.not_lt.mpr y1), if_neg (Int32.not_lt.mpr y2), if_pos (Int32.not_le.mp y3)]; rfl, rfl, rfl, rfl, rfl, rfl, rfl, rfl, rfl, rfl⟩
      · exact ⟨2, by rw [hk0]; unfold wp_wn; rw [if_neg (Int32.not_lt.mpr y1), if_pos (Int32.not_le.mp y2)]; rfl, rfl, rfl, rfl, rfl, rfl, rfl, rfl, rfl, rfl⟩
    · exact ⟨2, by rw [hk0]; unfold wp_wn; rw [if_pos (Int32.not_le.mp y1)]; rfl, rfl, rfl, rfl, rfl, rfl, rfl, rfl, rfl, rfl⟩
  · intro pc P hP m lv st T1 N1 I1 L1 R1 nc ns hh
    unfold wp_h355 at hP
    split at hP
    · cases hP
      rename_i hpc
      subst hpc
      obtain ⟨rfl, rfl, rfl, rfl, rfl, rfl, rfl, rfl, rfl, hm⟩ := hh
      have fin : ∀ b : Bool, ∀ v : Int32, v = wp_b b → b = decide (z = k ∧ wt_m I1 p = a1 ∧ wt_m I1 (p + 1) = a2 ∧ wt_m I1 (p + 2) = a3) → ∃ m1, m1 < m ∧ wp_l355 a1 a2 a3 a4 a5 a6 (some (.int (Int32.ofNat k))) (some (.int v)) = wp_l355 a1 a2 a3 a4 a5 a6 (some (.int (Int32.ofNat k))) (some (.int (wp_b (decide (z = k ∧ wt_m I1 p = a1 ∧ wt_m I1 (p + 1) = a2 ∧ wt_m I1 (p + 2) = a3))))) ∧ ([] : List Value) = [] ∧ T1 = T1 ∧ N1 = N1 ∧ I1 = I1 ∧ L1 = L1 ∧ R1 = R1 ∧ 0 = 0 ∧ 0 = 0 ∧ m1 = 1 := by
        intro b v hv hb
        exact ⟨1, by omega, by rw [hv, hb], rfl, rfl, rfl, rfl, rfl, rfl, rfl, rfl, rfl⟩
      refine ⟨fun y1 => ?_, fun y1 => ?_⟩
      · exact fin false _ rfl (decide_eq_false (fun w => y1 (hz.mpr w.1))).symm
      refine ⟨p + 0, congrArg (fun x => [Value.ref 460, Value.int x]) j40, by omega, hk, ?_⟩
      refine ⟨fun y2 => ?_, fun y2 => ?_⟩
      · exact fin false _ rfl (decide_eq_false (fun w => y2 w.2.1)).symm
      refine ⟨p + 1, congrArg (fun x => [Value.ref 460, Value.int x]) j41, by omega, hk, ?_⟩
      refine ⟨fun y3 => ?_, fun y3 => ?_⟩
      · exact fin false _ rfl (decide_eq_false (fun w => y3 w.2.2.1)).symm
      refine ⟨p + 2, congrArg (fun x => [Value.ref 460, Value.int x]) j42, by omega, hk, ?_⟩
      refine ⟨fun y4 => ?_, fun y4 => ?_⟩
      · exact fin false _ rfl (decide_eq_false (fun w => y4 w.2.2.2)).symm
      · exact fin true _ rfl (decide_eq_true ⟨hz.mp (Decidable.not_not.mp y1), Decidable.not_not.mp y2, Decidable.not_not.mp y3, Decidable.not_not.mp y4⟩).symm
    · split at hP
      · cases hP
        rename_i hpc0 hpc
        subst hpc
        obtain ⟨rfl, rfl, rfl, rfl, rfl, rfl, rfl, rfl, rfl, hm⟩ := hh
        unfold wp_isw at h
        generalize decide (z = k ∧ wt_m I1 p = a1 ∧ wt_m I1 (p + 1) = a2 ∧ wt_m I1 (p + 2) = a3) = b at h ⊢
        have e4 : (Int32.ofInt 4).toInt = 4 := rfl
        have e5 : (Int32.ofInt 5).toInt = 5 := rfl
        have e6 : ((Int8.ofInt 6).toInt32).toInt = 6 := rfl
        have no : ¬ ((k < 4 ∨ wt_m I1 (p + 3) = a4) ∧ (k < 5 ∨ wt_m I1 (p + 4) = a5) ∧ (k < 6 ∨ wt_m I1 (p + 5) = a6)) → q (.inl (some (.int 0))) T1 N1 I1 L1 R1 0 0 := by
          intro hn
          rw [decide_eq_false hn, Bool.and_false] at h
          exact h
        refine ⟨fun y1 => ?_, fun y1 => ?_⟩
        · rw [wp_b0 y1, Bool.false_and] at h
          exact ⟨⟨rfl, rfl⟩, h⟩
        rw [wp_b1 y1, Bool.true_and] at h
        have yes : (k < 4 ∨ wt_m I1 (p + 3) = a4) → (k < 5 ∨ wt_m I1 (p + 4) = a5) → (k < 6 ∨ wt_m I1 (p + 5) = a6) → q (.inl (some (.int 1))) T1 N1 I1 L1 R1 0 0 := by
          intro x1 x2 x3
          rw [decide_eq_true ⟨x1, x2, x3⟩] at h
          exact h
        clear h
        refine ⟨fun y2 => ?_, fun y2 => ?_⟩
        · rw [wi_lt, ek, e4] at y2
          refine ⟨fun y3 => ?_, fun y3 => ?_⟩
          · refine ⟨fun y4 => ?_, fun y4 => ?_⟩
            · exact ⟨⟨rfl, rfl⟩, yes (by omega) (by omega) (by omega)⟩
            · exfalso
              rw [wi_lt, ek, e6] at y4
              omega
          · exfalso
            rw [wi_lt, ek, e5] at y3
            omega
        rw [wi_lt, ek, e4] at y2
        refine ⟨p + 3, congrArg (fun x => [Value.ref 460, Value.int x]) j43, by omega, hk, ?_⟩
        refine ⟨fun z3 => ⟨⟨rfl, rfl⟩, no (fun w => by rcases w.1 with w | w; omega; exact z3 w)⟩, fun z3 => ?_⟩
        refine ⟨fun y3 => ?_, fun y3 => ?_⟩
        · rw [wi_lt, ek, e5] at y3
          refine ⟨fun y4 => ?_, fun y4 => ?_⟩
          · exact ⟨⟨rfl, rfl⟩, yes (Or.inr (Decidable.not_not.mp z3)) (by omega) (by omega)⟩
          · exfalso
            rw [wi_lt, ek, e6] at y4
            omega
        rw [wi_lt, ek, e5] at y3
        refine ⟨p + 4, congrArg (fun x => [Value.ref 460, Value.int x]) j44, by omega, hk, ?_⟩
        refine ⟨fun z4 => ⟨⟨rfl, rfl⟩, no (fun w => by rcases w.2.1 with w | w; omega; exact z4 w)⟩, fun z4 => ?_⟩
        refine ⟨fun y4 => ?_, fun y4 => ?_⟩
        · rw [wi_lt, ek, e6] at y4
          exact ⟨⟨rfl, rfl⟩, yes (Or.inr (Decidable.not_not.mp z3)) (Or.inr (Decidable.not_not.mp z4)) (by omega)⟩
        rw [wi_lt, ek, e6] at y4
        refine ⟨p + 5, congrArg (fun x => [Value.ref 460, Value.int x]) j45, by omega, hk, ?_⟩
        refine ⟨fun z5 => ⟨⟨rfl, rfl⟩, no (fun w => by rcases w.2.2 with w | w; omega; exact z5 w)⟩, fun z5 => ?_⟩
        exact ⟨⟨rfl, rfl⟩, yes (Or.inr (Decidable.not_not.mp z3)) (Or.inr (Decidable.not_not.mp z4)) (Or.inr (Decidable.not_not.mp z5))⟩
      · cases hP
