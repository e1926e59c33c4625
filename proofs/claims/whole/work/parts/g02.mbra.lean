/-! ===== the reference: brackets and words of a property text ===== -/
def wp_c352 : wv_c1 := fun as T N I L R q => ∃ p : Nat, as = [.ref 460, .int (Int32.ofNat p)] ∧ p < 2000000000 ∧ wt_mok T I ∧ q (.inl (some (.int (wp_b (wt_dig (wt_m I) p))))) T N I L R 0 0
set_option maxRecDepth 100000 in
theorem wM_352 : ∃ cb ci np, pt_mt 352 = some (32, cb, 2, false, some .boolean, ci, np) := ⟨_, _, _, rfl⟩
set_option maxRecDepth 100000 in
set_option maxHeartbeats 4000000 in
theorem wp_isDigit {sc : pt_Sc} {d : Nat} : wv_C wm_fx sc (d + 1 + 1) 352 wp_c352 := by
  rintro as T N I L R q ⟨p, rfl, hp, hk, h⟩ w0 HR
  obtain ⟨cb, ci, np, hm⟩ := wM_352
  have hc349 : wv_C wm_fx sc (d + 1) 349 wp_c349 := wv_C_deep (by omega) (wp_at (d := d))
  refine wv_meth (hh := none) rfl (sp := wv_sp [(349, wp_c349)]) (hd := fun _ => none) (n := 0) (n1 := 300) hm zc_352 rfl (wv_sp_ok (fun q hq => by rw [List.mem_singleton.mp hq]; exact hc349)) ?_ (fun pc P h => by cases h) HR
  have e1 : ((Int8.ofInt 48).toInt32).toInt = 48 := rfl
  have e2 : ((Int8.ofInt 57).toInt32).toInt = 57 := rfl
  refine ⟨p, rfl, hp, hk, ?_⟩
  refine ⟨fun h1 => ?_, fun h1 => ?_⟩
  · rw [wi_lt, e1] at h1
    rw [show wt_dig (wt_m I) p = false from decide_eq_false (by omega)] at h
    exact ⟨⟨rfl, rfl⟩, h⟩
  refine ⟨p, rfl, hp, hk, ?_⟩
  refine ⟨fun h2 => ?_, fun h2 => ?_⟩
  · rw [wi_lt, e2] at h2
    rw [show wt_dig (wt_m I) p = false from decide_eq_false (by omega)] at h
    exact ⟨⟨rfl, rfl⟩, h⟩
  · rw [wi_lt, e1] at h1
    rw [wi_lt, e2] at h2
    rw [show wt_dig (wt_m I) p = true from decide_eq_true (by omega)] at h
    exact ⟨⟨rfl, rfl⟩, h⟩
def wp_c350 : wv_c1 := fun as T N I L R q => ∃ k : Int32, as = [.ref 460, .int k] ∧ q (.inl (some (.int k))) T N (wv_u I 460 5 (I 460 4 + Int32.ofInt 2)) L R 0 0
set_option maxRecDepth 100000 in
theorem wM_350 : ∃ cb ci np, pt_mt 350 = some (32, cb, 2, false, some .int, ci, np) := ⟨_, _, _, rfl⟩
set_option maxRecDepth 100000 in
set_option maxHeartbeats 4000000 in
theorem wp_two {sc : pt_Sc} {d : Nat} : wv_C wm_fx sc (d + 1) 350 wp_c350 := by
  rintro as T N I L R q ⟨k, rfl, h⟩ w0 HR
  obtain ⟨cb, ci, np, hm⟩ := wM_350
  refine wv_meth (hh := none) rfl (sp := fun _ _ _ _ _ _ _ _ => False) (hd := fun _ => none) (n := 0) (n1 := 300) hm zc_350 rfl (fun k as T N I L R q h => by cases h) ?_ (fun pc P h => by cases h) HR
  exact h
/-- a bracket, as the reference reads it: what stands ahead, the digit, the end -/
def br_A (t : Nat → Int32) (p : Nat) : Nat × Int32 := if t (p + 1) = (Int8.ofInt 42).toInt32 then (p + 2, (Int8.ofInt 40).toInt32) else if t (p + 1) = (Int8.ofInt 43).toInt32 then (p + 2, (Int8.ofInt 41).toInt32) else if t (p + 1) = (Int8.ofInt 61).toInt32 then (p + 2, (Int8.ofInt 44).toInt32) else if t (p + 1) = (Int8.ofInt 45).toInt32 ∧ t (p + 2) = (Int8.ofInt 62).toInt32 then (p + 3, (Int8.ofInt 43).toInt32) else (p + 1, (Int8.ofInt 45).toInt32)
def br_d (t : Nat → Int32) (i : Nat) (k : Int32) : Bool := decide (¬ k = (Int8.ofInt 41).toInt32) && wt_dig t i
def br_C (t : Nat → Int32) (i : Nat) (k : Int32) (d : Bool) : Nat × Int32 × Int32 × Int32 := if d = true then (if k = (Int8.ofInt 40).toInt32 then (if t (i + 1) = (Int8.ofInt 46).toInt32 ∧ t (i + 2) = (Int8.ofInt 46).toInt32 ∧ wt_dig t (i + 3) = true then (i + 4, (Int8.ofInt 42).toInt32, t i - (Int8.ofInt 48).toInt32, t (i + 3) - (Int8.ofInt 48).toInt32) else (i + 1, (Int8.ofInt 42).toInt32, t i - (Int8.ofInt 48).toInt32, t i - (Int8.ofInt 48).toInt32)) else (i + 1, k, t i - (Int8.ofInt 48).toInt32, t i - (Int8.ofInt 48).toInt32)) else (i, k, Int32.ofInt 0, Int32.ofInt 0)
def br_ok (t : Nat → Int32) (i : Nat) (k : Int32) (d : Bool) : Bool := decide (t i = (Int8.ofInt 93).toInt32 ∧ (d = true ∨ k = (Int8.ofInt 40).toInt32 ∨ k = (Int8.ofInt 41).toInt32))
theorem br_A_le {t : Nat → Int32} {p i : Nat} {k : Int32} (h : br_A t p = (i, k)) : i ≤ p + 3 := by
  unfold br_A at h
  repeat' split at h
  all_goals (have := congrArg Prod.fst h; dsimp only at this; omega)
theorem br_C_le {t : Nat → Int32} {i i2 : Nat} {k k2 lo hi : Int32} {d : Bool} (h : br_C t i k d = (i2, k2, lo, hi)) : i2 ≤ i + 4 := by
  unfold br_C at h
  repeat' split at h
  all_goals (have := congrArg Prod.fst h; dsimp only at this; omega)
/-- what a bracket leaves alone -/
def br_F (I J : Nat → Nat → Int32) : Prop := ∀ c j, ¬ (c = 460 ∧ 5 ≤ j ∧ j ≤ 7) → J c j = I c j
theorem br_mk {T : wv_T} {I J : Nat → Nat → Int32} {t : Nat → Int32} (hk : wt_mok T I) (ht : wt_m I = t) (hf : br_F I J) : wt_mok T J ∧ wt_m J = t := by
  constructor
  · unfold wt_mok at hk ⊢
    rw [hf _ _ (by omega)]
    exact hk
  · rw [← ht]
    funext j
    unfold wt_m
    rw [hf _ _ (by omega), hf _ _ (by omega)]
def br_h (p : Nat) (t : Nat → Int32) (T : wv_T) (N : Nat) (I : Nat → Nat → Int32) (L : Nat → Nat → Int64) (R : Nat → Nat → Option Nat) : Nat → Option (Nat → wv_P) := fun pc =>
  if pc = 95 then some (fun mm lv st T1 N1 I1 L1 R1 nc ns => ∃ (i : Nat) (k : Int32), lv = [some (.ref 460), some (.int (Int32.ofNat i)), some (.int k), none, none, none] ∧ st = [] ∧ T1 = T ∧ N1 = N ∧ I1 = I ∧ L1 = L ∧ R1 = R ∧ nc = 0 ∧ ns = 0 ∧ mm = 4 ∧ br_A t p = (i, k))
  else if pc = 125 then some (fun mm lv st T1 N1 I1 L1 R1 nc ns => ∃ (i : Nat) (k : Int32) (d : Bool), lv = [some (.ref 460), some (.int (Int32.ofNat i)), some (.int k), some (.int (wp_b d)), none, none] ∧ st = [] ∧ T1 = T ∧ N1 = N ∧ L1 = L ∧ R1 = R ∧ nc = 0 ∧ ns = 0 ∧ mm = 3 ∧ br_A t p = (i, k) ∧ d = br_d t i k ∧ I1 460 6 = Int32.ofInt 0 ∧ I1 460 7 = Int32.ofInt 0 ∧ br_F I I1)
  else if pc = 214 then some (fun mm lv st T1 N1 I1 L1 R1 nc ns => ∃ (i i2 : Nat) (k k2 lo hi : Int32) (d : Bool), lv = [some (.ref 460), some (.int (Int32.ofNat i2)), some (.int k2), some (.int (wp_b d)), none, none] ∧ st = [] ∧ T1 = T ∧ N1 = N ∧ L1 = L ∧ R1 = R ∧ nc = 0 ∧ ns = 0 ∧ mm = 2 ∧ br_A t p = (i, k) ∧ d = br_d t i k ∧ br_C t i k d = (i2, k2, lo, hi) ∧ I1 460 6 = lo ∧ I1 460 7 = hi ∧ br_F I I1)
  else if pc = 247 then some (fun mm lv st T1 N1 I1 L1 R1 nc ns => ∃ (i i2 : Nat) (k k2 lo hi : Int32) (d ok : Bool), lv = [some (.ref 460), some (.int (Int32.ofNat i2)), some (.int k2), some (.int (wp_b d)), some (.int (wp_b ok)), none] ∧ st = [] ∧ T1 = T ∧ N1 = N ∧ L1 = L ∧ R1 = R ∧ nc = 0 ∧ ns = 0 ∧ mm = 1 ∧ br_A t p = (i, k) ∧ d = br_d t i k ∧ br_C t i k d = (i2, k2, lo, hi) ∧ ok = br_ok t i2 k2 d ∧ I1 460 6 = lo ∧ I1 460 7 = hi ∧ br_F I I1)
  else none
def wp_c351 : wv_c1 := fun as T N I L R q => ∃ (p : Nat) (t : Nat → Int32), as = [.ref 460] ∧ wt_mok T I ∧ wt_m I = t ∧ I 460 4 = Int32.ofNat p ∧ p < 400 ∧ ∀ (i i2 : Nat) (k k2 lo hi : Int32) (d ok : Bool) (I1 : Nat → Nat → Int32), br_A t p = (i, k) → d = br_d t i k → br_C t i k d = (i2, k2, lo, hi) → ok = br_ok t i2 k2 d → I1 460 6 = lo → I1 460 7 = hi → (ok = true → I1 460 5 = Int32.ofNat (i2 + 1)) → (ok = false → I1 460 5 = Int32.ofNat (p + 1)) → br_F I I1 → q (.inl (some (.int (if ok = true then k2 else (Int8.ofInt 51).toInt32)))) T N I1 L R 0 0
set_option maxRecDepth 100000 in
theorem wM_351 : ∃ cb ci np, pt_mt 351 = some (32, cb, 5, false, some .int, ci, np) := ⟨_, _, _, rfl⟩
set_option maxRecDepth 100000 in
set_option maxHeartbeats 4000000 in
theorem wp_bracket {sc : pt_Sc} {d : Nat} : wv_C wm_fx sc (d + 1 + 1 + 1) 351 wp_c351 := by
  rintro as T N I L R q ⟨p, t, rfl, hk, ht, i4, hp, h⟩ w0 HR
  obtain ⟨cb, ci, np, hm⟩ := wM_351
  have hc349 : wv_C wm_fx sc (d + 1 + 1) 349 wp_c349 := wv_C_deep (by omega) (wp_at (d := d))
  have hc352 : wv_C wm_fx sc (d + 1 + 1) 352 wp_c352 := wv_C_deep (by omega) (wp_isDigit (d := d))
  refine wv_meth (hh := none) rfl (sp := wv_sp [(349, wp_c349), (352, wp_c352)]) (hd := br_h p t T N I L R) (n := 300) (n1 := 300) hm zc_351 rfl (wv_sp_ok (fun q hq => by
    rcases List.mem_cons.mp hq with h | h
    · rw [h]; exact hc349
    rw [List.mem_singleton.mp h]; exact hc352)) ?_ ?_ HR
  · have a1 : I 460 4 + Int32.ofInt 1 = Int32.ofNat (p + 1) := by rw [i4]; exact wi_ona p 1
    have a2 : I 460 4 + Int32.ofInt 1 + Int32.ofInt 1 = Int32.ofNat (p + 2) := by rw [a1]; exact wi_ona (p + 1) 1
    have a3 : I 460 4 + Int32.ofInt 1 + Int32.ofInt 2 = Int32.ofNat (p + 3) := by rw [a1]; exact wi_ona (p + 1) 2
    refine ⟨p + 1, congrArg (fun x => [Value.ref 460, Value.int x]) a1, by omega, hk, ?_⟩
    rw [ht]
    refine ⟨fun x1 => ?_, fun x1 => ?_⟩
    rotate_left
    · exact ⟨4, p + 2, _, by rw [← a2]; rfl, rfl, rfl, rfl, rfl, rfl, rfl, rfl, rfl, rfl, if_pos (Decidable.not_not.mp x1)⟩
    refine ⟨p + 1, congrArg (fun x => [Value.ref 460, Value.int x]) a1, by omega, hk, ?_⟩
    rw [ht]
    refine ⟨fun x2 => ?_, fun x2 => ?_⟩
    rotate_left
    · exact ⟨4, p + 2, _, by rw [← a2]; rfl, rfl, rfl, rfl, rfl, rfl, rfl, rfl, rfl, rfl, by unfold br_A; rw [if_neg x1, if_pos (Decidable.not_not.mp x2)]⟩
    refine ⟨p + 1, congrArg (fun x => [Value.ref 460, Value.int x]) a1, by omega, hk, ?_⟩
    rw [ht]
    refine ⟨fun x3 => ?_, fun x3 => ?_⟩
    rotate_left
    · exact ⟨4, p + 2, _, by rw [← a2]; rfl, rfl, rfl, rfl, rfl, rfl, rfl, rfl, rfl, rfl, by unfold br_A; rw [if_neg x1, if_neg x2, if_pos (Decidable.not_not.mp x3)]⟩
    refine ⟨p + 1, congrArg (fun x => [Value.ref 460, Value.int x]) a1, by omega, hk, ?_⟩
    rw [ht]
    refine ⟨fun x4 => ?_, fun x4 => ?_⟩
    · exact ⟨4, p + 1, _, by rw [← a1]; rfl, rfl, rfl, rfl, rfl, rfl, rfl, rfl, rfl, rfl, by unfold br_A; rw [if_neg x1, if_neg x2, if_neg x3, if_neg (fun z => x4 z.1)]⟩
    refine ⟨p + 2, congrArg (fun x => [Value.ref 460, Value.int x]) a2, by omega, hk, ?_⟩
    rw [ht]
    refine ⟨fun x5 => ?_, fun x5 => ?_⟩
    · exact ⟨4, p + 1, _, by rw [← a1]; rfl, rfl, rfl, rfl, rfl, rfl, rfl, rfl, rfl, rfl, by unfold br_A; rw [if_neg x1, if_neg x2, if_neg x3, if_neg (fun z => x5 z.2)]⟩
    · exact ⟨4, p + 3, _, by rw [← a3]; rfl, rfl, rfl, rfl, rfl, rfl, rfl, rfl, rfl, rfl, by unfold br_A; rw [if_neg x1, if_neg x2, if_neg x3, if_pos ⟨Decidable.not_not.mp x4, Decidable.not_not.mp x5⟩]⟩
  · intro pc P hP m lv st T1 N1 I1 L1 R1 nc ns hh
    unfold br_h at hP
    split at hP
    · cases hP
      rename_i hpc
      subst hpc
      obtain ⟨i, k, rfl, rfl, rfl, rfl, rfl, rfl, rfl, rfl, rfl, hmm, hA⟩ := hh
      have hil := br_A_le hA
      have hF : br_F I1 (wv_u (wv_u I1 460 6 (Int32.ofInt 0)) 460 7 (Int32.ofInt 0)) := fun c j hc => by rw [wv_u_no _ _ (by omega), wv_u_no _ _ (by omega)]
      have f6 : wv_u (wv_u I1 460 6 (Int32.ofInt 0)) 460 7 (Int32.ofInt 0) 460 6 = Int32.ofInt 0 := by rw [wv_u_no _ _ (by omega), wv_u_at]
      have f7 : wv_u (wv_u I1 460 6 (Int32.ofInt 0)) 460 7 (Int32.ofInt 0) 460 7 = Int32.ofInt 0 := wv_u_at _ _ _ _
      obtain ⟨k1, m1⟩ := br_mk hk ht hF
      refine ⟨fun x1 => ?_, fun x1 => ?_⟩
      · exact ⟨3, by omega, i, k, false, rfl, rfl, rfl, rfl, rfl, rfl, rfl, rfl, rfl, hA, by unfold br_d; rw [decide_eq_false (fun z => z x1), Bool.false_and], f6, f7, hF⟩
      · refine ⟨i, rfl, by omega, k1, ?_⟩
        rw [m1]
        refine ⟨fun y => ?_, fun y => ?_⟩
        · exact ⟨3, by omega, i, k, false, rfl, rfl, rfl, rfl, rfl, rfl, rfl, rfl, rfl, hA, by unfold br_d; rw [wp_b0 y, Bool.and_false], f6, f7, hF⟩
        · exact ⟨3, by omega, i, k, true, rfl, rfl, rfl, rfl, rfl, rfl, rfl, rfl, rfl, hA, by unfold br_d; rw [wp_b1 y, decide_eq_true x1]; rfl, f6, f7, hF⟩
    · split at hP
      · cases hP
        rename_i hpc
        subst hpc
        obtain ⟨i, k, d, rfl, rfl, rfl, rfl, rfl, rfl, rfl, rfl, hmm, hA, hd, j6, j7, hF⟩ := hh
        have hil := br_A_le hA
        obtain ⟨k1, m1⟩ := br_mk hk ht hF
        refine ⟨fun y => ?_, fun y => ?_⟩
        · have ed := wp_b0 y
          have hC : br_C t i k d = (i, k, Int32.ofInt 0, Int32.ofInt 0) := by
            unfold br_C
            rw [if_neg (by rw [ed]; decide)]
          refine ⟨fun z => ?_, fun z => ?_⟩
          · exact ⟨2, by omega, i, i, k, k, _, _, d, rfl, rfl, rfl, rfl, rfl, rfl, rfl, rfl, rfl, hA, hd, hC, j6, j7, hF⟩
          · refine ⟨fun _ => ?_, fun w => (w y).elim⟩
            exact ⟨2, by omega, i, i, k, k, _, _, d, rfl, rfl, rfl, rfl, rfl, rfl, rfl, rfl, rfl, hA, hd, hC, j6, j7, hF⟩
        · have ed := wp_b1 y
          have b1 := wq_4s i
          have b2 : Int32.ofNat i + Int32.ofInt 1 + Int32.ofInt 1 = Int32.ofNat (i + 2) := by rw [b1]; exact wi_ona (i + 1) 1
          have b3 : Int32.ofNat i + Int32.ofInt 1 + Int32.ofInt 2 = Int32.ofNat (i + 3) := by rw [b1]; exact wi_ona (i + 1) 2
          have b4 : Int32.ofNat i + Int32.ofInt 1 + Int32.ofInt 3 = Int32.ofNat (i + 4) := by rw [b1]; exact wi_ona (i + 1) 3
          have m2 : ∀ x z, wt_mok T1 (wv_u (wv_u I1 460 6 x) 460 7 z) ∧ wt_m (wv_u (wv_u I1 460 6 x) 460 7 z) = t := fun x z => br_mk hk ht (fun c j hc => by rw [wv_u_no _ _ (by omega), wv_u_no _ _ (by omega)]; exact hF c j hc)
          have hF2 : ∀ x z, br_F I (wv_u (wv_u I1 460 6 x) 460 7 z) := fun x z c j hc => by rw [wv_u_no _ _ (by omega), wv_u_no _ _ (by omega)]; exact hF c j hc
          have g6 : ∀ x z, wv_u (wv_u I1 460 6 x) 460 7 z 460 6 = x := fun x z => by rw [wv_u_no _ _ (by omega), wv_u_at]
          have g7 : ∀ x, wv_u (wv_u I1 460 6 x) 460 7 (wv_u I1 460 6 x 460 6) 460 7 = x := fun x => by rw [wv_u_at, wv_u_at]
          refine ⟨i, rfl, by omega, k1, ?_⟩
          rw [m1]
          refine ⟨fun z => ?_, fun z => ?_⟩
          · refine ⟨2, by omega, i, i + 1, k, k, _, _, d, by rw [← b1]; rfl, rfl, rfl, rfl, rfl, rfl, rfl, rfl, rfl, hA, hd, ?_, g6 _ _, g7 _, hF2 _ _⟩
            unfold br_C
            rw [if_pos ed, if_neg z]
          · have z := Decidable.not_not.mp z
            refine ⟨fun w => (y w).elim, fun _ => ?_⟩
            have hno : ¬ (t (i + 1) = (Int8.ofInt 46).toInt32 ∧ t (i + 2) = (Int8.ofInt 46).toInt32 ∧ wt_dig t (i + 3) = true) → br_C t i k d = (i + 1, (Int8.ofInt 42).toInt32, t i - (Int8.ofInt 48).toInt32, t i - (Int8.ofInt 48).toInt32) := by
              intro hn
              unfold br_C
              rw [if_pos ed, if_pos z, if_neg hn]
            refine ⟨i + 1, congrArg (fun x => [Value.ref 460, Value.int x]) b1, by omega, (m2 _ _).1, ?_⟩
            rw [(m2 _ _).2]
            refine ⟨fun z1 => ?_, fun z1 => ?_⟩
            · exact ⟨2, by omega, i, i + 1, k, _, _, _, d, by rw [← b1]; rfl, rfl, rfl, rfl, rfl, rfl, rfl, rfl, rfl, hA, hd, hno (fun w => z1 w.1), g6 _ _, g7 _, hF2 _ _⟩
            refine ⟨i + 2, congrArg (fun x => [Value.ref 460, Value.int x]) b2, by omega, (m2 _ _).1, ?_⟩
            rw [(m2 _ _).2]
            refine ⟨fun z2 => ?_, fun z2 => ?_⟩
            · exact ⟨2, by omega, i, i + 1, k, _, _, _, d, by rw [← b1]; rfl, rfl, rfl, rfl, rfl, rfl, rfl, rfl, rfl, hA, hd, hno (fun w => z2 w.2.1), g6 _ _, g7 _, hF2 _ _⟩
            refine ⟨i + 3, congrArg (fun x => [Value.ref 460, Value.int x]) b3, by omega, (m2 _ _).1, ?_⟩
            rw [(m2 _ _).2]
            refine ⟨fun z3 => ?_, fun z3 => ?_⟩
            · exact ⟨2, by omega, i, i + 1, k, _, _, _, d, by rw [← b1]; rfl, rfl, rfl, rfl, rfl, rfl, rfl, rfl, rfl, hA, hd, hno (fun w => by rw [wp_b0 z3] at w; cases w.2.2), g6 _ _, g7 _, hF2 _ _⟩
            refine ⟨i + 3, congrArg (fun x => [Value.ref 460, Value.int x]) b3, by omega, (m2 _ _).1, ?_⟩
            rw [(m2 _ _).2]
            refine ⟨2, by omega, i, i + 4, k, (Int8.ofInt 42).toInt32, t i - (Int8.ofInt 48).toInt32, t (i + 3) - (Int8.ofInt 48).toInt32, d, by rw [← b4]; rfl, rfl, rfl, rfl, rfl, rfl, rfl, rfl, rfl, hA, hd, ?_, ?_, wv_u_at _ _ _ _, ?_⟩
            · unfold br_C
              rw [if_pos ed, if_pos z, if_pos ⟨Decidable.not_not.mp z1, Decidable.not_not.mp z2, wp_b1 z3⟩]
            · rw [wv_u_no _ _ (by omega)]
              exact g6 _ _
            · intro c j hc
              rw [wv_u_no _ _ (by omega)]
              exact hF2 _ _ c j hc
      · split at hP
        · cases hP
          rename_i hpc
          subst hpc
          obtain ⟨i, i2, k, k2, lo, hi, d, rfl, rfl, rfl, rfl, rfl, rfl, rfl, rfl, hmm, hA, hd, hC, j6, j7, hF⟩ := hh
          have hil := br_A_le hA
          have hil2 := br_C_le hC
          obtain ⟨k1, m1⟩ := br_mk hk ht hF
          have no : ¬ (t i2 = (Int8.ofInt 93).toInt32 ∧ (d = true ∨ k2 = (Int8.ofInt 40).toInt32 ∨ k2 = (Int8.ofInt 41).toInt32)) → false = br_ok t i2 k2 d := fun z => (decide_eq_false z).symm
          have ye : (t i2 = (Int8.ofInt 93).toInt32 ∧ (d = true ∨ k2 = (Int8.ofInt 40).toInt32 ∨ k2 = (Int8.ofInt 41).toInt32)) → true = br_ok t i2 k2 d := fun z => (decide_eq_true z).symm
          refine ⟨i2, rfl, by omega, k1, ?_⟩
          rw [m1]
          refine ⟨fun z1 => ?_, fun z1 => ?_⟩
          · exact ⟨1, by omega, i, i2, k, k2, _, _, d, false, rfl, rfl, rfl, rfl, rfl, rfl, rfl, rfl, rfl, hA, hd, hC, no (fun w => z1 w.1), j6, j7, hF⟩
          have z1 := Decidable.not_not.mp z1
          refine ⟨fun z2 => ?_, fun z2 => ?_⟩
          · exact ⟨1, by omega, i, i2, k, k2, _, _, d, true, rfl, rfl, rfl, rfl, rfl, rfl, rfl, rfl, rfl, hA, hd, hC, ye ⟨z1, Or.inl (wp_b1 z2)⟩, j6, j7, hF⟩
          have ed := wp_b0 (Decidable.not_not.mp z2)
          refine ⟨fun z3 => ?_, fun z3 => ?_⟩
          · exact ⟨1, by omega, i, i2, k, k2, _, _, d, true, rfl, rfl, rfl, rfl, rfl, rfl, rfl, rfl, rfl, hA, hd, hC, ye ⟨z1, Or.inr (Or.inl z3)⟩, j6, j7, hF⟩
          refine ⟨fun z4 => ?_, fun z4 => ?_⟩
          · exact ⟨1, by omega, i, i2, k, k2, _, _, d, false, rfl, rfl, rfl, rfl, rfl, rfl, rfl, rfl, rfl, hA, hd, hC, no (fun w => w.2.elim (fun w => by rw [ed] at w; cases w) (fun w => w.elim z3 z4)), j6, j7, hF⟩
          · exact ⟨1, by omega, i, i2, k, k2, _, _, d, true, rfl, rfl, rfl, rfl, rfl, rfl, rfl, rfl, rfl, hA, hd, hC, ye ⟨z1, Or.inr (Or.inr (Decidable.not_not.mp z4))⟩, j6, j7, hF⟩
        · split at hP
          · cases hP
            rename_i hpc
            subst hpc
            obtain ⟨i, i2, k, k2, lo, hi, d, ok, rfl, rfl, rfl, rfl, rfl, rfl, rfl, rfl, hmm, hA, hd, hC, hok, j6, j7, hF⟩ := hh
            have j4 : I1 460 4 + Int32.ofInt 1 = Int32.ofNat (p + 1) := by rw [hF _ _ (by omega), i4]; exact wi_ona p 1
            have hF2 : ∀ x, br_F I (wv_u I1 460 5 x) := fun x c j hc => by rw [wv_u_no _ _ (by omega)]; exact hF c j hc
            refine ⟨fun y => ?_, fun y => ?_⟩
            · have e := wp_b0 y
              refine ⟨fun _ => ?_, fun w => (w y).elim⟩
              have h := h i i2 k k2 lo hi d ok (wv_u I1 460 5 (I1 460 4 + Int32.ofInt 1)) hA hd hC hok (by rw [wv_u_no _ _ (by omega)]; exact j6) (by rw [wv_u_no _ _ (by omega)]; exact j7) (fun w => by rw [e] at w; cases w) (fun _ => by rw [wv_u_at]; exact j4) (hF2 _)
              rw [if_neg (by rw [e]; decide)] at h
              exact h
            · have e := wp_b1 y
              refine ⟨fun w => (y w).elim, fun _ => ?_⟩
              have h := h i i2 k k2 lo hi d ok (wv_u I1 460 5 (Int32.ofNat i2 + Int32.ofInt 1)) hA hd hC hok (by rw [wv_u_no _ _ (by omega)]; exact j6) (by rw [wv_u_no _ _ (by omega)]; exact j7) (fun _ => by rw [wv_u_at]; exact wq_4s i2) (fun w => by rw [e] at w; cases w) (hF2 _)
              rw [if_pos e] at h
              exact h
          · cases hP
