/-! ===== the reference: a property kept (2) ===== -/
/-- the kept nodes of a property, seen as nodes -/
def kp_V (I : Nat → Nat → Int32) (p : Nat) : Nat → Nat → Int32 := fun c j => if c = 468 then I 477 (420 * p + j) else if c = 467 then I 478 (800 * p + j) else if c = 460 then (if j = 16 then I 480 p else I 481 p) else I 476 (4000 * p + 800 * (c - 462) + j)
/-- what keeping changes -/
def kp_F (p : Nat) (I I1 : Nat → Nat → Int32) : Prop := ∀ c j, ¬ (c = 476 ∧ 4000 * p ≤ j ∧ j < 4000 * p + 4000) → ¬ (c = 477 ∧ 420 * p ≤ j ∧ j < 420 * p + 420) → ¬ (c = 478 ∧ 800 * p ≤ j ∧ j < 800 * p + 800) → ¬ (479 ≤ c ∧ c ≤ 483 ∧ j = p) → ¬ (c = 520 ∧ 4 * p ≤ j ∧ j < 4 * p + 4) → ¬ (c = 490 ∧ j < 2) → ¬ (c = 460 ∧ (j = 46 ∨ j = 66 ∨ j = 70)) → I1 c j = I c j
def kp_a (p k : Nat) (I I1 : Nat → Nat → Int32) : Prop := ∀ x, x < k → I1 476 (4000 * p + x) = I 462 x ∧ I1 476 (4000 * p + 800 + x) = I 463 x ∧ I1 476 (4000 * p + 1600 + x) = I 464 x ∧ I1 476 (4000 * p + 2400 + x) = I 465 x ∧ I1 476 (4000 * p + 3200 + x) = I 466 x ∧ I1 478 (800 * p + x) = I 467 x
def kp_t (p k : Nat) (I I1 : Nat → Nat → Int32) : Prop := ∀ x, x < k → I1 477 (420 * p + x) = I 468 x
def kp_lv (p x k : Nat) (c : Int32) : List (Option Value) := [some (.ref 460), some (.int (Int32.ofNat p)), some (.int (Int32.ofNat x)), some (.int c), some (.int (Int32.ofNat k)), none, none, none]
def kp_b (p k i : Nat) (I I1 : Nat → Nat → Int32) : Prop := (1 ≤ i → I1 476 (4000 * p + 0 + k) = I 462 k) ∧ (2 ≤ i → I1 476 (4000 * p + 800 + k) = I 463 k) ∧ (3 ≤ i → I1 476 (4000 * p + 1600 + k) = I 464 k) ∧ (4 ≤ i → I1 476 (4000 * p + 2400 + k) = I 465 k) ∧ (5 ≤ i → I1 476 (4000 * p + 3200 + k) = I 466 k)
def kp_c (p x i : Nat) (S : rn_N) (m0 : Nat) (I I1 : Nat → Nat → Int32) : Prop := (1 ≤ i → I1 480 p = Int32.ofNat (rn_n S)) ∧ (2 ≤ i → I1 481 p = Int32.ofNat m0) ∧ (3 ≤ i → I1 482 p = Int32.ofNat x) ∧ (4 ≤ i → I1 483 p = I 460 20)
def kp_h1 (p x i : Nat) (S : rn_N) (T : wv_T) (N : Nat) (I : Nat → Nat → Int32) (L : Nat → Nat → Int64) (R : Nat → Nat → Option Nat) : Nat → wv_P := fun mm lv st T1 N1 I1 L1 R1 nc ns => ∃ k : Nat, (k ≤ rn_n S ∧ (1 ≤ i → k < rn_n S)) ∧ mm = 20000 - 10 * k - i ∧ lv = kp_lv p x k (Int32.ofNat (4000 * p)) ∧ st = [] ∧ T1 = T ∧ N1 = N ∧ L1 = L ∧ R1 = R ∧ nc = 0 ∧ ns = 0 ∧ kp_a p k I I1 ∧ kp_b p k i I I1 ∧ kp_F p I I1
def kp_h2 (p x i : Nat) (S : rn_N) (m0 : Nat) (T : wv_T) (N : Nat) (I : Nat → Nat → Int32) (L : Nat → Nat → Int64) (R : Nat → Nat → Option Nat) : Nat → wv_P := fun mm lv st T1 N1 I1 L1 R1 nc ns => mm = 1000 - i ∧ lv = kp_lv p x m0 (Int32.ofNat (4000 * p)) ∧ st = [] ∧ T1 = T ∧ N1 = N ∧ L1 = L ∧ R1 = R ∧ nc = 0 ∧ ns = 0 ∧ kp_a p (rn_n S) I I1 ∧ kp_t p m0 I I1 ∧ kp_c p x i S m0 I I1 ∧ kp_F p I I1
def pm_h372 (p x : Nat) (S : rn_N) (m0 : Nat) (T : wv_T) (N : Nat) (I : Nat → Nat → Int32) (L : Nat → Nat → Int64) (R : Nat → Nat → Option Nat) : Nat → Option (Nat → wv_P) := fun pc =>
  if pc = 9 then some (kp_h1 p x 0 S T N I L R)
  else if pc = 34 then some (kp_h1 p x 1 S T N I L R)
  else if pc = 54 then some (kp_h1 p x 2 S T N I L R)
  else if pc = 74 then some (kp_h1 p x 3 S T N I L R)
  else if pc = 94 then some (kp_h1 p x 4 S T N I L R)
  else if pc = 114 then some (kp_h1 p x 5 S T N I L R)
  else if pc = 143 then some (fun mm lv st T1 N1 I1 L1 R1 nc ns => ∃ k : Nat, k ≤ m0 ∧ mm = 3000 - k ∧ lv = kp_lv p x k (Int32.ofNat (4000 * p)) ∧ st = [] ∧ T1 = T ∧ N1 = N ∧ L1 = L ∧ R1 = R ∧ nc = 0 ∧ ns = 0 ∧ kp_a p (rn_n S) I I1 ∧ kp_t p k I I1 ∧ kp_F p I I1)
  else if pc = 188 then some (kp_h2 p x 1 S m0 T N I L R)
  else if pc = 198 then some (kp_h2 p x 2 S m0 T N I L R)
  else if pc = 205 then some (kp_h2 p x 3 S m0 T N I L R)
  else if pc = 215 then some (kp_h2 p x 4 S m0 T N I L R)
  else if pc = 240 then some (fun mm lv st T1 N1 I1 L1 R1 nc ns => ∃ k : Nat, k ≤ 4 ∧ mm = 4 - k ∧ lv = kp_lv p x (4 * p + k) (Int32.ofNat (4000 * p)) ∧ st = [] ∧ T1 = T ∧ N1 = N ∧ L1 = L ∧ R1 = R ∧ nc = 0 ∧ ns = 0 ∧ kp_a p (rn_n S) I I1 ∧ kp_t p m0 I I1 ∧ kp_c p x 4 S m0 I I1 ∧ I1 479 p = (if fw S = true then (Int8.ofInt 12).toInt32 else (Int8.ofInt 60).toInt32) ∧ (∀ i, i < k → I1 520 (4 * p + i) = 0) ∧ kp_F p I I1)
  else none
def pm_c372 : wv_c1 := fun as T N I L R q => ∃ (p x m0 : Nat) (S : rn_N), as = [.ref 460, .int (Int32.ofNat p), .int (Int32.ofNat x)] ∧ p ≤ 1 ∧ x < 1000 ∧ wm_T T ∧ pn_M I S m0 ∧ m0 ≤ 420 ∧ rn_n S ≤ 500 ∧ rn_i S ∧ rn_q S ∧ (∀ x, x < rn_n S → rn_k S x < 100) ∧ ∀ I1, pn_M (kp_V I1 p) S m0 → I1 482 p = Int32.ofNat x → I1 483 p = I 460 20 → I1 479 p = (if fw S = true then (Int8.ofInt 12).toInt32 else (Int8.ofInt 60).toInt32) → (∀ i, i < 4 → I1 520 (4 * p + i) = 0) → I1 460 46 = 0 → I1 490 0 = 0 → I1 490 1 = 0 → I1 460 66 = 0 → I1 460 70 = 0 → kp_F p I I1 → q (.inl none) T N I1 L R 0 0
set_option maxRecDepth 100000 in
theorem wM_372 : ∃ cb ci np, pt_mt 372 = some (32, cb, 5, false, none, ci, np) := ⟨_, _, _, rfl⟩
set_option maxRecDepth 100000 in
set_option maxHeartbeats 20000000 in
theorem pm_keep {sc : pt_Sc} {d : Nat} : wv_C wm_fx sc (d + 1 + 1 + 1) 372 pm_c372 := by
  rintro as T N I L R q ⟨p, x, m0, S, rfl, hp, hx, hT, hM, hm0, hn, hi, hq, hkk, h⟩ w0 HR
  obtain ⟨cb, ci, np, hm⟩ := wM_372
  have hc373 : wv_C wm_fx sc (d + 1 + 1) 373 pm_c373 := wv_C_deep (by omega) (pm_few (d := d))
  refine wv_meth (hh := none) rfl (sp := wv_sp [(373, pm_c373)]) (hd := pm_h372 p x S m0 T N I L R) (n := 300) (n1 := 300) hm zc_372 rfl (wv_sp_ok (fun q hq => by rw [List.mem_singleton.mp hq]; exact hc373)) ?_ ?_ HR
  · have e4 : (Int16.ofInt 4000).toInt32 * Int32.ofNat p = Int32.ofNat (4000 * p) := wq_mu (a := 4000) (by omega) (by omega) (by omega)
    refine ⟨_, 0, ⟨by omega, fun z => absurd z (by omega)⟩, rfl, ?_, rfl, rfl, rfl, rfl, rfl, rfl, rfl, fun x hx => absurd hx (by omega), ⟨fun z => absurd z (by omega), fun z => absurd z (by omega), fun z => absurd z (by omega), fun z => absurd z (by omega), fun z => absurd z (by omega)⟩, fun c j _ _ _ _ _ _ _ => rfl⟩
    show _ = kp_lv p x 0 (Int32.ofNat (4000 * p))
    rw [← e4]
    rfl
  · intro pc P hP m lv st T1 N1 I1 L1 R1 nc ns hh
    have epn := wi_onn (n := p) (by omega)
    unfold pm_h372 at hP
    by_cases hpc : pc = 9
    · rw [if_pos hpc] at hP
      cases hP
      subst hpc
      obtain ⟨k, ⟨hk, hk1⟩, rfl, rfl, rfl, rfl, rfl, rfl, rfl, rfl, rfl, ha, ⟨b1, b2, b3, b4, b5⟩, hF⟩ := hh
      have ek := wi_on (n := k) (by omega)
      have ekn := wi_onn (n := k) (by omega)
      have en := wi_on (n := rn_n S) (by omega)
      have lo : ∀ c j, c < 476 → ¬ (c = 460 ∧ (j = 46 ∨ j = 66 ∨ j = 70)) → I1 c j = I c j := fun c j d1 d2 => hF _ _ (by omega) (by omega) (by omega) (by omega) (by omega) (by omega) d2
      have i16 : I1 460 16 = Int32.ofNat (rn_n S) := by rw [lo _ _ (by omega) (by omega)]; exact hM.1
      refine ⟨fun w => ?_, fun w => ?_⟩
      · rw [i16, wi_le, en, ek] at w
        have e : k = rn_n S := by omega
        subst e
        exact ⟨3000, by omega, 0, by omega, rfl, rfl, rfl, rfl, rfl, rfl, rfl, rfl, rfl, ha, fun x hx => absurd hx (by omega), hF⟩
      rw [i16, wi_le, en, ek] at w
      have hkl : k < rn_n S := by omega
      have bk := pp_b (m := k) (c := 800) (by omega) (by omega)
      refine ⟨_, wm_t hT rfl, bk, ?_⟩
      have e8 : Int32.ofNat (4000 * p) + Int32.ofNat k = Int32.ofNat (4000 * p + 0 + k) := wq_ad (a := 4000 * p) (by omega)
      have n8 := wi_onn (n := 4000 * p + 0 + k) (by omega)
      refine ⟨_, wm_t hT rfl, by rw [e8]; exact pp_b (c := 8000) (by omega) (by omega), by decide, ?_⟩
      rw [e8, n8, ekn]
      refine ⟨20000 - 10 * k - 1, by omega, k, ⟨hk, fun _ => hkl⟩, rfl, rfl, rfl, rfl, rfl, rfl, rfl, rfl, rfl, fun y hy => ?_, ⟨fun z => ?_, fun z => absurd z (by omega), fun z => absurd z (by omega), fun z => absurd z (by omega), fun z => absurd z (by omega)⟩, fun c j d1 d2 d3 d4 d5 d6 d7 => ?_⟩
      · obtain ⟨a1, a2, a3, a4, a5, a6⟩ := ha y hy
        refine ⟨?_, ?_, ?_, ?_, ?_, ?_⟩
        · rw [wv_u_no _ _ (by omega)]; exact a1
        · rw [wv_u_no _ _ (by omega)]; exact a2
        · rw [wv_u_no _ _ (by omega)]; exact a3
        · rw [wv_u_no _ _ (by omega)]; exact a4
        · rw [wv_u_no _ _ (by omega)]; exact a5
        · rw [wv_u_no _ _ (by omega)]; exact a6
      · rw [wv_u_at]; exact lo _ _ (by omega) (by omega)
      · rw [wv_u_no _ _ (by omega)]; exact hF c j d1 d2 d3 d4 d5 d6 d7
    rw [if_neg hpc] at hP
    clear hpc
    by_cases hpc : pc = 34
    · rw [if_pos hpc] at hP
      cases hP
      subst hpc
      obtain ⟨k, ⟨hk, hk1⟩, rfl, rfl, rfl, rfl, rfl, rfl, rfl, rfl, rfl, ha, ⟨b1, b2, b3, b4, b5⟩, hF⟩ := hh
      have ek := wi_on (n := k) (by omega)
      have ekn := wi_onn (n := k) (by omega)
      have en := wi_on (n := rn_n S) (by omega)
      have lo : ∀ c j, c < 476 → ¬ (c = 460 ∧ (j = 46 ∨ j = 66 ∨ j = 70)) → I1 c j = I c j := fun c j d1 d2 => hF _ _ (by omega) (by omega) (by omega) (by omega) (by omega) (by omega) d2
      have hkl := hk1 (by omega)
      have bk := pp_b (m := k) (c := 800) (by omega) (by omega)
      refine ⟨_, wm_t hT rfl, bk, ?_⟩
      have e8 : Int32.ofNat (4000 * p) + (Int16.ofInt 800).toInt32 + Int32.ofNat k = Int32.ofNat (4000 * p + 800 + k) := (congrArg (· + Int32.ofNat k) (wq_ad (a := 4000 * p) (b := 800) (by omega))).trans (wq_ad (by omega))
      have n8 := wi_onn (n := 4000 * p + 800 + k) (by omega)
      refine ⟨_, wm_t hT rfl, by rw [e8]; exact pp_b (c := 8000) (by omega) (by omega), by decide, ?_⟩
      rw [e8, n8, ekn]
      refine ⟨20000 - 10 * k - 2, by omega, k, ⟨hk, fun _ => hkl⟩, rfl, rfl, rfl, rfl, rfl, rfl, rfl, rfl, rfl, fun y hy => ?_, ⟨fun z => ?_, fun z => ?_, fun z => absurd z (by omega), fun z => absurd z (by omega), fun z => absurd z (by omega)⟩, fun c j d1 d2 d3 d4 d5 d6 d7 => ?_⟩
      · obtain ⟨a1, a2, a3, a4, a5, a6⟩ := ha y hy
        refine ⟨?_, ?_, ?_, ?_, ?_, ?_⟩
        · rw [wv_u_no _ _ (by omega)]; exact a1
        · rw [wv_u_no _ _ (by omega)]; exact a2
        · rw [wv_u_no _ _ (by omega)]; exact a3
        · rw [wv_u_no _ _ (by omega)]; exact a4
        · rw [wv_u_no _ _ (by omega)]; exact a5
        · rw [wv_u_no _ _ (by omega)]; exact a6
      · rw [wv_u_no _ _ (by omega)]; exact b1 (by omega)
      · rw [wv_u_at]; exact lo _ _ (by omega) (by omega)
      · rw [wv_u_no _ _ (by omega)]; exact hF c j d1 d2 d3 d4 d5 d6 d7
    rw [if_neg hpc] at hP
    clear hpc
    by_cases hpc : pc = 54
    · rw [if_pos hpc] at hP
      cases hP
      subst hpc
      obtain ⟨k, ⟨hk, hk1⟩, rfl, rfl, rfl, rfl, rfl, rfl, rfl, rfl, rfl, ha, ⟨b1, b2, b3, b4, b5⟩, hF⟩ := hh
      have ek := wi_on (n := k) (by omega)
      have ekn := wi_onn (n := k) (by omega)
      have en := wi_on (n := rn_n S) (by omega)
      have lo : ∀ c j, c < 476 → ¬ (c = 460 ∧ (j = 46 ∨ j = 66 ∨ j = 70)) → I1 c j = I c j := fun c j d1 d2 => hF _ _ (by omega) (by omega) (by omega) (by omega) (by omega) (by omega) d2
      have hkl := hk1 (by omega)
      have bk := pp_b (m := k) (c := 800) (by omega) (by omega)
      refine ⟨_, wm_t hT rfl, bk, ?_⟩
      have e8 : Int32.ofNat (4000 * p) + (Int16.ofInt 1600).toInt32 + Int32.ofNat k = Int32.ofNat (4000 * p + 1600 + k) := (congrArg (· + Int32.ofNat k) (wq_ad (a := 4000 * p) (b := 1600) (by omega))).trans (wq_ad (by omega))
      have n8 := wi_onn (n := 4000 * p + 1600 + k) (by omega)
      refine ⟨_, wm_t hT rfl, by rw [e8]; exact pp_b (c := 8000) (by omega) (by omega), by decide, ?_⟩
      rw [e8, n8, ekn]
      refine ⟨20000 - 10 * k - 3, by omega, k, ⟨hk, fun _ => hkl⟩, rfl, rfl, rfl, rfl, rfl, rfl, rfl, rfl, rfl, fun y hy => ?_, ⟨fun z => ?_, fun z => ?_, fun z => ?_, fun z => absurd z (by omega), fun z => absurd z (by omega)⟩, fun c j d1 d2 d3 d4 d5 d6 d7 => ?_⟩
      · obtain ⟨a1, a2, a3, a4, a5, a6⟩ := ha y hy
        refine ⟨?_, ?_, ?_, ?_, ?_, ?_⟩
        · rw [wv_u_no _ _ (by omega)]; exact a1
        · rw [wv_u_no _ _ (by omega)]; exact a2
        · rw [wv_u_no _ _ (by omega)]; exact a3
        · rw [wv_u_no _ _ (by omega)]; exact a4
        · rw [wv_u_no _ _ (by omega)]; exact a5
        · rw [wv_u_no _ _ (by omega)]; exact a6
      · rw [wv_u_no _ _ (by omega)]; exact b1 (by omega)
      · rw [wv_u_no _ _ (by omega)]; exact b2 (by omega)
      · rw [wv_u_at]; exact lo _ _ (by omega) (by omega)
      · rw [wv_u_no _ _ (by omega)]; exact hF c j d1 d2 d3 d4 d5 d6 d7
    rw [if_neg hpc] at hP
    clear hpc
    by_cases hpc : pc = 74
    · rw [if_pos hpc] at hP
      cases hP
      subst hpc
      obtain ⟨k, ⟨hk, hk1⟩, rfl, rfl, rfl, rfl, rfl, rfl, rfl, rfl, rfl, ha, ⟨b1, b2, b3, b4, b5⟩, hF⟩ := hh
      have ek := wi_on (n := k) (by omega)
      have ekn := wi_onn (n := k) (by omega)
      have en := wi_on (n := rn_n S) (by omega)
      have lo : ∀ c j, c < 476 → ¬ (c = 460 ∧ (j = 46 ∨ j = 66 ∨ j = 70)) → I1 c j = I c j := fun c j d1 d2 => hF _ _ (by omega) (by omega) (by omega) (by omega) (by omega) (by omega) d2
      have hkl := hk1 (by omega)
      have bk := pp_b (m := k) (c := 800) (by omega) (by omega)
      refine ⟨_, wm_t hT rfl, bk, ?_⟩
      have e8 : Int32.ofNat (4000 * p) + (Int16.ofInt 2400).toInt32 + Int32.ofNat k = Int32.ofNat (4000 * p + 2400 + k) := (congrArg (· + Int32.ofNat k) (wq_ad (a := 4000 * p) (b := 2400) (by omega))).trans (wq_ad (by omega))
      have n8 := wi_onn (n := 4000 * p + 2400 + k) (by omega)
      refine ⟨_, wm_t hT rfl, by rw [e8]; exact pp_b (c := 8000) (by omega) (by omega), by decide, ?_⟩
      rw [e8, n8, ekn]
      refine ⟨20000 - 10 * k - 4, by omega, k, ⟨hk, fun _ => hkl⟩, rfl, rfl, rfl, rfl, rfl, rfl, rfl, rfl, rfl, fun y hy => ?_, ⟨fun z => ?_, fun z => ?_, fun z => ?_, fun z => ?_, fun z => absurd z (by omega)⟩, fun c j d1 d2 d3 d4 d5 d6 d7 => ?_⟩
      · obtain ⟨a1, a2, a3, a4, a5, a6⟩ := ha y hy
        refine ⟨?_, ?_, ?_, ?_, ?_, ?_⟩
        · rw [wv_u_no _ _ (by omega)]; exact a1
        · rw [wv_u_no _ _ (by omega)]; exact a2
        · rw [wv_u_no _ _ (by omega)]; exact a3
        · rw [wv_u_no _ _ (by omega)]; exact a4
        · rw [wv_u_no _ _ (by omega)]; exact a5
        · rw [wv_u_no _ _ (by omega)]; exact a6
      · rw [wv_u_no _ _ (by omega)]; exact b1 (by omega)
      · rw [wv_u_no _ _ (by omega)]; exact b2 (by omega)
      · rw [wv_u_no _ _ (by omega)]; exact b3 (by omega)
      · rw [wv_u_at]; exact lo _ _ (by omega) (by omega)
      · rw [wv_u_no _ _ (by omega)]; exact hF c j d1 d2 d3 d4 d5 d6 d7
    rw [if_neg hpc] at hP
    clear hpc
    by_cases hpc : pc = 94
    · rw [if_pos hpc] at hP
      cases hP
      subst hpc
      obtain ⟨k, ⟨hk, hk1⟩, rfl, rfl, rfl, rfl, rfl, rfl, rfl, rfl, rfl, ha, ⟨b1, b2, b3, b4, b5⟩, hF⟩ := hh
      have ek := wi_on (n := k) (by omega)
      have ekn := wi_onn (n := k) (by omega)
      have en := wi_on (n := rn_n S) (by omega)
      have lo : ∀ c j, c < 476 → ¬ (c = 460 ∧ (j = 46 ∨ j = 66 ∨ j = 70)) → I1 c j = I c j := fun c j d1 d2 => hF _ _ (by omega) (by omega) (by omega) (by omega) (by omega) (by omega) d2
      have hkl := hk1 (by omega)
      have bk := pp_b (m := k) (c := 800) (by omega) (by omega)
      refine ⟨_, wm_t hT rfl, bk, ?_⟩
      have e8 : Int32.ofNat (4000 * p) + (Int16.ofInt 3200).toInt32 + Int32.ofNat k = Int32.ofNat (4000 * p + 3200 + k) := (congrArg (· + Int32.ofNat k) (wq_ad (a := 4000 * p) (b := 3200) (by omega))).trans (wq_ad (by omega))
      have n8 := wi_onn (n := 4000 * p + 3200 + k) (by omega)
      refine ⟨_, wm_t hT rfl, by rw [e8]; exact pp_b (c := 8000) (by omega) (by omega), by decide, ?_⟩
      rw [e8, n8, ekn]
      refine ⟨20000 - 10 * k - 5, by omega, k, ⟨hk, fun _ => hkl⟩, rfl, rfl, rfl, rfl, rfl, rfl, rfl, rfl, rfl, fun y hy => ?_, ⟨fun z => ?_, fun z => ?_, fun z => ?_, fun z => ?_, fun z => ?_⟩, fun c j d1 d2 d3 d4 d5 d6 d7 => ?_⟩
      · obtain ⟨a1, a2, a3, a4, a5, a6⟩ := ha y hy
        refine ⟨?_, ?_, ?_, ?_, ?_, ?_⟩
        · rw [wv_u_no _ _ (by omega)]; exact a1
        · rw [wv_u_no _ _ (by omega)]; exact a2
        · rw [wv_u_no _ _ (by omega)]; exact a3
        · rw [wv_u_no _ _ (by omega)]; exact a4
        · rw [wv_u_no _ _ (by omega)]; exact a5
        · rw [wv_u_no _ _ (by omega)]; exact a6
      · rw [wv_u_no _ _ (by omega)]; exact b1 (by omega)
      · rw [wv_u_no _ _ (by omega)]; exact b2 (by omega)
      · rw [wv_u_no _ _ (by omega)]; exact b3 (by omega)
      · rw [wv_u_no _ _ (by omega)]; exact b4 (by omega)
      · rw [wv_u_at]; exact lo _ _ (by omega) (by omega)
      · rw [wv_u_no _ _ (by omega)]; exact hF c j d1 d2 d3 d4 d5 d6 d7
    rw [if_neg hpc] at hP
    clear hpc
    by_cases hpc : pc = 114
    · rw [if_pos hpc] at hP
      cases hP
      subst hpc
      obtain ⟨k, ⟨hk, hk1⟩, rfl, rfl, rfl, rfl, rfl, rfl, rfl, rfl, rfl, ha, ⟨b1, b2, b3, b4, b5⟩, hF⟩ := hh
      have ek := wi_on (n := k) (by omega)
      have ekn := wi_onn (n := k) (by omega)
      have en := wi_on (n := rn_n S) (by omega)
      have lo : ∀ c j, c < 476 → ¬ (c = 460 ∧ (j = 46 ∨ j = 66 ∨ j = 70)) → I1 c j = I c j := fun c j d1 d2 => hF _ _ (by omega) (by omega) (by omega) (by omega) (by omega) (by omega) d2
      have hkl := hk1 (by omega)
      have bk := pp_b (m := k) (c := 800) (by omega) (by omega)
      refine ⟨_, wm_t hT rfl, bk, ?_⟩
      have e8 : (Int16.ofInt 800).toInt32 * Int32.ofNat p + Int32.ofNat k = Int32.ofNat (800 * p + k) := (congrArg (· + Int32.ofNat k) (wq_mu (a := 800) (b := p) (by omega) (by omega) (by omega))).trans (wq_ad (by omega))
      have n8 := wi_onn (n := 800 * p + k) (by omega)
      refine ⟨_, wm_t hT rfl, by rw [e8]; exact pp_b (c := 1600) (by omega) (by omega), by decide, ?_⟩
      rw [e8, n8, ekn]
      refine ⟨20000 - 10 * (k + 1) - 0, by omega, k + 1, ⟨by omega, fun z => absurd z (by omega)⟩, rfl, ?_, rfl, rfl, rfl, rfl, rfl, rfl, rfl, fun y hy => ?_, ⟨fun z => absurd z (by omega), fun z => absurd z (by omega), fun z => absurd z (by omega), fun z => absurd z (by omega), fun z => absurd z (by omega)⟩, fun c j d1 d2 d3 d4 d5 d6 d7 => ?_⟩
      · unfold kp_lv
        rw [← wq_4s k]
        rfl
      · by_cases e : y = k
        · subst e
          refine ⟨?_, ?_, ?_, ?_, ?_, ?_⟩
          · rw [wv_u_no _ _ (by omega)]; exact b1 (by omega)
          · rw [wv_u_no _ _ (by omega)]; exact b2 (by omega)
          · rw [wv_u_no _ _ (by omega)]; exact b3 (by omega)
          · rw [wv_u_no _ _ (by omega)]; exact b4 (by omega)
          · rw [wv_u_no _ _ (by omega)]; exact b5 (by omega)
          · rw [wv_u_at]; exact lo _ _ (by omega) (by omega)
        · obtain ⟨a1, a2, a3, a4, a5, a6⟩ := ha y (by omega)
          refine ⟨?_, ?_, ?_, ?_, ?_, ?_⟩
          · rw [wv_u_no _ _ (by omega)]; exact a1
          · rw [wv_u_no _ _ (by omega)]; exact a2
          · rw [wv_u_no _ _ (by omega)]; exact a3
          · rw [wv_u_no _ _ (by omega)]; exact a4
          · rw [wv_u_no _ _ (by omega)]; exact a5
          · rw [wv_u_no _ _ (by omega)]; exact a6
      · rw [wv_u_no _ _ (by omega)]; exact hF c j d1 d2 d3 d4 d5 d6 d7
    rw [if_neg hpc] at hP
    clear hpc
    by_cases hpc : pc = 143
    · rw [if_pos hpc] at hP
      cases hP
      subst hpc
      obtain ⟨k, hk, rfl, rfl, rfl, rfl, rfl, rfl, rfl, rfl, rfl, ha, ht, hF⟩ := hh
      have ek := wi_on (n := k) (by omega)
      have ekn := wi_onn (n := k) (by omega)
      have em := wi_on (n := m0) (by omega)
      have lo : ∀ c j, c < 476 → ¬ (c = 460 ∧ (j = 46 ∨ j = 66 ∨ j = 70)) → I1 c j = I c j := fun c j d1 d2 => hF _ _ (by omega) (by omega) (by omega) (by omega) (by omega) (by omega) d2
      have i18 : I1 460 18 = Int32.ofNat m0 := by rw [lo _ _ (by omega) (by omega)]; exact hM.2.1
      have i16 : I1 460 16 = Int32.ofNat (rn_n S) := by rw [lo _ _ (by omega) (by omega)]; exact hM.1
      have bp := pp_b (m := p) (c := 2) (by omega) (by omega)
      refine ⟨fun w => ?_, fun w => ?_⟩
      · rw [i18, wi_le, em, ek] at w
        have e : k = m0 := by omega
        subst e
        refine ⟨_, wm_t hT rfl, bp, by decide, ?_⟩
        rw [epn]
        refine ⟨1000 - 1, by omega, rfl, rfl, rfl, rfl, rfl, rfl, rfl, rfl, rfl, fun y hy => ?_, fun y hy => ?_, ⟨fun z => ?_, fun z => absurd z (by omega), fun z => absurd z (by omega), fun z => absurd z (by omega)⟩, fun c j d1 d2 d3 d4 d5 d6 d7 => ?_⟩
        · obtain ⟨a1, a2, a3, a4, a5, a6⟩ := ha y hy
          refine ⟨?_, ?_, ?_, ?_, ?_, ?_⟩
          · rw [wv_u_no _ _ (by omega)]; exact a1
          · rw [wv_u_no _ _ (by omega)]; exact a2
          · rw [wv_u_no _ _ (by omega)]; exact a3
          · rw [wv_u_no _ _ (by omega)]; exact a4
          · rw [wv_u_no _ _ (by omega)]; exact a5
          · rw [wv_u_no _ _ (by omega)]; exact a6
        · rw [wv_u_no _ _ (by omega)]; exact ht y hy
        · rw [wv_u_at]; exact i16
        · rw [wv_u_no _ _ (by omega)]; exact hF c j d1 d2 d3 d4 d5 d6 d7
      · rw [i18, wi_le, em, ek] at w
        have hkl : k < m0 := by omega
        have e8 : (Int16.ofInt 420).toInt32 * Int32.ofNat p + Int32.ofNat k = Int32.ofNat (420 * p + k) := (congrArg (· + Int32.ofNat k) (wq_mu (a := 420) (b := p) (by omega) (by omega) (by omega))).trans (wq_ad (by omega))
        have n8 := wi_onn (n := 420 * p + k) (by omega)
        refine ⟨_, wm_t hT rfl, pp_b (m := k) (c := 420) (by omega) (by omega), ?_⟩
        refine ⟨_, wm_t hT rfl, by rw [e8]; exact pp_b (c := 840) (by omega) (by omega), by decide, ?_⟩
        rw [e8, n8, ekn]
        refine ⟨3000 - (k + 1), by omega, k + 1, by omega, rfl, ?_, rfl, rfl, rfl, rfl, rfl, rfl, rfl, fun y hy => ?_, fun y hy => ?_, fun c j d1 d2 d3 d4 d5 d6 d7 => ?_⟩
        · unfold kp_lv
          rw [← wq_4s k]
          rfl
        · obtain ⟨a1, a2, a3, a4, a5, a6⟩ := ha y hy
          refine ⟨?_, ?_, ?_, ?_, ?_, ?_⟩
          · rw [wv_u_no _ _ (by omega)]; exact a1
          · rw [wv_u_no _ _ (by omega)]; exact a2
          · rw [wv_u_no _ _ (by omega)]; exact a3
          · rw [wv_u_no _ _ (by omega)]; exact a4
          · rw [wv_u_no _ _ (by omega)]; exact a5
          · rw [wv_u_no _ _ (by omega)]; exact a6
        · by_cases e : y = k
          · rw [e, wv_u_at]; exact lo _ _ (by omega) (by omega)
          · rw [wv_u_no _ _ (by omega)]; exact ht y (by omega)
        · rw [wv_u_no _ _ (by omega)]; exact hF c j d1 d2 d3 d4 d5 d6 d7
    rw [if_neg hpc] at hP
    clear hpc
    by_cases hpc : pc = 188
    · rw [if_pos hpc] at hP
      cases hP
      subst hpc
      obtain ⟨rfl, rfl, rfl, rfl, rfl, rfl, rfl, rfl, rfl, ha, ht, ⟨c1, c2, c3, c4⟩, hF⟩ := hh
      have lo : ∀ c j, c < 476 → ¬ (c = 460 ∧ (j = 46 ∨ j = 66 ∨ j = 70)) → I1 c j = I c j := fun c j d1 d2 => hF _ _ (by omega) (by omega) (by omega) (by omega) (by omega) (by omega) d2
      have bp := pp_b (m := p) (c := 2) (by omega) (by omega)
      have i18 : I1 460 18 = Int32.ofNat m0 := by rw [lo _ _ (by omega) (by omega)]; exact hM.2.1
      refine ⟨_, wm_t hT rfl, bp, by decide, ?_⟩
      rw [epn]
      refine ⟨1000 - 2, by omega, rfl, rfl, rfl, rfl, rfl, rfl, rfl, rfl, rfl, fun y hy => ?_, fun y hy => ?_, ⟨fun z => ?_, fun z => ?_, fun z => absurd z (by omega), fun z => absurd z (by omega)⟩, fun c j d1 d2 d3 d4 d5 d6 d7 => ?_⟩
      · obtain ⟨a1, a2, a3, a4, a5, a6⟩ := ha y hy
        refine ⟨?_, ?_, ?_, ?_, ?_, ?_⟩
        · rw [wv_u_no _ _ (by omega)]; exact a1
        · rw [wv_u_no _ _ (by omega)]; exact a2
        · rw [wv_u_no _ _ (by omega)]; exact a3
        · rw [wv_u_no _ _ (by omega)]; exact a4
        · rw [wv_u_no _ _ (by omega)]; exact a5
        · rw [wv_u_no _ _ (by omega)]; exact a6
      · rw [wv_u_no _ _ (by omega)]; exact ht y hy
      · rw [wv_u_no _ _ (by omega)]; exact c1 (by omega)
      · rw [wv_u_at]; exact i18
      · rw [wv_u_no _ _ (by omega)]; exact hF c j d1 d2 d3 d4 d5 d6 d7
    rw [if_neg hpc] at hP
    clear hpc
    by_cases hpc : pc = 198
    · rw [if_pos hpc] at hP
      cases hP
      subst hpc
      obtain ⟨rfl, rfl, rfl, rfl, rfl, rfl, rfl, rfl, rfl, ha, ht, ⟨c1, c2, c3, c4⟩, hF⟩ := hh
      have lo : ∀ c j, c < 476 → ¬ (c = 460 ∧ (j = 46 ∨ j = 66 ∨ j = 70)) → I1 c j = I c j := fun c j d1 d2 => hF _ _ (by omega) (by omega) (by omega) (by omega) (by omega) (by omega) d2
      have bp := pp_b (m := p) (c := 2) (by omega) (by omega)
      refine ⟨_, wm_t hT rfl, bp, by decide, ?_⟩
      rw [epn]
      refine ⟨1000 - 3, by omega, rfl, rfl, rfl, rfl, rfl, rfl, rfl, rfl, rfl, fun y hy => ?_, fun y hy => ?_, ⟨fun z => ?_, fun z => ?_, fun z => ?_, fun z => absurd z (by omega)⟩, fun c j d1 d2 d3 d4 d5 d6 d7 => ?_⟩
      · obtain ⟨a1, a2, a3, a4, a5, a6⟩ := ha y hy
        refine ⟨?_, ?_, ?_, ?_, ?_, ?_⟩
        · rw [wv_u_no _ _ (by omega)]; exact a1
        · rw [wv_u_no _ _ (by omega)]; exact a2
        · rw [wv_u_no _ _ (by omega)]; exact a3
        · rw [wv_u_no _ _ (by omega)]; exact a4
        · rw [wv_u_no _ _ (by omega)]; exact a5
        · rw [wv_u_no _ _ (by omega)]; exact a6
      · rw [wv_u_no _ _ (by omega)]; exact ht y hy
      · rw [wv_u_no _ _ (by omega)]; exact c1 (by omega)
      · rw [wv_u_no _ _ (by omega)]; exact c2 (by omega)
      · rw [wv_u_at]
      · rw [wv_u_no _ _ (by omega)]; exact hF c j d1 d2 d3 d4 d5 d6 d7
    rw [if_neg hpc] at hP
    clear hpc
    by_cases hpc : pc = 205
    · rw [if_pos hpc] at hP
      cases hP
      subst hpc
      obtain ⟨rfl, rfl, rfl, rfl, rfl, rfl, rfl, rfl, rfl, ha, ht, ⟨c1, c2, c3, c4⟩, hF⟩ := hh
      have lo : ∀ c j, c < 476 → ¬ (c = 460 ∧ (j = 46 ∨ j = 66 ∨ j = 70)) → I1 c j = I c j := fun c j d1 d2 => hF _ _ (by omega) (by omega) (by omega) (by omega) (by omega) (by omega) d2
      have bp := pp_b (m := p) (c := 2) (by omega) (by omega)
      refine ⟨_, wm_t hT rfl, bp, by decide, ?_⟩
      rw [epn]
      refine ⟨1000 - 4, by omega, rfl, rfl, rfl, rfl, rfl, rfl, rfl, rfl, rfl, fun y hy => ?_, fun y hy => ?_, ⟨fun z => ?_, fun z => ?_, fun z => ?_, fun z => ?_⟩, fun c j d1 d2 d3 d4 d5 d6 d7 => ?_⟩
      · obtain ⟨a1, a2, a3, a4, a5, a6⟩ := ha y hy
        refine ⟨?_, ?_, ?_, ?_, ?_, ?_⟩
        · rw [wv_u_no _ _ (by omega)]; exact a1
        · rw [wv_u_no _ _ (by omega)]; exact a2
        · rw [wv_u_no _ _ (by omega)]; exact a3
        · rw [wv_u_no _ _ (by omega)]; exact a4
        · rw [wv_u_no _ _ (by omega)]; exact a5
        · rw [wv_u_no _ _ (by omega)]; exact a6
      · rw [wv_u_no _ _ (by omega)]; exact ht y hy
      · rw [wv_u_no _ _ (by omega)]; exact c1 (by omega)
      · rw [wv_u_no _ _ (by omega)]; exact c2 (by omega)
      · rw [wv_u_no _ _ (by omega)]; exact c3 (by omega)
      · rw [wv_u_at]; exact lo _ _ (by omega) (by omega)
      · rw [wv_u_no _ _ (by omega)]; exact hF c j d1 d2 d3 d4 d5 d6 d7
    rw [if_neg hpc] at hP
    clear hpc
    by_cases hpc : pc = 215
    · rw [if_pos hpc] at hP
      cases hP
      subst hpc
      obtain ⟨rfl, rfl, rfl, rfl, rfl, rfl, rfl, rfl, rfl, ha, ht, ⟨c1, c2, c3, c4⟩, hF⟩ := hh
      have lo : ∀ c j, c < 476 → ¬ (c = 460 ∧ (j = 46 ∨ j = 66 ∨ j = 70)) → I1 c j = I c j := fun c j d1 d2 => hF _ _ (by omega) (by omega) (by omega) (by omega) (by omega) (by omega) d2
      have bp := pp_b (m := p) (c := 2) (by omega) (by omega)
      have kM : pn_M I1 S m0 := pn_M_c hM (fun c j d => lo _ _ (by omega) (by omega))
      refine ⟨S, m0, rfl, hT, kM, hn, hi, hq, hkk, ?_⟩
      have e44 : Int32.ofInt 4 * Int32.ofNat p = Int32.ofNat (4 * p) := wq_mu (a := 4) (by omega) (by omega) (by omega)
      refine ⟨fun w2 => ?_, fun w2 => ?_⟩
      · refine ⟨_, wm_t hT rfl, bp, by decide, ?_⟩
        rw [epn]
        refine ⟨4, by omega, 0, by omega, rfl, ?_, rfl, rfl, rfl, rfl, rfl, rfl, rfl, fun y hy => ?_, fun y hy => ?_, ⟨fun z => ?_, fun z => ?_, fun z => ?_, fun z => ?_⟩, ?_, fun i hi => absurd hi (by omega), fun c j d1 d2 d3 d4 d5 d6 d7 => ?_⟩
        · unfold kp_lv
          rw [show 4 * p + 0 = 4 * p from rfl, ← e44]
          rfl
        · obtain ⟨a1, a2, a3, a4, a5, a6⟩ := ha y hy
          refine ⟨?_, ?_, ?_, ?_, ?_, ?_⟩
          · rw [wv_u_no _ _ (by omega)]; exact a1
          · rw [wv_u_no _ _ (by omega)]; exact a2
          · rw [wv_u_no _ _ (by omega)]; exact a3
          · rw [wv_u_no _ _ (by omega)]; exact a4
          · rw [wv_u_no _ _ (by omega)]; exact a5
          · rw [wv_u_no _ _ (by omega)]; exact a6
        · rw [wv_u_no _ _ (by omega)]; exact ht y hy
        · rw [wv_u_no _ _ (by omega)]; exact c1 z
        · rw [wv_u_no _ _ (by omega)]; exact c2 z
        · rw [wv_u_no _ _ (by omega)]; exact c3 z
        · rw [wv_u_no _ _ (by omega)]; exact c4 z
        · rw [wv_u_at, wb_i_0.mp w2]; rfl
        · rw [wv_u_no _ _ (by omega)]; exact hF c j d1 d2 d3 d4 d5 d6 d7
      · refine ⟨_, wm_t hT rfl, bp, by decide, ?_⟩
        rw [epn]
        refine ⟨4, by omega, 0, by omega, rfl, ?_, rfl, rfl, rfl, rfl, rfl, rfl, rfl, fun y hy => ?_, fun y hy => ?_, ⟨fun z => ?_, fun z => ?_, fun z => ?_, fun z => ?_⟩, ?_, fun i hi => absurd hi (by omega), fun c j d1 d2 d3 d4 d5 d6 d7 => ?_⟩
        · unfold kp_lv
          rw [show 4 * p + 0 = 4 * p from rfl, ← e44]
          rfl
        · obtain ⟨a1, a2, a3, a4, a5, a6⟩ := ha y hy
          refine ⟨?_, ?_, ?_, ?_, ?_, ?_⟩
          · rw [wv_u_no _ _ (by omega)]; exact a1
          · rw [wv_u_no _ _ (by omega)]; exact a2
          · rw [wv_u_no _ _ (by omega)]; exact a3
          · rw [wv_u_no _ _ (by omega)]; exact a4
          · rw [wv_u_no _ _ (by omega)]; exact a5
          · rw [wv_u_no _ _ (by omega)]; exact a6
        · rw [wv_u_no _ _ (by omega)]; exact ht y hy
        · rw [wv_u_no _ _ (by omega)]; exact c1 z
        · rw [wv_u_no _ _ (by omega)]; exact c2 z
        · rw [wv_u_no _ _ (by omega)]; exact c3 z
        · rw [wv_u_no _ _ (by omega)]; exact c4 z
        · rw [wv_u_at, wb_i_1.mp w2]; rfl
        · rw [wv_u_no _ _ (by omega)]; exact hF c j d1 d2 d3 d4 d5 d6 d7
    rw [if_neg hpc] at hP
    clear hpc
    by_cases hpc : pc = 240
    · rw [if_pos hpc] at hP
      cases hP
      subst hpc
      obtain ⟨k, hk, rfl, rfl, rfl, rfl, rfl, rfl, rfl, rfl, rfl, ha, ht, hcc, h479, hc, hF⟩ := hh
      have h480 := hcc.1 (by omega)
      have h481 := hcc.2.1 (by omega)
      have h482 := hcc.2.2.1 (by omega)
      have h483 := hcc.2.2.2 (by omega)
      have e44 : Int32.ofInt 4 * Int32.ofNat p = Int32.ofNat (4 * p) := wq_mu (a := 4) (by omega) (by omega) (by omega)
      have e45 : Int32.ofInt 4 * Int32.ofNat p + Int32.ofInt 4 = Int32.ofNat (4 * p + 4) := (congrArg (· + Int32.ofInt 4) e44).trans (wq_ad (b := 4) (by omega))
      have ek := wi_on (n := 4 * p + k) (by omega)
      have ekn := wi_onn (n := 4 * p + k) (by omega)
      have e4 := wi_on (n := 4 * p + 4) (by omega)
      refine ⟨fun w => ?_, fun w => ?_⟩
      · rw [e45, wi_le, e4, ek] at w
        have e : k = 4 := by omega
        subst e
        refine ⟨_, wm_t hT rfl, by decide, by decide, ?_⟩
        refine ⟨_, wm_t hT rfl, by decide, by decide, ?_⟩
        have z0 : (Int32.ofInt 0).toNatClampNeg = 0 := rfl
        have z1 : (Int32.ofInt 1).toNatClampNeg = 1 := rfl
        rw [z0, z1]
        refine h _ ⟨?_, ?_, fun y hy => ?_⟩ ?_ ?_ ?_ (fun i hi => ?_) ?_ ?_ ?_ ?_ ?_ (fun c j d1 d2 d3 d4 d5 d6 d7 => ?_)
        · show wv_u (wv_u (wv_u (wv_u (wv_u I1 460 46 (Int32.ofInt 0)) 490 0 (Int32.ofInt 0)) 490 1 (Int32.ofInt 0)) 460 66 (Int32.ofInt 0)) 460 70 (Int32.ofInt 0) 480 p = _
          rw [wv_u_no _ _ (by omega), wv_u_no _ _ (by omega), wv_u_no _ _ (by omega), wv_u_no _ _ (by omega), wv_u_no _ _ (by omega)]; exact h480
        · show wv_u (wv_u (wv_u (wv_u (wv_u I1 460 46 (Int32.ofInt 0)) 490 0 (Int32.ofInt 0)) 490 1 (Int32.ofInt 0)) 460 66 (Int32.ofInt 0)) 460 70 (Int32.ofInt 0) 481 p = _
          rw [wv_u_no _ _ (by omega), wv_u_no _ _ (by omega), wv_u_no _ _ (by omega), wv_u_no _ _ (by omega), wv_u_no _ _ (by omega)]; exact h481
        · obtain ⟨a1, a2, a3, a4, a5, a6⟩ := ha y hy
          have hi0 : ∀ c j, 476 ≤ c → c ≤ 478 → wv_u (wv_u (wv_u (wv_u (wv_u I1 460 46 (Int32.ofInt 0)) 490 0 (Int32.ofInt 0)) 490 1 (Int32.ofInt 0)) 460 66 (Int32.ofInt 0)) 460 70 (Int32.ofInt 0) c j = I1 c j := fun c j d1 d2 => by
            rw [wv_u_no _ _ (by omega), wv_u_no _ _ (by omega), wv_u_no _ _ (by omega), wv_u_no _ _ (by omega), wv_u_no _ _ (by omega)]
          refine pn_1_c (hM.2.2 y hy) (Nat.le_refl _) (fun c c1 c2 => ?_) (fun j hj => ?_) rfl rfl rfl
          · have hc6 : c = 462 ∨ c = 463 ∨ c = 464 ∨ c = 465 ∨ c = 466 ∨ c = 467 := by omega
            rcases hc6 with rfl | rfl | rfl | rfl | rfl | rfl
            · exact (hi0 476 (4000 * p + 0 + y) (by omega) (by omega)).trans a1
            · exact (hi0 476 (4000 * p + 800 + y) (by omega) (by omega)).trans a2
            · exact (hi0 476 (4000 * p + 1600 + y) (by omega) (by omega)).trans a3
            · exact (hi0 476 (4000 * p + 2400 + y) (by omega) (by omega)).trans a4
            · exact (hi0 476 (4000 * p + 3200 + y) (by omega) (by omega)).trans a5
            · exact (hi0 478 (800 * p + y) (by omega) (by omega)).trans a6
          · exact (hi0 477 (420 * p + j) (by omega) (by omega)).trans (ht j hj)
        · rw [wv_u_no _ _ (by omega), wv_u_no _ _ (by omega), wv_u_no _ _ (by omega), wv_u_no _ _ (by omega), wv_u_no _ _ (by omega)]; exact h482
        · rw [wv_u_no _ _ (by omega), wv_u_no _ _ (by omega), wv_u_no _ _ (by omega), wv_u_no _ _ (by omega), wv_u_no _ _ (by omega)]; exact h483
        · rw [wv_u_no _ _ (by omega), wv_u_no _ _ (by omega), wv_u_no _ _ (by omega), wv_u_no _ _ (by omega), wv_u_no _ _ (by omega)]; exact h479
        · rw [wv_u_no _ _ (by omega), wv_u_no _ _ (by omega), wv_u_no _ _ (by omega), wv_u_no _ _ (by omega), wv_u_no _ _ (by omega)]; exact hc i hi
        · rw [wv_u_no _ _ (by omega), wv_u_no _ _ (by omega), wv_u_no _ _ (by omega), wv_u_no _ _ (by omega), wv_u_at]; rfl
        · rw [wv_u_no _ _ (by omega), wv_u_no _ _ (by omega), wv_u_no _ _ (by omega), wv_u_at]; rfl
        · rw [wv_u_no _ _ (by omega), wv_u_no _ _ (by omega), wv_u_at]; rfl
        · rw [wv_u_no _ _ (by omega), wv_u_at]; rfl
        · rw [wv_u_at]; rfl
        · rw [wv_u_no _ _ (by omega), wv_u_no _ _ (by omega), wv_u_no _ _ (by omega), wv_u_no _ _ (by omega), wv_u_no _ _ (by omega)]
          exact hF c j d1 d2 d3 d4 d5 d6 d7
      · rw [e45, wi_le, e4, ek] at w
        have hkl : k < 4 := by omega
        refine ⟨_, wm_t hT rfl, pp_b (m := 4 * p + k) (c := 8) (by omega) (by omega), by decide, ?_⟩
        rw [ekn]
        refine ⟨4 - (k + 1), by omega, k + 1, by omega, rfl, ?_, rfl, rfl, rfl, rfl, rfl, rfl, rfl, fun y hy => ?_, fun y hy => ?_, ⟨fun _ => ?_, fun _ => ?_, fun _ => ?_, fun _ => ?_⟩, ?_, fun i hi => ?_, fun c j d1 d2 d3 d4 d5 d6 d7 => ?_⟩
        · unfold kp_lv
          rw [show 4 * p + (k + 1) = (4 * p + k) + 1 from rfl, ← wq_4s (4 * p + k)]
          rfl
        · obtain ⟨a1, a2, a3, a4, a5, a6⟩ := ha y hy
          refine ⟨?_, ?_, ?_, ?_, ?_, ?_⟩
          · rw [wv_u_no _ _ (by omega)]; exact a1
          · rw [wv_u_no _ _ (by omega)]; exact a2
          · rw [wv_u_no _ _ (by omega)]; exact a3
          · rw [wv_u_no _ _ (by omega)]; exact a4
          · rw [wv_u_no _ _ (by omega)]; exact a5
          · rw [wv_u_no _ _ (by omega)]; exact a6
        · rw [wv_u_no _ _ (by omega)]; exact ht y hy
        · rw [wv_u_no _ _ (by omega)]; exact h480
        · rw [wv_u_no _ _ (by omega)]; exact h481
        · rw [wv_u_no _ _ (by omega)]; exact h482
        · rw [wv_u_no _ _ (by omega)]; exact h483
        · rw [wv_u_no _ _ (by omega)]; exact h479
        · by_cases e : i = k
          · rw [e, wv_u_at]; rfl
          · rw [wv_u_no _ _ (by omega)]; exact hc i (by omega)
        · rw [wv_u_no _ _ (by omega)]; exact hF c j d1 d2 d3 d4 d5 d6 d7
    rw [if_neg hpc] at hP
    clear hpc
    cases hP
