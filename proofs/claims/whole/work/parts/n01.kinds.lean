/-! ===== both: classes by their kinds ===== -/
/-- classes below n of kinds a .. b; the x-th of them -/
def kk_in (kd : Nat → Nat) (a b c : Nat) : Prop := a ≤ kd c ∧ kd c ≤ b
def kk_n (kd : Nat → Nat) (a b : Nat) : Nat → Nat
  | 0 => 0
  | c + 1 => kk_n kd a b c + (if a ≤ kd c ∧ kd c ≤ b then 1 else 0)
theorem kk_n_y {kd : Nat → Nat} {a b c : Nat} (h : a ≤ kd c ∧ kd c ≤ b) : kk_n kd a b (c + 1) = kk_n kd a b c + 1 := by
  show kk_n kd a b c + (if a ≤ kd c ∧ kd c ≤ b then 1 else 0) = _
  rw [if_pos h]
theorem kk_n_n {kd : Nat → Nat} {a b c : Nat} (h : ¬ (a ≤ kd c ∧ kd c ≤ b)) : kk_n kd a b (c + 1) = kk_n kd a b c := by
  show kk_n kd a b c + (if a ≤ kd c ∧ kd c ≤ b then 1 else 0) = _
  rw [if_neg h]
  rfl
theorem kk_n_le {kd : Nat → Nat} {a b : Nat} : ∀ c, kk_n kd a b c ≤ c
  | 0 => Nat.le_refl _
  | c + 1 => by
    have := kk_n_le (kd := kd) (a := a) (b := b) c
    show kk_n kd a b c + (if a ≤ kd c ∧ kd c ≤ b then 1 else 0) ≤ c + 1
    split <;> omega
theorem kk_n_c {kd kd2 : Nat → Nat} {a b : Nat} : ∀ K, (∀ c, c < K → kd c = kd2 c) → kk_n kd a b K = kk_n kd2 a b K
  | 0, _ => rfl
  | K + 1, h => by
    show kk_n kd a b K + (if a ≤ kd K ∧ kd K ≤ b then 1 else 0) = kk_n kd2 a b K + (if a ≤ kd2 K ∧ kd2 K ≤ b then 1 else 0)
    rw [kk_n_c K (fun c hc => h c (by omega)), h K (by omega)]
def kk_x (kd : Nat → Nat) (a b x c : Nat) : Prop := (a ≤ kd c ∧ kd c ≤ b) ∧ kk_n kd a b c = x
def kk_l30 (E a b m c : Nat) : List (Option Value) := [some (.ref E), some (.int (Int32.ofNat a)), some (.int (Int32.ofNat b)), some (.int (Int32.ofNat m)), some (.int (Int32.ofNat c)), none, none, none]
def kk_h230 (E a b K : Nat) (kd : Nat → Nat) (T : wv_T) (N : Nat) (I : Nat → Nat → Int32) (L : Nat → Nat → Int64) (R : Nat → Nat → Option Nat) : Nat → Option (Nat → wv_P) := fun pc =>
  if pc = 5 then some (fun mm lv st T1 N1 I1 L1 R1 nc ns => ∃ c : Nat, lv = kk_l30 E a b (kk_n kd a b c) c ∧ st = [] ∧ T1 = T ∧ N1 = N ∧ R1 = R ∧ nc = 0 ∧ ns = 0 ∧ I1 = I ∧ L1 = L ∧ c ≤ K ∧ mm = K - c)
  else none
def kk_c230 : wv_c1 := fun as T N I L R q => ∃ (E B g K a b : Nat) (A : nt_A) (mv : Nat → Nat → Nat) (kd : Nat → Nat), as = [.ref E, .int (Int32.ofNat a), .int (Int32.ofNat b)] ∧ kc_D T R E ∧ kc_r E B g A I K mv kd ∧ a ≤ 3 ∧ b ≤ 3 ∧ q (.inl (some (.int (Int32.ofNat (kk_n kd a b K))))) T N I L R 0 0
set_option maxRecDepth 100000 in
theorem wM_230 : ∃ cb ci np, pt_mt 230 = some (10, cb, 5, false, some .int, ci, np) := ⟨_, _, _, rfl⟩
set_option maxRecDepth 100000 in
set_option maxHeartbeats 4000000 in
theorem kk_countKinds {sc : pt_Sc} {d : Nat} : wv_C wm_fx sc (d + 1) 230 kk_c230 := by
  rintro as T N I L R q ⟨E, B, g, K, a, b, A, mv, kd, rfl, ⟨hE, r0, r1, r2, r3, t1, t2, t3, t4, hb⟩, hr, ha3, hb3, h⟩ w0 HR
  obtain ⟨cb, ci, np, hm⟩ := wM_230
  refine wv_meth (hh := none) rfl (sp := fun _ _ _ _ _ _ _ _ => False) (hd := kk_h230 E a b K kd T N I L R) (n := 300) (n1 := 300) hm zc_230 rfl (fun k as T N I L R q h => by cases h) ?_ ?_ HR
  · exact ⟨_, 0, rfl, rfl, rfl, rfl, rfl, rfl, rfl, rfl, rfl, Nat.zero_le _, rfl⟩
  · intro pc P hP m lv st T1 N1 I1 L1 R1 nc ns hh
    obtain ⟨hK, _, _, h8, hkd, _⟩ := hr
    have ea := wi_on (n := a) (by omega)
    have eb := wi_on (n := b) (by omega)
    have eK := wi_on (n := K) (by omega)
    unfold kk_h230 at hP
    by_cases p5 : pc = 5
    · rw [if_pos p5] at hP
      cases hP
      subst p5
      obtain ⟨c, rfl, rfl, rfl, rfl, rfl, rfl, rfl, rfl, rfl, hc, rfl⟩ := hh
      have ec := wi_on (n := c) (by omega)
      have ecn := wi_onn (n := c) (by omega)
      refine ⟨hE, fun w => ?_, fun w => ?_⟩
      · rw [h8, wi_le, eK, ec] at w
        have e : c = K := by omega
        subst e
        exact h
      · rw [h8, wi_le, eK, ec] at w
        obtain ⟨k1, k2⟩ := hkd c (by omega)
        have ek := wi_on (n := kd c) (by omega)
        have el : ∀ m : Nat, kk_l30 E a b m (c + 1) = [some (.ref E), some (.int (Int32.ofNat a)), some (.int (Int32.ofNat b)), some (.int (Int32.ofNat m)), some (.int (Int32.ofNat c + Int32.ofInt 1)), none, none, none] := fun m => by
          rw [wq_4s]
          rfl
        refine ⟨hE, _, r1, _, t2, pp_b (c := 66) (by omega) (by omega), ?_⟩
        rw [ecn, k1]
        refine ⟨fun w1 => ?_, fun w1 => ?_⟩
        · rw [wi_lt, ek, ea] at w1
          refine ⟨K - (c + 1), by omega, c + 1, ?_, rfl, rfl, rfl, rfl, rfl, rfl, rfl, rfl, by omega, rfl⟩
          rw [kk_n_n (by omega), el, show Int32.ofNat (kk_n kd a b c) + Int32.ofInt 0 = Int32.ofNat (kk_n kd a b c) from Int32.add_zero _]
          rfl
        rw [wi_lt, ek, ea] at w1
        refine ⟨hE, _, r1, _, t2, pp_b (c := 66) (by omega) (by omega), ?_⟩
        rw [ecn, k1]
        refine ⟨fun w2 => ?_, fun w2 => ?_⟩
        · rw [wi_lt, ek, eb] at w2
          refine ⟨K - (c + 1), by omega, c + 1, ?_, rfl, rfl, rfl, rfl, rfl, rfl, rfl, rfl, by omega, rfl⟩
          rw [kk_n_n (by omega), el, show Int32.ofNat (kk_n kd a b c) + Int32.ofInt 0 = Int32.ofNat (kk_n kd a b c) from Int32.add_zero _]
          rfl
        · rw [wi_lt, ek, eb] at w2
          refine ⟨K - (c + 1), by omega, c + 1, ?_, rfl, rfl, rfl, rfl, rfl, rfl, rfl, rfl, by omega, rfl⟩
          rw [kk_n_y (by omega), el, ← wq_4s (kk_n kd a b c)]
          rfl
    rw [if_neg p5] at hP
    cases hP
def kk_l37 (E a b x m c : Nat) : List (Option Value) := [some (.ref E), some (.int (Int32.ofNat a)), some (.int (Int32.ofNat b)), some (.int (Int32.ofNat x)), some (.int (Int32.ofNat m)), some (.int (Int32.ofNat c)), none, none, none, none]
def kk_h237 (E a b x K : Nat) (kd : Nat → Nat) (T : wv_T) (N : Nat) (I : Nat → Nat → Int32) (L : Nat → Nat → Int64) (R : Nat → Nat → Option Nat) : Nat → Option (Nat → wv_P) := fun pc =>
  if pc = 6 then some (fun mm lv st T1 N1 I1 L1 R1 nc ns => ∃ c : Nat, lv = kk_l37 E a b x (kk_n kd a b c) c ∧ st = [] ∧ T1 = T ∧ N1 = N ∧ R1 = R ∧ nc = 0 ∧ ns = 0 ∧ I1 = I ∧ L1 = L ∧ c ≤ K ∧ kk_n kd a b c ≤ x ∧ mm = K - c)
  else none
def kk_c237 : wv_c1 := fun as T N I L R q => ∃ (E B g K a b x : Nat) (A : nt_A) (mv : Nat → Nat → Nat) (kd : Nat → Nat), as = [.ref E, .int (Int32.ofNat a), .int (Int32.ofNat b), .int (Int32.ofNat x)] ∧ kc_D T R E ∧ kc_r E B g A I K mv kd ∧ a ≤ 3 ∧ b ≤ 3 ∧ x < 1000 ∧ (∀ c, c < K → kk_x kd a b x c → q (.inl (some (.int (Int32.ofNat c)))) T N I L R 0 0) ∧ (kk_n kd a b K ≤ x → q (.inl (some (.int (Int32.ofInt (-1))))) T N I L R 0 0)
set_option maxRecDepth 100000 in
theorem wM_237 : ∃ cb ci np, pt_mt 237 = some (10, cb, 6, false, some .int, ci, np) := ⟨_, _, _, rfl⟩
set_option maxRecDepth 100000 in
set_option maxHeartbeats 4000000 in
theorem kk_ofKinds {sc : pt_Sc} {d : Nat} : wv_C wm_fx sc (d + 1) 237 kk_c237 := by
  rintro as T N I L R q ⟨E, B, g, K, a, b, x, A, mv, kd, rfl, ⟨hE, r0, r1, r2, r3, t1, t2, t3, t4, hb⟩, hr, ha3, hb3, hx, h1, h2⟩ w0 HR
  obtain ⟨cb, ci, np, hm⟩ := wM_237
  refine wv_meth (hh := none) rfl (sp := fun _ _ _ _ _ _ _ _ => False) (hd := kk_h237 E a b x K kd T N I L R) (n := 300) (n1 := 300) hm zc_237 rfl (fun k as T N I L R q h => by cases h) ?_ ?_ HR
  · exact ⟨_, 0, rfl, rfl, rfl, rfl, rfl, rfl, rfl, rfl, rfl, Nat.zero_le _, Nat.zero_le _, rfl⟩
  · intro pc P hP m lv st T1 N1 I1 L1 R1 nc ns hh
    obtain ⟨hK, _, _, h8, hkd, _⟩ := hr
    have ea := wi_on (n := a) (by omega)
    have eb := wi_on (n := b) (by omega)
    have eK := wi_on (n := K) (by omega)
    have ex := wi_on (n := x) (by omega)
    unfold kk_h237 at hP
    by_cases p6 : pc = 6
    · rw [if_pos p6] at hP
      cases hP
      subst p6
      obtain ⟨c, rfl, rfl, rfl, rfl, rfl, rfl, rfl, rfl, rfl, hc, hcx, rfl⟩ := hh
      have ec := wi_on (n := c) (by omega)
      have ecn := wi_onn (n := c) (by omega)
      have em := wi_on (n := kk_n kd a b c) (by omega)
      refine ⟨hE, fun w => ?_, fun w => ?_⟩
      · rw [h8, wi_le, eK, ec] at w
        have e : c = K := by omega
        subst e
        exact h2 hcx
      · rw [h8, wi_le, eK, ec] at w
        obtain ⟨k1, k2⟩ := hkd c (by omega)
        have ek := wi_on (n := kd c) (by omega)
        refine ⟨hE, _, r1, _, t2, pp_b (c := 66) (by omega) (by omega), ?_⟩
        rw [ecn, k1]
        refine ⟨fun w1 => ?_, fun w1 => ?_⟩
        · rw [wi_lt, ek, ea] at w1
          have en := kk_n_n (kd := kd) (a := a) (b := b) (c := c) (by omega)
          refine ⟨K - (c + 1), by omega, c + 1, ?_, rfl, rfl, rfl, rfl, rfl, rfl, rfl, rfl, by omega, by omega, rfl⟩
          unfold kk_l37
          rw [en, ← wq_4s c]
          rfl
        rw [wi_lt, ek, ea] at w1
        refine ⟨hE, _, r1, _, t2, pp_b (c := 66) (by omega) (by omega), ?_⟩
        rw [ecn, k1]
        refine ⟨fun w2 => ?_, fun w2 => ?_⟩
        · rw [wi_lt, ek, eb] at w2
          have en := kk_n_n (kd := kd) (a := a) (b := b) (c := c) (by omega)
          refine ⟨K - (c + 1), by omega, c + 1, ?_, rfl, rfl, rfl, rfl, rfl, rfl, rfl, rfl, by omega, by omega, rfl⟩
          unfold kk_l37
          rw [en, ← wq_4s c]
          rfl
        rw [wi_lt, ek, eb] at w2
        have en := kk_n_y (kd := kd) (a := a) (b := b) (c := c) (by omega)
        refine ⟨fun w3 => ?_, fun w3 => ?_⟩
        · rw [wi_eq, em, ex] at w3
          refine ⟨K - (c + 1), by omega, c + 1, ?_, rfl, rfl, rfl, rfl, rfl, rfl, rfl, rfl, by omega, by omega, rfl⟩
          unfold kk_l37
          rw [en, ← wq_4s c, ← wq_4s (kk_n kd a b c)]
          rfl
        · rw [wi_eq, em, ex] at w3
          exact h1 c (by omega) ⟨by omega, by omega⟩
    rw [if_neg p6] at hP
    cases hP
def kk_l41 (s a b m c : Nat) (x6 : Option Value) : List (Option Value) := [some (.ref 460), some (.int (Int32.ofNat s)), some (.int (Int32.ofNat a)), some (.int (Int32.ofNat b)), some (.int (Int32.ofNat m)), some (.int (Int32.ofNat c)), x6, none, none, none, none]
def kk_h441 (s a b K : Nat) (kd : Nat → Nat) (T : wv_T) (N : Nat) (I : Nat → Nat → Int32) (L : Nat → Nat → Int64) (R : Nat → Nat → Option Nat) : Nat → Option (Nat → wv_P) := fun pc =>
  if pc = 6 then some (fun mm lv st T1 N1 I1 L1 R1 nc ns => ∃ (c : Nat) (x6 : Option Value), lv = kk_l41 s a b (kk_n kd a b c) c x6 ∧ st = [] ∧ T1 = T ∧ N1 = N ∧ R1 = R ∧ nc = 0 ∧ ns = 0 ∧ I1 = I ∧ L1 = L ∧ c ≤ K ∧ mm = K - c)
  else none
def kk_h449 (s x b K : Nat) (kd : Nat → Nat) (T : wv_T) (N : Nat) (I : Nat → Nat → Int32) (L : Nat → Nat → Int64) (R : Nat → Nat → Option Nat) : Nat → Option (Nat → wv_P) := fun pc =>
  if pc = 6 then some (fun mm lv st T1 N1 I1 L1 R1 nc ns => ∃ (c : Nat) (x6 : Option Value), lv = kk_l41 s x b (x - kk_n kd 2 b c) c x6 ∧ st = [] ∧ T1 = T ∧ N1 = N ∧ R1 = R ∧ nc = 0 ∧ ns = 0 ∧ I1 = I ∧ L1 = L ∧ c ≤ K ∧ kk_n kd 2 b c ≤ x ∧ mm = K - c)
  else none
def kk_c441 : wv_c1 := fun as T N I L R q => ∃ (s K a b : Nat) (mv : Nat → Nat → Nat) (kd : Nat → Nat), as = [.ref 460, .int (Int32.ofNat s), .int (Int32.ofNat a), .int (Int32.ofNat b)] ∧ wm_T T ∧ s < 8 ∧ rk_T s K mv kd I ∧ a ≤ 3 ∧ b ≤ 3 ∧ q (.inl (some (.int (Int32.ofNat (kk_n kd a b K))))) T N I L R 0 0
set_option maxRecDepth 100000 in
theorem wM_441 : ∃ cb ci np, pt_mt 441 = some (32, cb, 7, false, some .int, ci, np) := ⟨_, _, _, rfl⟩
set_option maxRecDepth 100000 in
set_option maxHeartbeats 4000000 in
theorem kk_kindsFrom {sc : pt_Sc} {d : Nat} : wv_C wm_fx sc (d + 1) 441 kk_c441 := by
  rintro as T N I L R q ⟨s, K, a, b, mv, kd, rfl, hT, hs, ⟨h520, hK0, hK, hkd, hmv⟩, ha3, hb3, h⟩ w0 HR
  obtain ⟨cb, ci, np, hm⟩ := wM_441
  refine wv_meth (hh := none) rfl (sp := fun _ _ _ _ _ _ _ _ => False) (hd := kk_h441 s a b K kd T N I L R) (n := 300) (n1 := 300) hm zc_441 rfl (fun k as T N I L R q h => by cases h) ?_ ?_ HR
  · exact ⟨_, 0, none, rfl, rfl, rfl, rfl, rfl, rfl, rfl, rfl, rfl, Nat.zero_le _, rfl⟩
  · intro pc P hP m lv st T1 N1 I1 L1 R1 nc ns hh
    have ea := wi_on (n := a) (by omega)
    have eb := wi_on (n := b) (by omega)
    have eK := wi_on (n := K) (by omega)
    have esn := wi_onn (n := s) (by omega)
    unfold kk_h441 at hP
    by_cases p6 : pc = 6
    · rw [if_pos p6] at hP
      cases hP
      subst p6
      obtain ⟨c, x6, rfl, rfl, rfl, rfl, rfl, rfl, rfl, rfl, rfl, hc, rfl⟩ := hh
      have ec := wi_on (n := c) (by omega)
      refine ⟨_, wm_t hT rfl, pp_b (c := 8) (by omega) (by omega), ?_⟩
      rw [esn, h520]
      refine ⟨fun w => ?_, fun w => ?_⟩
      · rw [wi_le, eK, ec] at w
        have e : c = K := by omega
        subst e
        exact h
      · rw [wi_le, eK, ec] at w
        obtain ⟨k1, k2⟩ := hkd c (by omega)
        have ek := wi_on (n := kd c) (by omega)
        have exn := wi_onn (n := 320 * s + c) (by omega)
        have el : ∀ (m : Nat) (x6 : Option Value), kk_l41 s a b m (c + 1) x6 = [some (.ref 460), some (.int (Int32.ofNat s)), some (.int (Int32.ofNat a)), some (.int (Int32.ofNat b)), some (.int (Int32.ofNat m)), some (.int (Int32.ofNat c + Int32.ofInt 1)), x6, none, none, none, none] := fun m x6 => by
          rw [wq_4s]
          rfl
        refine ⟨_, wm_t hT rfl, by rw [rk_320]; exact pp_b (c := 2560) (by omega) (by omega), ?_⟩
        rw [rk_320, exn, k1]
        refine ⟨fun w1 => ?_, fun w1 => ?_⟩
        · rw [wi_lt, ek, ea] at w1
          refine ⟨K - (c + 1), by omega, c + 1, some (.int (Int32.ofNat (kd c))), ?_, rfl, rfl, rfl, rfl, rfl, rfl, rfl, rfl, by omega, rfl⟩
          rw [kk_n_n (by omega), el, show Int32.ofNat (kk_n kd a b c) + Int32.ofInt 0 = Int32.ofNat (kk_n kd a b c) from Int32.add_zero _]
          rfl
        rw [wi_lt, ek, ea] at w1
        refine ⟨fun w2 => ?_, fun w2 => ?_⟩
        · rw [wi_lt, ek, eb] at w2
          refine ⟨K - (c + 1), by omega, c + 1, some (.int (Int32.ofNat (kd c))), ?_, rfl, rfl, rfl, rfl, rfl, rfl, rfl, rfl, by omega, rfl⟩
          rw [kk_n_n (by omega), el, show Int32.ofNat (kk_n kd a b c) + Int32.ofInt 0 = Int32.ofNat (kk_n kd a b c) from Int32.add_zero _]
          rfl
        · rw [wi_lt, ek, eb] at w2
          refine ⟨K - (c + 1), by omega, c + 1, some (.int (Int32.ofNat (kd c))), ?_, rfl, rfl, rfl, rfl, rfl, rfl, rfl, rfl, by omega, rfl⟩
          rw [kk_n_y (by omega), el, ← wq_4s (kk_n kd a b c)]
          rfl
    rw [if_neg p6] at hP
    cases hP
def kk_c449 : wv_c1 := fun as T N I L R q => ∃ (s K x b : Nat) (mv : Nat → Nat → Nat) (kd : Nat → Nat), as = [.ref 460, .int (Int32.ofNat s), .int (Int32.ofNat x), .int (Int32.ofNat b)] ∧ wm_T T ∧ s < 8 ∧ rk_T s K mv kd I ∧ b ≤ 3 ∧ x < 1000 ∧ (∀ c, c < K → kk_x kd 2 b x c → q (.inl (some (.int (Int32.ofNat c)))) T N I L R 0 0) ∧ (kk_n kd 2 b K ≤ x → q (.inl (some (.int (Int32.ofInt (-1))))) T N I L R 0 0)
set_option maxRecDepth 100000 in
theorem wM_449 : ∃ cb ci np, pt_mt 449 = some (32, cb, 7, false, some .int, ci, np) := ⟨_, _, _, rfl⟩
set_option maxRecDepth 100000 in
set_option maxHeartbeats 4000000 in
theorem kk_classNumber {sc : pt_Sc} {d : Nat} : wv_C wm_fx sc (d + 1) 449 kk_c449 := by
  rintro as T N I L R q ⟨s, K, x, b, mv, kd, rfl, hT, hs, ⟨h520, hK0, hK, hkd, hmv⟩, hb3, hx, h1, h2⟩ w0 HR
  obtain ⟨cb, ci, np, hm⟩ := wM_449
  refine wv_meth (hh := none) rfl (sp := fun _ _ _ _ _ _ _ _ => False) (hd := kk_h449 s x b K kd T N I L R) (n := 300) (n1 := 300) hm zc_449 rfl (fun k as T N I L R q h => by cases h) ?_ ?_ HR
  · exact ⟨_, 0, none, rfl, rfl, rfl, rfl, rfl, rfl, rfl, rfl, rfl, Nat.zero_le _, Nat.zero_le _, rfl⟩
  · intro pc P hP m lv st T1 N1 I1 L1 R1 nc ns hh
    have eb := wi_on (n := b) (by omega)
    have eK := wi_on (n := K) (by omega)
    have esn := wi_onn (n := s) (by omega)
    have e2 : (Int32.ofInt 2).toInt = 2 := rfl
    unfold kk_h449 at hP
    by_cases p6 : pc = 6
    · rw [if_pos p6] at hP
      cases hP
      subst p6
      obtain ⟨c, x6, rfl, rfl, rfl, rfl, rfl, rfl, rfl, rfl, rfl, hc, hcx, rfl⟩ := hh
      have ec := wi_on (n := c) (by omega)
      have em := wi_on (n := x - kk_n kd 2 b c) (by omega)
      refine ⟨_, wm_t hT rfl, pp_b (c := 8) (by omega) (by omega), ?_⟩
      rw [esn, h520]
      refine ⟨fun w => ?_, fun w => ?_⟩
      · rw [wi_le, eK, ec] at w
        have e : c = K := by omega
        subst e
        exact h2 hcx
      · rw [wi_le, eK, ec] at w
        obtain ⟨k1, k2⟩ := hkd c (by omega)
        have ek := wi_on (n := kd c) (by omega)
        have exn := wi_onn (n := 320 * s + c) (by omega)
        refine ⟨_, wm_t hT rfl, by rw [rk_320]; exact pp_b (c := 2560) (by omega) (by omega), ?_⟩
        rw [rk_320, exn, k1]
        refine ⟨fun w1 => ?_, fun w1 => ?_⟩
        · rw [wi_lt, ek, e2] at w1
          have en := kk_n_n (kd := kd) (a := 2) (b := b) (c := c) (by omega)
          refine ⟨K - (c + 1), by omega, c + 1, some (.int (Int32.ofNat (kd c))), ?_, rfl, rfl, rfl, rfl, rfl, rfl, rfl, rfl, by omega, by omega, rfl⟩
          unfold kk_l41
          rw [en, ← wq_4s c]
          rfl
        rw [wi_lt, ek, e2] at w1
        refine ⟨fun w2 => ?_, fun w2 => ?_⟩
        · rw [wi_lt, ek, eb] at w2
          have en := kk_n_n (kd := kd) (a := 2) (b := b) (c := c) (by omega)
          refine ⟨K - (c + 1), by omega, c + 1, some (.int (Int32.ofNat (kd c))), ?_, rfl, rfl, rfl, rfl, rfl, rfl, rfl, rfl, by omega, by omega, rfl⟩
          unfold kk_l41
          rw [en, ← wq_4s c]
          rfl
        rw [wi_lt, ek, eb] at w2
        have en := kk_n_y (kd := kd) (a := 2) (b := b) (c := c) (by omega)
        refine ⟨fun w3 => ?_, fun w3 => ?_⟩
        · have w3 : ¬ Int32.ofNat (x - kk_n kd 2 b c) = 0 := w3
          rw [wi_eq, em, wi_0] at w3
          have es : Int32.ofNat (x - kk_n kd 2 b c) + Int32.ofInt (-1) = Int32.ofNat (x - kk_n kd 2 b (c + 1)) := by
            rw [pb_dn_s (by omega)]
            unfold pb_dn
            rw [if_neg (by omega), en]
            congr 1
          refine ⟨K - (c + 1), by omega, c + 1, some (.int (Int32.ofNat (kd c))), ?_, rfl, rfl, rfl, rfl, rfl, rfl, rfl, rfl, by omega, by omega, rfl⟩
          unfold kk_l41
          rw [← es, ← wq_4s c]
          rfl
        · have w3 : ¬ ¬ Int32.ofNat (x - kk_n kd 2 b c) = 0 := w3
          rw [wi_eq, em, wi_0] at w3
          exact h1 c (by omega) ⟨by omega, by omega⟩
    rw [if_neg p6] at hP
    cases hP
