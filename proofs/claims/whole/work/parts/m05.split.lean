/-! ===== the class: groups are split ===== -/
def ku (gr : Nat → Nat) (a f : Nat) : Nat → Nat := fun i => if i = a then f else gr i
theorem ku_at {gr : Nat → Nat} {a f : Nat} : ku gr a f a = f := if_pos rfl
theorem ku_no {gr : Nat → Nat} {a f i : Nat} (h : ¬ i = a) : ku gr a f i = gr i := if_neg h
theorem kg_ext {P : Nat → Nat → Prop} {gr : Nat → Nat} {a f : Nat} (h : kg a P gr) (h1 : f ≤ a) (h2 : P f a) (h3 : ∀ i, i < f → ¬ P i a) : kg (a + 1) P (ku gr a f) := by
  intro s hs
  by_cases c : s = a
  · subst c
    rw [ku_at]
    exact ⟨h1, h2, h3⟩
  · rw [ku_no c]
    exact h s (by omega)
/-- what the class holds of the sets -/
def kc_M (E B g K : Nat) (tb : Nat → Nat → Nat) (kd : Nat → Nat) (I : Nat → Nat → Int32) : Prop := I E 7 = Int32.ofNat K ∧ K ≤ 66 ∧ I E 5 = Int32.ofNat g ∧ g < 64 ∧ I E 6 = Int32.ofNat (2 ^ sb_c g) ∧ (∀ i, i < K → I (E + 2) i = Int32.ofNat (kd i) ∧ kd i ≤ 3) ∧ ∀ c k, c < K → k < 2 ^ sb_c g → I B (c * 64 + sb_v g k) = Int32.ofNat (tb c (sb_v g k)) ∧ tb c (sb_v g k) < K
theorem kg_1_k {g : Nat} {tb : Nat → Nat → Nat} {gr : Nat → Nat} {a b : Nat} (hg : g < 64) : kg_1 (kc_mv tb g) gr a b ↔ gr a = gr b ∧ ∀ k, k < 2 ^ sb_c g → gr (tb a (sb_v g k)) = gr (tb b (sb_v g k)) := by
  constructor
  · rintro ⟨h1, h2⟩
    refine ⟨h1, fun k hk => ?_⟩
    obtain ⟨m1, m2⟩ := sb_mem hg hk
    have := h2 (sb_v g k) m1
    unfold kc_mv at this
    rw [m2] at this
    exact this
  · rintro ⟨h1, h2⟩
    refine ⟨h1, fun v hv => ?_⟩
    obtain ⟨k, k1, k2⟩ := sb_ex hg (Nat.lt_of_le_of_lt Nat.and_le_left hv) (kc_and (g := g) (v := v))
    show gr (tb a (v &&& g)) = gr (tb b (v &&& g))
    rw [← k2]
    exact h2 k k1
def kc_l9 (E a : Nat) (x2 : Option Value) : List (Option Value) := [some (.ref E), some (.int (Int32.ofNat a)), x2, none]
def kc_h209 (E K : Nat) (kd : Nat → Nat) (T : wv_T) (N : Nat) (I : Nat → Nat → Int32) (L : Nat → Nat → Int64) (R : Nat → Nat → Option Nat) : Nat → Option (Nat → wv_P) := fun pc =>
  if pc = 2 then some (fun mm lv st T1 N1 I1 L1 R1 nc ns => ∃ (a : Nat) (gr : Nat → Nat) (x2 : Option Value), lv = kc_l9 E a x2 ∧ st = [] ∧ T1 = T ∧ N1 = N ∧ R1 = R ∧ nc = 0 ∧ ns = 0 ∧ L1 = L ∧ a ≤ K ∧ kg a (kg_0 kd) gr ∧ (∀ i, i < a → I1 (E + 3) i = Int32.ofNat (gr i)) ∧ (∀ c j, ¬ c = E + 3 → I1 c j = I c j) ∧ mm = 200 * (100 - a) + 199)
  else if pc = 12 then some (fun mm lv st T1 N1 I1 L1 R1 nc ns => ∃ (a f : Nat) (gr : Nat → Nat), lv = kc_l9 E a (some (.int (Int32.ofNat f))) ∧ st = [] ∧ T1 = T ∧ N1 = N ∧ R1 = R ∧ nc = 0 ∧ ns = 0 ∧ L1 = L ∧ a < K ∧ kg a (kg_0 kd) gr ∧ (∀ i, i < a → I1 (E + 3) i = Int32.ofNat (gr i)) ∧ (∀ c j, ¬ c = E + 3 → I1 c j = I c j) ∧ f ≤ a ∧ (∀ i, i < f → ¬ kg_0 kd i a) ∧ mm = 200 * (100 - a) + 101 - f)
  else if pc = 38 then some (fun mm lv st T1 N1 I1 L1 R1 nc ns => ∃ (a f : Nat) (gr : Nat → Nat), lv = kc_l9 E a (some (.int (Int32.ofNat f))) ∧ st = [] ∧ T1 = T ∧ N1 = N ∧ R1 = R ∧ nc = 0 ∧ ns = 0 ∧ L1 = L ∧ a < K ∧ kg a (kg_0 kd) gr ∧ (∀ i, i < a → I1 (E + 3) i = Int32.ofNat (gr i)) ∧ (∀ c j, ¬ c = E + 3 → I1 c j = I c j) ∧ f ≤ a ∧ kg_0 kd f a ∧ (∀ i, i < f → ¬ kg_0 kd i a) ∧ mm = 200 * (100 - a))
  else none
def kc_l11 (E a b : Nat) (f : Bool) (v n : Nat) : List (Option Value) := [some (.ref E), some (.int (Int32.ofNat a)), some (.int (Int32.ofNat b)), some (.int (wb_i f)), some (.int (Int32.ofNat v)), some (.int (Int32.ofNat n)), none, none, none]
def kc_h211 (E g a b : Nat) (tb : Nat → Nat → Nat) (gr : Nat → Nat) (T : wv_T) (N : Nat) (I : Nat → Nat → Int32) (L : Nat → Nat → Int64) (R : Nat → Nat → Option Nat) : Nat → Option (Nat → wv_P) := fun pc =>
  if pc = 30 then some (fun mm lv st T1 N1 I1 L1 R1 nc ns => ∃ (i v : Nat) (f : Bool), lv = kc_l11 E a b f v (2 ^ sb_c g - i) ∧ st = [] ∧ T1 = T ∧ N1 = N ∧ R1 = R ∧ nc = 0 ∧ ns = 0 ∧ I1 = I ∧ L1 = L ∧ i ≤ 2 ^ sb_c g ∧ (i < 2 ^ sb_c g → v = sb_v g i) ∧ (f = true → gr a = gr b ∧ ∀ k, k < i → gr (tb a (sb_v g k)) = gr (tb b (sb_v g k))) ∧ (f = false → ¬ kg_1 (kc_mv tb g) gr a b) ∧ mm = 2 ^ sb_c g - i)
  else none
/-- the groups of the sets -/
def kc_G (E K : Nat) (gr : Nat → Nat) (I : Nat → Nat → Int32) : Prop := ∀ i, i < K → I (E + 3) i = Int32.ofNat (gr i) ∧ gr i < 66
def kc_c209 : wv_c1 := fun as T N I L R q => ∃ (E B g K : Nat) (tb : Nat → Nat → Nat) (kd : Nat → Nat), as = [.ref E] ∧ kc_D T R E ∧ 535 < B ∧ kc_M E B g K tb kd I ∧ ∀ gr I1, kg K (kg_0 kd) gr → (∀ i, i < K → I1 (E + 3) i = Int32.ofNat (gr i)) → (∀ c j, ¬ c = E + 3 → I1 c j = I c j) → q (.inl none) T N I1 L R 0 0
set_option maxRecDepth 100000 in
theorem wM_209 : ∃ cb ci np, pt_mt 209 = some (10, cb, 3, false, none, ci, np) := ⟨_, _, _, rfl⟩
set_option maxRecDepth 100000 in
set_option maxHeartbeats 4000000 in
theorem kc_group {sc : pt_Sc} {d : Nat} : wv_C wm_fx sc (d + 1) 209 kc_c209 := by
  rintro as T N I L R q ⟨E, B, g, K, tb, kd, rfl, hD, hB, hM, h⟩ w0 HR
  obtain ⟨cb, ci, np, hm⟩ := wM_209
  obtain ⟨hE, r0, r1, r2, r3, t1, t2, t3, t4, hb⟩ := hD
  obtain ⟨m7, mK, m5, hg, m6, mk, mt⟩ := hM
  refine wv_meth (hh := none) rfl (sp := fun _ _ _ _ _ _ _ _ => False) (hd := kc_h209 E K kd T N I L R) (n := 300) (n1 := 300) hm zc_209 rfl (fun k as T N I L R q h => by cases h) ?_ ?_ HR
  · exact ⟨_, 0, fun _ => 0, none, rfl, rfl, rfl, rfl, rfl, rfl, rfl, rfl, Nat.zero_le _, fun s hs => by omega, fun i hi => by omega, fun _ _ _ => rfl, rfl⟩
  · intro pc P hP m lv st T1 N1 I1 L1 R1 nc ns hh
    unfold kc_h209 at hP
    by_cases p2 : pc = 2
    · rw [if_pos p2] at hP
      cases hP
      subst p2
      obtain ⟨a, gr, x2, rfl, rfl, rfl, rfl, rfl, rfl, rfl, rfl, ha, hk, hl, hF, rfl⟩ := hh
      have ea := wi_on (n := a) (by omega)
      have eK := wi_on (n := K) (by omega)
      have e7 : I1 E 7 = Int32.ofNat K := (hF _ _ (by omega)).trans m7
      refine ⟨hE, fun w => ?_, fun w => ?_⟩
      · have w : I1 E 7 ≤ Int32.ofNat a := w
        rw [e7, wi_le, eK, ea] at w
        have e : a = K := by omega
        subst e
        exact h gr I1 hk hl hF
      · have w : ¬ I1 E 7 ≤ Int32.ofNat a := w
        rw [e7, wi_le, eK, ea] at w
        exact ⟨200 * (100 - a) + 101 - 0, by omega, a, 0, gr, rfl, rfl, rfl, rfl, rfl, rfl, rfl, rfl, by omega, hk, hl, hF, Nat.zero_le _, fun i hi => by omega, rfl⟩
    rw [if_neg p2] at hP
    by_cases p12 : pc = 12
    · rw [if_pos p12] at hP
      cases hP
      subst p12
      obtain ⟨a, f, gr, rfl, rfl, rfl, rfl, rfl, rfl, rfl, rfl, ha, hk, hl, hF, hf, hn, rfl⟩ := hh
      have ea := wi_on (n := a) (by omega)
      have ef := wi_on (n := f) (by omega)
      refine ⟨fun w => ?_, fun w => ?_⟩
      · rw [wi_le, ea, ef] at w
        have e : f = a := by omega
        subst e
        exact ⟨200 * (100 - f), by omega, f, f, gr, rfl, rfl, rfl, rfl, rfl, rfl, rfl, rfl, ha, hk, hl, hF, hf, rfl, hn, rfl⟩
      rw [wi_le, ea, ef] at w
      have k1 := mk f (by omega)
      have k2 := mk a ha
      refine ⟨hE, _, r1, _, t2, pp_b (c := 66) (by omega) (by omega), hE, _, r1, _, t2, pp_b (c := 66) (by omega) (by omega), ?_⟩
      rw [wi_onn (by omega), wi_onn (by omega), hF _ _ (by omega), hF _ _ (by omega), k1.1, k2.1]
      refine ⟨fun w2 => ?_, fun w2 => ?_⟩
      · have w2 : Int32.ofNat (kd f) = Int32.ofNat (kd a) := w2
        rw [wi_eq, wi_on (by omega), wi_on (by omega)] at w2
        exact ⟨200 * (100 - a), by omega, a, f, gr, rfl, rfl, rfl, rfl, rfl, rfl, rfl, rfl, ha, hk, hl, hF, hf, show kd f = kd a by omega, hn, rfl⟩
      · have w2 : ¬ Int32.ofNat (kd f) = Int32.ofNat (kd a) := w2
        refine ⟨200 * (100 - a) + 101 - (f + 1), by omega, a, f + 1, gr, by unfold kc_l9; rw [← wq_4s f]; rfl, rfl, rfl, rfl, rfl, rfl, rfl, rfl, ha, hk, hl, hF, by omega, fun i hi => ?_, rfl⟩
        by_cases c : i = f
        · subst c
          exact fun z => w2 (by rw [show kd i = kd a from z])
        · exact hn i (by omega)
    rw [if_neg p12] at hP
    by_cases p38 : pc = 38
    · rw [if_pos p38] at hP
      cases hP
      subst p38
      obtain ⟨a, f, gr, rfl, rfl, rfl, rfl, rfl, rfl, rfl, rfl, ha, hk, hl, hF, hf, he, hn, rfl⟩ := hh
      refine ⟨hE, _, r2, _, t3, pp_b (c := 66) (by omega) (by omega), (show E + 3 < 1099511627776 by omega), ?_⟩
      rw [wi_onn (by omega)]
      refine ⟨200 * (100 - (a + 1)) + 199, by omega, a + 1, ku gr a f, _, by unfold kc_l9; rw [← wq_4s a]; rfl, rfl, rfl, rfl, rfl, rfl, rfl, rfl, by omega, kg_ext hk hf he hn, fun i hi => ?_, fun c j z => ?_, rfl⟩
      · by_cases c : i = a
        · subst c
          rw [wv_u_at, ku_at]
        · rw [wv_u_no _ _ (by omega), ku_no c]
          exact hl i (by omega)
      · rw [wv_u_no _ _ (by omega)]
        exact hF c j z
    rw [if_neg p38] at hP
    cases hP
def kc_c211 : wv_c1 := fun as T N I L R q => ∃ (E B g K a b : Nat) (tb : Nat → Nat → Nat) (kd gr : Nat → Nat), as = [.ref E, .int (Int32.ofNat a), .int (Int32.ofNat b)] ∧ kc_D T R E ∧ kc_B T R E B ∧ kc_M E B g K tb kd I ∧ kc_G E K gr I ∧ a < K ∧ b < K ∧ (kg_1 (kc_mv tb g) gr a b → q (.inl (some (.int (wb_i true)))) T N I L R 0 0) ∧ (¬ kg_1 (kc_mv tb g) gr a b → q (.inl (some (.int (wb_i false)))) T N I L R 0 0)
set_option maxRecDepth 100000 in
theorem wM_211 : ∃ cb ci np, pt_mt 211 = some (10, cb, 6, false, some .boolean, ci, np) := ⟨_, _, _, rfl⟩
set_option maxRecDepth 100000 in
set_option maxHeartbeats 4000000 in
theorem kc_isAlike {sc : pt_Sc} {d : Nat} : wv_C wm_fx sc (d + 1) 211 kc_c211 := by
  rintro as T N I L R q ⟨E, B, g, K, a, b, tb, kd, gr, rfl, hD, hB, hM, hG, ha, hbK, h1, h2⟩ w0 HR
  obtain ⟨cb, ci, np, hm⟩ := wM_211
  obtain ⟨hE, r0, r1, r2, r3, t1, t2, t3, t4, hb⟩ := hD
  obtain ⟨m7, mK, m5, hg, m6, mk, mt⟩ := hM

  obtain ⟨b1, b2, b3, b4⟩ := hB
  have hp := sb_p hg
  refine wv_meth (hh := none) rfl (sp := fun _ _ _ _ _ _ _ _ => False) (hd := kc_h211 E g a b tb gr T N I L R) (n := 300) (n1 := 300) hm zc_211 rfl (fun k as T N I L R q h => by cases h) ?_ ?_ HR
  · refine ⟨hE, _, r2, _, t3, pp_b (c := 66) (by omega) (by omega), hE, _, r2, _, t3, pp_b (c := 66) (by omega) (by omega), ?_⟩
    rw [wi_onn (by omega), wi_onn (by omega), (hG a ha).1, (hG b hbK).1]
    have e0 := (hG a ha).2
    have e1 := (hG b hbK).2
    have e6 : kc_l11 E a b true 0 (2 ^ sb_c g - 0) = kc_l11 E a b true 0 (2 ^ sb_c g) := rfl
    refine ⟨fun w => ?_, fun w => ?_⟩
    · have w : ¬ Int32.ofNat (gr a) = Int32.ofNat (gr b) := w
      refine ⟨hE, 2 ^ sb_c g - 0, 0, 0, false, by unfold kc_l11; rw [Nat.sub_zero, ← m6]; rfl, rfl, rfl, rfl, rfl, rfl, rfl, rfl, rfl, Nat.zero_le _, fun _ => (sb_v0 hg).symm, fun z => (by cases z), fun _ z => w (by rw [z.1]), rfl⟩
    · have w : Int32.ofNat (gr a) = Int32.ofNat (gr b) := Decidable.not_not.mp w
      rw [wi_eq, wi_on (by omega), wi_on (by omega)] at w
      refine ⟨hE, 2 ^ sb_c g - 0, 0, 0, true, by unfold kc_l11; rw [Nat.sub_zero, ← m6]; rfl, rfl, rfl, rfl, rfl, rfl, rfl, rfl, rfl, Nat.zero_le _, fun _ => (sb_v0 hg).symm, fun _ => ⟨by omega, fun k hk => by omega⟩, fun z => (by cases z), rfl⟩
  · intro pc P hP m lv st T1 N1 I1 L1 R1 nc ns hh
    unfold kc_h211 at hP
    by_cases p30 : pc = 30
    · rw [if_pos p30] at hP
      cases hP
      subst p30
      obtain ⟨i, v, f, rfl, rfl, rfl, rfl, rfl, rfl, rfl, rfl, rfl, hi, hv, f1, f2, rfl⟩ := hh
      have en := wi_on (n := 2 ^ sb_c g - i) (by omega)
      refine ⟨fun w => ?_, fun w => ?_⟩
      · rw [wi_le, en, wi_0] at w
        have e : i = 2 ^ sb_c g := by omega
        subst e
        cases f with
        | true => exact ⟨⟨rfl, rfl⟩, h1 ((kg_1_k hg).mpr (f1 rfl))⟩
        | false => exact ⟨⟨rfl, rfl⟩, h2 (f2 rfl)⟩
      rw [wi_le, en, wi_0] at w
      have hlt : i < 2 ^ sb_c g := by omega
      have hvk := hv hlt
      subst hvk
      cases f with
      | false =>
        refine ⟨fun _ => ⟨⟨rfl, rfl⟩, h2 (f2 rfl)⟩, fun z => absurd rfl z⟩
      | true =>
        refine ⟨fun z => absurd z (by decide), fun _ => ?_⟩
        obtain ⟨m2, m3⟩ := sb_mem hg hlt
        obtain ⟨q1, q2⟩ := mt a i ha hlt
        obtain ⟨q3, q4⟩ := mt b i hbK hlt
        have c1 := wi_64 a (sb_v g i)
        have c2 := wi_64 b (sb_v g i)
        have d1 := wi_onn (n := a * 64 + sb_v g i) (by omega)
        have d2 := wi_onn (n := b * 64 + sb_v g i) (by omega)
        have o1 := (hG _ q2).2
        have o2 := (hG _ q4).2
        have enx := sb_int ⟨g, hg⟩ ⟨sb_v g i, m2⟩
        dsimp only at enx
        have edec : Int32.ofNat (2 ^ sb_c g - i) + Int32.ofInt (-1) = Int32.ofNat (2 ^ sb_c g - (i + 1)) := by
          rw [show Int32.ofNat (2 ^ sb_c g - i) + Int32.ofInt (-1) = Int32.ofNat (2 ^ sb_c g - i) - Int32.ofInt 1 from by rw [Int32.sub_eq_add_neg]; rfl, wi_s1 (by omega) (by omega)]
          congr 1
        refine ⟨hE, _, r2, hE, _, b1, _, b2, by rw [c1]; exact pp_b (c := 4224) (by omega) (by omega), ?_⟩
        rw [c1, d1, q1]
        refine ⟨_, t3, pp_b (c := 66) (by omega) (by omega), hE, _, r2, hE, _, b1, _, b2, by rw [c2]; exact pp_b (c := 4224) (by omega) (by omega), ?_⟩
        rw [c2, d2, q3, wi_onn (by omega), (hG _ q2).1]
        refine ⟨_, t3, pp_b (c := 66) (by omega) (by omega), ?_⟩
        rw [wi_onn (by omega), (hG _ q4).1]
        refine ⟨fun w2 => ?_, fun w2 => ?_⟩
        · have w2 : ¬ Int32.ofNat (gr (tb a (sb_v g i))) = Int32.ofNat (gr (tb b (sb_v g i))) := w2
          refine ⟨hE, hE, 2 ^ sb_c g - (i + 1), by omega, i + 1, sb_n g (sb_v g i), false, by unfold kc_l11; rw [← enx, ← m5, ← edec]; rfl, rfl, rfl, rfl, rfl, rfl, rfl, rfl, rfl, by omega, fun z => sb_vn hg z, fun z => (by cases z), fun _ z => w2 ?_, rfl⟩
          rw [((kg_1_k hg).mp z).2 i hlt]
        · have w2 : Int32.ofNat (gr (tb a (sb_v g i))) = Int32.ofNat (gr (tb b (sb_v g i))) := Decidable.not_not.mp w2
          rw [wi_eq, wi_on (by omega), wi_on (by omega)] at w2
          refine ⟨hE, hE, 2 ^ sb_c g - (i + 1), by omega, i + 1, sb_n g (sb_v g i), true, by unfold kc_l11; rw [← enx, ← m5, ← edec]; rfl, rfl, rfl, rfl, rfl, rfl, rfl, rfl, rfl, by omega, fun z => sb_vn hg z, fun _ => ⟨(f1 rfl).1, fun k hk => ?_⟩, fun z => (by cases z), rfl⟩
          by_cases c : k = i
          · subst c
            omega
          · exact (f1 rfl).2 k (by omega)
    rw [if_neg p30] at hP
    cases hP
