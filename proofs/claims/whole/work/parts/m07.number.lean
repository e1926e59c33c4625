/-! ===== the class: groups are numbered ===== -/
def kc_l13 (E a c v n : Nat) : List (Option Value) := [some (.ref E), some (.int (Int32.ofNat a)), some (.int (Int32.ofNat c)), some (.int (Int32.ofNat v)), some (.int (Int32.ofNat n)), none, none, none]
def kc_mF (E B g c i : Nat) (I I1 : Nat → Nat → Int32) : Prop := ∀ x j, ¬ (x = E + 2 ∧ j = c) → ¬ (x = B ∧ ∃ k, k < i ∧ k < 2 ^ sb_c g ∧ j = c * 64 + sb_v g k) → I1 x j = I x j
def kc_h213 (E B g a c : Nat) (tb : Nat → Nat → Nat) (gr : Nat → Nat) (T : wv_T) (N : Nat) (I : Nat → Nat → Int32) (L : Nat → Nat → Int64) (R : Nat → Nat → Option Nat) : Nat → Option (Nat → wv_P) := fun pc =>
  if pc = 20 then some (fun mm lv st T1 N1 I1 L1 R1 nc ns => ∃ (i v : Nat), lv = kc_l13 E a c v (2 ^ sb_c g - i) ∧ st = [] ∧ T1 = T ∧ N1 = N ∧ R1 = R ∧ nc = 0 ∧ ns = 0 ∧ L1 = L ∧ i ≤ 2 ^ sb_c g ∧ (i < 2 ^ sb_c g → v = sb_v g i) ∧ I1 (E + 2) c = I (E + 2) a ∧ (∀ k, k < i → I1 B (c * 64 + sb_v g k) = I (E + 4) (gr (tb a (sb_v g k)))) ∧ kc_mF E B g c i I I1 ∧ mm = 2 ^ sb_c g - i)
  else none
/-- how the numbers stand when a sets are numbered -/
def kc_l12 (E a : Nat) : List (Option Value) := [some (.ref E), some (.int (Int32.ofNat a)), none]
def kc_nF (E B : Nat) (I I1 : Nat → Nat → Int32) : Prop := ∀ x j, ¬ (x = E ∧ j = 8) → ¬ x = E + 2 → ¬ x = E + 4 → ¬ x = B → I1 x j = I x j
def kc_h212 (E B g K : Nat) (tb : Nat → Nat → Nat) (kd gr : Nat → Nat) (T : wv_T) (N : Nat) (I : Nat → Nat → Int32) (L : Nat → Nat → Int64) (R : Nat → Nat → Option Nat) : Nat → Option (Nat → wv_P) := fun pc =>
  if pc = 7 then some (fun mm lv st T1 N1 I1 L1 R1 nc ns => ∃ (a : Nat), lv = kc_l12 E a ∧ st = [] ∧ T1 = T ∧ N1 = N ∧ R1 = R ∧ nc = 0 ∧ ns = 0 ∧ L1 = L ∧ a ≤ K ∧ I1 E 8 = Int32.ofNat (kn gr a) ∧ (∀ i, i < a → gr i = i → I1 (E + 4) i = Int32.ofNat (kn gr i)) ∧ (∀ x j, ¬ (x = E ∧ j = 8) → ¬ x = E + 4 → I1 x j = I x j) ∧ mm = 1000 - a)
  else if pc = 53 then some (fun mm lv st T1 N1 I1 L1 R1 nc ns => ∃ (a : Nat), lv = kc_l12 E a ∧ st = [] ∧ T1 = T ∧ N1 = N ∧ R1 = R ∧ nc = 0 ∧ ns = 0 ∧ L1 = L ∧ a ≤ K ∧ I1 E 8 = Int32.ofNat (kn gr K) ∧ (∀ i, i < K → gr i = i → I1 (E + 4) i = Int32.ofNat (kn gr i)) ∧ kc_nF E B I I1 ∧ (∀ s, a ≤ s → s < K → I1 (E + 2) s = I (E + 2) s ∧ ∀ k, k < 2 ^ sb_c g → I1 B (s * 64 + sb_v g k) = I B (s * 64 + sb_v g k)) ∧ (∀ x, x < a → gr x = x → I1 (E + 2) (kn gr x) = Int32.ofNat (kd x) ∧ ∀ k, k < 2 ^ sb_c g → I1 B (kn gr x * 64 + sb_v g k) = Int32.ofNat (kn gr (gr (tb x (sb_v g k))))) ∧ mm = 500 - a)
  else none
theorem kc_ne {gr : Nat → Nat} {i a : Nat} (h : i < a + 1) (h1 : gr i = i) (h2 : ¬ gr a = a) : i < a := by
  rcases Nat.lt_or_ge i a with z | z
  · exact z
  · have e : i = a := by omega
    subst e
    exact (h2 h1).elim
def kc_c213 : wv_c1 := fun as T N I L R q => ∃ (E B g K a c : Nat) (tb : Nat → Nat → Nat) (gr : Nat → Nat), as = [.ref E, .int (Int32.ofNat a), .int (Int32.ofNat c)] ∧ kc_D T R E ∧ kc_B T R E B ∧ I E 5 = Int32.ofNat g ∧ g < 64 ∧ I E 6 = Int32.ofNat (2 ^ sb_c g) ∧ K ≤ 66 ∧ a < K ∧ c ≤ a ∧ (∀ k, k < 2 ^ sb_c g → I B (a * 64 + sb_v g k) = Int32.ofNat (tb a (sb_v g k)) ∧ tb a (sb_v g k) < K) ∧ kc_G E K gr I ∧ ∀ I1, I1 (E + 2) c = I (E + 2) a → (∀ k, k < 2 ^ sb_c g → I1 B (c * 64 + sb_v g k) = I (E + 4) (gr (tb a (sb_v g k)))) → kc_mF E B g c (2 ^ sb_c g) I I1 → q (.inl none) T N I1 L R 0 0
set_option maxRecDepth 100000 in
theorem wM_213 : ∃ cb ci np, pt_mt 213 = some (10, cb, 5, false, none, ci, np) := ⟨_, _, _, rfl⟩
set_option maxRecDepth 100000 in
set_option maxHeartbeats 4000000 in
theorem kc_moveDown {sc : pt_Sc} {d : Nat} : wv_C wm_fx sc (d + 1) 213 kc_c213 := by
  rintro as T N I L R q ⟨E, B, g, K, a, c, tb, gr, rfl, hD, hB, m5, hg, m6, mK, ha, hc, mt, hG, h⟩ w0 HR
  obtain ⟨cb, ci, np, hm⟩ := wM_213
  obtain ⟨hE, r0, r1, r2, r3, t1, t2, t3, t4, hb⟩ := hD
  obtain ⟨b1, b2, b3, b4⟩ := hB
  have hp := sb_p hg
  refine wv_meth (hh := none) rfl (sp := fun _ _ _ _ _ _ _ _ => False) (hd := kc_h213 E B g a c tb gr T N I L R) (n := 300) (n1 := 300) hm zc_213 rfl (fun k as T N I L R q h => by cases h) ?_ ?_ HR
  · refine ⟨hE, _, r1, hE, _, r1, _, t2, pp_b (c := 66) (by omega) (by omega), _, t2, pp_b (c := 66) (by omega) (by omega), (show E + 2 < 1099511627776 by omega), ?_⟩
    rw [wi_onn (by omega), wi_onn (by omega)]
    have e6 : wv_u I (E + 2) c (I (E + 2) a) E 6 = Int32.ofNat (2 ^ sb_c g) := by
      rw [wv_u_no _ _ (by omega)]
      exact m6
    refine ⟨hE, 2 ^ sb_c g - 0, 0, 0, by unfold kc_l13; rw [Nat.sub_zero, ← e6]; rfl, rfl, rfl, rfl, rfl, rfl, rfl, rfl, Nat.zero_le _, fun _ => (sb_v0 hg).symm, wv_u_at _ _ _ _, fun k hk => by omega, fun x j z1 z2 => wv_u_no _ _ z1, rfl⟩
  · intro pc P hP m lv st T1 N1 I1 L1 R1 nc ns hh
    unfold kc_h213 at hP
    by_cases p20 : pc = 20
    · rw [if_pos p20] at hP
      cases hP
      subst p20
      obtain ⟨i, v, rfl, rfl, rfl, rfl, rfl, rfl, rfl, rfl, hi, hv, hk, hr, hF, rfl⟩ := hh
      have en := wi_on (n := 2 ^ sb_c g - i) (by omega)
      refine ⟨fun w => ?_, fun w => ?_⟩
      · rw [wi_le, en, wi_0] at w
        have e : i = 2 ^ sb_c g := by omega
        subst e
        exact h I1 hk hr hF
      rw [wi_le, en, wi_0] at w
      have hlt : i < 2 ^ sb_c g := by omega
      have hvk := hv hlt
      subst hvk
      obtain ⟨m2, m3⟩ := sb_mem hg hlt
      obtain ⟨q1, q2⟩ := mt i hlt
      have c1 := wi_64 a (sb_v g i)
      have c2 := wi_64 c (sb_v g i)
      have d1 := wi_onn (n := a * 64 + sb_v g i) (by omega)
      have d2 := wi_onn (n := c * 64 + sb_v g i) (by omega)
      have o1 := (hG _ q2).2
      have enx := sb_int ⟨g, hg⟩ ⟨sb_v g i, m2⟩
      dsimp only at enx
      have edec : Int32.ofNat (2 ^ sb_c g - i) + Int32.ofInt (-1) = Int32.ofNat (2 ^ sb_c g - (i + 1)) := by
        rw [show Int32.ofNat (2 ^ sb_c g - i) + Int32.ofInt (-1) = Int32.ofNat (2 ^ sb_c g - i) - Int32.ofInt 1 from by rw [Int32.sub_eq_add_neg]; rfl, wi_s1 (by omega) (by omega)]
        congr 1
      have x1 : I1 B (a * 64 + sb_v g i) = Int32.ofNat (tb a (sb_v g i)) := by
        have nn : ¬ (B = B ∧ ∃ k, k < i ∧ k < 2 ^ sb_c g ∧ a * 64 + sb_v g i = c * 64 + sb_v g k) := by
          rintro ⟨_, k, k1, k2, k3⟩
          have n1 := (sb_mem hg k2).1
          have := sb_inj hg hlt k2 (by omega)
          omega
        rw [hF _ _ (by omega) nn]
        exact q1
      have x2 : I1 (E + 3) (tb a (sb_v g i)) = Int32.ofNat (gr (tb a (sb_v g i))) := by
        rw [hF _ _ (by omega) (by omega)]
        exact (hG _ q2).1
      have x3 : I1 (E + 4) (gr (tb a (sb_v g i))) = I (E + 4) (gr (tb a (sb_v g i))) := hF _ _ (by omega) (by omega)
      have x4 : I1 E 5 = Int32.ofNat g := (hF _ _ (by omega) (by omega)).trans m5
      refine ⟨hE, _, b1, hE, _, r3, hE, _, r2, hE, _, b1, _, b2, by rw [c1]; exact pp_b (c := 4224) (by omega) (by omega), ?_⟩
      rw [c1, d1, x1]
      refine ⟨_, t3, pp_b (c := 66) (by omega) (by omega), ?_⟩
      rw [wi_onn (by omega), x2]
      refine ⟨_, t4, pp_b (c := 66) (by omega) (by omega), ?_⟩
      rw [wi_onn (by omega), x3]
      refine ⟨_, b2, by rw [c2]; exact pp_b (c := 4224) (by omega) (by omega), b4, ?_⟩
      rw [c2, d2]
      have x5 : wv_u I1 B (c * 64 + sb_v g i) (I (E + 4) (gr (tb a (sb_v g i)))) E 5 = Int32.ofNat g := by
        rw [wv_u_no _ _ (by omega)]
        exact x4
      refine ⟨hE, hE, 2 ^ sb_c g - (i + 1), by omega, i + 1, sb_n g (sb_v g i), by unfold kc_l13; rw [← enx, ← x5, ← edec]; rfl, rfl, rfl, rfl, rfl, rfl, rfl, rfl, by omega, fun z => sb_vn hg z, ?_, fun k hk2 => ?_, fun x j z1 z2 => ?_, rfl⟩
      · rw [wv_u_no _ _ (by omega)]
        exact hk
      · by_cases cc : k = i
        · subst cc
          rw [wv_u_at]
        · rw [wv_u_no _ _ (fun z => cc (sb_inj hg (by omega) hlt (by omega)))]
          exact hr k (by omega)
      · rw [wv_u_no _ _ (fun z => z2 ⟨z.1, i, by omega, hlt, z.2⟩)]
        exact hF x j z1 (fun ⟨y1, k, y2, y3, y4⟩ => z2 ⟨y1, k, by omega, y3, y4⟩)
    rw [if_neg p20] at hP
    cases hP
def kc_c212 : wv_c1 := fun as T N I L R q => ∃ (E B g K : Nat) (tb : Nat → Nat → Nat) (kd gr : Nat → Nat), as = [.ref E] ∧ kc_D T R E ∧ kc_B T R E B ∧ kc_M E B g K tb kd I ∧ kc_G E K gr I ∧ (∀ s, s < K → gr s ≤ s ∧ gr (gr s) = gr s) ∧ ∀ I1, I1 E 8 = Int32.ofNat (kn gr K) → kc_nF E B I I1 → (∀ x, x < K → gr x = x → I1 (E + 2) (kn gr x) = Int32.ofNat (kd x) ∧ ∀ k, k < 2 ^ sb_c g → I1 B (kn gr x * 64 + sb_v g k) = Int32.ofNat (kn gr (gr (tb x (sb_v g k))))) → q (.inl none) T N I1 L R 0 0
set_option maxRecDepth 100000 in
theorem wM_212 : ∃ cb ci np, pt_mt 212 = some (10, cb, 2, false, none, ci, np) := ⟨_, _, _, rfl⟩
set_option maxRecDepth 100000 in
set_option maxHeartbeats 4000000 in
theorem kc_numberGroups {sc : pt_Sc} {d : Nat} : wv_C wm_fx sc (d + 1 + 1) 212 kc_c212 := by
  rintro as T N I L R q ⟨E, B, g, K, tb, kd, gr, rfl, hD, hB, hM, hG, hle, h⟩ w0 HR
  obtain ⟨cb, ci, np, hm⟩ := wM_212
  have hD2 := hD
  have hB2 := hB
  obtain ⟨hE, r0, r1, r2, r3, t1, t2, t3, t4, hb⟩ := hD
  obtain ⟨m7, mK, m5, hg, m6, mk, mt⟩ := hM

  obtain ⟨b1, b2, b3, b4⟩ := hB
  have hkb : ∀ x, kn gr x ≤ x := kn_b
  have hc213 : wv_C wm_fx sc (d + 1) 213 kc_c213 := wv_C_deep (by omega) (kc_moveDown (d := d))
  refine wv_meth (hh := none) rfl (sp := wv_sp [(213, kc_c213)]) (hd := kc_h212 E B g K tb kd gr T N I L R) (n := 300) (n1 := 300) hm zc_212 rfl (wv_sp_ok (fun q hq => by rw [List.mem_singleton.mp hq]; exact hc213)) ?_ ?_ HR
  · refine ⟨⟨hE, (show E < 1099511627776 by omega)⟩, ?_⟩
    exact ⟨_, 0, rfl, rfl, rfl, rfl, rfl, rfl, rfl, rfl, Nat.zero_le _, wv_u_at _ _ _ _, fun i hi => by omega, fun x j z1 _ => wv_u_no _ _ z1, rfl⟩
  · intro pc P hP m lv st T1 N1 I1 L1 R1 nc ns hh
    unfold kc_h212 at hP
    by_cases p7 : pc = 7
    · rw [if_pos p7] at hP
      cases hP
      subst p7
      obtain ⟨a, rfl, rfl, rfl, rfl, rfl, rfl, rfl, rfl, ha, h8, hl, hF, rfl⟩ := hh
      have ea := wi_on (n := a) (by omega)
      have ean := wi_onn (n := a) (by omega)
      have eK := wi_on (n := K) (by omega)
      have e7 : I1 E 7 = Int32.ofNat K := (hF _ _ (by omega) (by omega)).trans m7
      have hka := hkb a
      refine ⟨hE, fun w => ?_, fun w => ?_⟩
      · have w : I1 E 7 ≤ Int32.ofNat a := w
        rw [e7, wi_le, eK, ea] at w
        have e : a = K := by omega
        subst e
        exact ⟨500 - 0, by omega, 0, rfl, rfl, rfl, rfl, rfl, rfl, rfl, rfl, Nat.zero_le _, h8, hl, fun x j z1 z2 z3 z4 => hF x j z1 z3, fun s _ hs => ⟨hF _ _ (by omega) (by omega), fun k hk => hF _ _ (by omega) (by omega)⟩, fun x hx => by omega, rfl⟩
      have w : ¬ I1 E 7 ≤ Int32.ofNat a := w
      rw [e7, wi_le, eK, ea] at w
      have hlt : a < K := by omega
      have hga := hle a hlt
      have gb := (hG a hlt).2
      refine ⟨hE, _, r2, _, t3, pp_b (c := 66) (by omega) (by omega), ?_⟩
      rw [ean, hF _ _ (by omega) (by omega), (hG a hlt).1]
      refine ⟨fun w2 => ?_, fun w2 => ?_⟩
      · have w2 : ¬ Int32.ofNat (gr a) = Int32.ofNat a := w2
        have w3 : ¬ gr a = a := fun z => w2 (by rw [z])
        refine ⟨1000 - (a + 1), by omega, a + 1, by unfold kc_l12; rw [← wq_4s a]; rfl, rfl, rfl, rfl, rfl, rfl, rfl, rfl, by omega, by rw [kn_n w3]; exact h8, fun i hi hgi => hl i (kc_ne hi hgi w3) hgi, hF, rfl⟩
      · have w2 : Int32.ofNat (gr a) = Int32.ofNat a := Decidable.not_not.mp w2
        rw [wi_eq, wi_on (by omega), ea] at w2
        have w3 : gr a = a := by omega
        refine ⟨hE, _, r3, hE, _, t4, pp_b (c := 66) (by omega) (by omega), (show E + 4 < 1099511627776 by omega), ?_⟩
        rw [ean]
        refine ⟨hE, ⟨hE, (show E < 1099511627776 by omega)⟩, ?_⟩
        have e8 : wv_u I1 (E + 4) a (I1 E 8) E 8 + Int32.ofInt 1 = Int32.ofNat (kn gr a + 1) := by
          rw [wv_u_no _ _ (by omega), h8, wq_4s]
        refine ⟨1000 - (a + 1), by omega, a + 1, by unfold kc_l12; rw [← wq_4s a]; rfl, rfl, rfl, rfl, rfl, rfl, rfl, rfl, by omega, ?_, fun i hi hgi => ?_, fun x j z1 z2 => ?_, rfl⟩
        · rw [e8, wv_u_at, kn_y w3]
        · rw [wv_u_no _ _ (by omega)]
          by_cases c : i = a
          · subst c
            rw [wv_u_at, h8]
          · rw [wv_u_no _ _ (by omega)]
            exact hl i (by omega) hgi
        · rw [wv_u_no _ _ z1, wv_u_no _ _ (fun z => z2 z.1)]
          exact hF x j z1 z2
    rw [if_neg p7] at hP
    by_cases p53 : pc = 53
    · rw [if_pos p53] at hP
      cases hP
      subst p53
      obtain ⟨a, rfl, rfl, rfl, rfl, rfl, rfl, rfl, rfl, ha, h8, hl, hF, hold, hnew, rfl⟩ := hh
      have ea := wi_on (n := a) (by omega)
      have ean := wi_onn (n := a) (by omega)
      have eK := wi_on (n := K) (by omega)
      have e7 : I1 E 7 = Int32.ofNat K := (hF _ _ (by omega) (by omega) (by omega) (by omega)).trans m7
      have hka := hkb a
      refine ⟨hE, fun w => ?_, fun w => ?_⟩
      · have w : I1 E 7 ≤ Int32.ofNat a := w
        rw [e7, wi_le, eK, ea] at w
        have e : a = K := by omega
        subst e
        exact h I1 h8 hF hnew
      have w : ¬ I1 E 7 ≤ Int32.ofNat a := w
      rw [e7, wi_le, eK, ea] at w
      have hlt : a < K := by omega
      have gb := (hG a hlt).2
      have fg : ∀ i, I1 (E + 3) i = I (E + 3) i := fun i => hF _ _ (by omega) (by omega) (by omega) (by omega)
      refine ⟨hE, _, r2, _, t3, pp_b (c := 66) (by omega) (by omega), ?_⟩
      rw [ean, fg, (hG a hlt).1]
      refine ⟨fun w2 => ?_, fun w2 => ?_⟩
      · have w2 : ¬ Int32.ofNat (gr a) = Int32.ofNat a := w2
        have w3 : ¬ gr a = a := fun z => w2 (by rw [z])
        exact ⟨500 - (a + 1), by omega, a + 1, by unfold kc_l12; rw [← wq_4s a]; rfl, rfl, rfl, rfl, rfl, rfl, rfl, rfl, by omega, h8, hl, hF, fun s s1 s2 => hold s (by omega) s2, fun x hx hgx => hnew x (kc_ne hx hgx w3) hgx, rfl⟩
      have w2 : Int32.ofNat (gr a) = Int32.ofNat a := Decidable.not_not.mp w2
      rw [wi_eq, wi_on (by omega), ea] at w2
      have w3 : gr a = a := by omega
      refine ⟨hE, _, r3, _, t4, pp_b (c := 66) (by omega) (by omega), ?_⟩
      rw [ean, hl a hlt w3]
      refine ⟨hE, E, B, g, K, a, kn gr a, tb, gr, rfl, hD2, hB2, (hF _ _ (by omega) (by omega) (by omega) (by omega)).trans m5, hg, (hF _ _ (by omega) (by omega) (by omega) (by omega)).trans m6, mK, hlt, hka, fun k hk => ⟨by rw [(hold a (Nat.le_refl _) hlt).2 k hk]; exact (mt a k hlt hk).1, (mt a k hlt hk).2⟩, fun i hi => by rw [fg]; exact hG i hi, fun I2 y1 y2 y3 => ?_⟩
      have y4 : ∀ x j, ¬ x = E + 2 → ¬ x = B → I2 x j = I1 x j := fun x j z1 z2 => y3 x j (fun z => z1 z.1) (fun z => z2 z.1)
      refine ⟨500 - (a + 1), by omega, a + 1, by unfold kc_l12; rw [← wq_4s a]; rfl, rfl, rfl, rfl, rfl, rfl, rfl, rfl, by omega, (y4 _ _ (by omega) (by omega)).trans h8, fun i i1 i2 => (y4 _ _ (by omega) (by omega)).trans (hl i i1 i2), fun x j z1 z2 z3 z4 => (y4 x j z2 z4).trans (hF x j z1 z2 z3 z4), fun s s1 s2 => ⟨?_, fun k hk => ?_⟩, fun x hx hgx => ?_, rfl⟩
      · rw [y3 _ _ (by omega) (by omega)]
        exact (hold s (by omega) s2).1
      · have nn : ¬ (B = B ∧ ∃ k2, k2 < 2 ^ sb_c g ∧ k2 < 2 ^ sb_c g ∧ s * 64 + sb_v g k = kn gr a * 64 + sb_v g k2) := by
          rintro ⟨_, k2, k3, k4, k5⟩
          have n1 := (sb_mem hg hk).1
          have n2 := (sb_mem hg k4).1
          omega
        rw [y3 _ _ (by omega) nn]
        exact (hold s (by omega) s2).2 k hk
      · by_cases c : x = a
        · subst c
          refine ⟨?_, fun k hk => ?_⟩
          · rw [y1, (hold x (Nat.le_refl _) hlt).1]
            exact (mk x hlt).1
          · rw [y2 k hk]
            have q2 := (mt x k hlt hk).2
            have q3 := hle _ q2
            exact hl _ (by omega) q3.2
        · have hxa : x < a := by omega
          have := kn_lt hgx hxa
          obtain ⟨u1, u2⟩ := hnew x hxa hgx
          refine ⟨?_, fun k hk => ?_⟩
          · rw [y3 _ _ (by omega) (by omega)]
            exact u1
          · have nn : ¬ (B = B ∧ ∃ k2, k2 < 2 ^ sb_c g ∧ k2 < 2 ^ sb_c g ∧ kn gr x * 64 + sb_v g k = kn gr a * 64 + sb_v g k2) := by
              rintro ⟨_, k2, k3, k4, k5⟩
              have n1 := (sb_mem hg hk).1
              have n2 := (sb_mem hg k4).1
              omega
            rw [y3 _ _ (by omega) nn]
            exact u2 k hk
    rw [if_neg p53] at hP
    cases hP
