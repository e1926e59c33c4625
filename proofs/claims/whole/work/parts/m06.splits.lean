/-! ===== the class: a round of splitting ===== -/
def kc_l10 (E : Nat) (sp : Bool) (a : Nat) (x3 : Option Value) : List (Option Value) := [some (.ref E), some (.int (wb_i sp)), some (.int (Int32.ofNat a)), x3, none]
def kc_h210 (E g K : Nat) (tb : Nat → Nat → Nat) (gr : Nat → Nat) (T : wv_T) (N : Nat) (I : Nat → Nat → Int32) (L : Nat → Nat → Int64) (R : Nat → Nat → Option Nat) : Nat → Option (Nat → wv_P) := fun pc =>
  if pc = 4 then some (fun mm lv st T1 N1 I1 L1 R1 nc ns => ∃ (a : Nat) (g2 : Nat → Nat) (sp : Bool) (x3 : Option Value), lv = kc_l10 E sp a x3 ∧ st = [] ∧ T1 = T ∧ N1 = N ∧ R1 = R ∧ nc = 0 ∧ ns = 0 ∧ L1 = L ∧ kg a (kg_1 (kc_mv tb g) gr) g2 ∧ (∀ i, i < a → I1 (E + 4) i = Int32.ofNat (g2 i)) ∧ (∀ c j, ¬ c = E + 4 → I1 c j = I c j) ∧ (sp = true ↔ ∃ s, s < a ∧ ¬ g2 s = gr s) ∧ a ≤ K ∧ mm = 200 * (100 - a) + 199)
  else if pc = 19 then some (fun mm lv st T1 N1 I1 L1 R1 nc ns => ∃ (a f : Nat) (g2 : Nat → Nat) (sp : Bool), lv = kc_l10 E sp a (some (.int (Int32.ofNat f))) ∧ st = [] ∧ T1 = T ∧ N1 = N ∧ R1 = R ∧ nc = 0 ∧ ns = 0 ∧ L1 = L ∧ kg a (kg_1 (kc_mv tb g) gr) g2 ∧ (∀ i, i < a → I1 (E + 4) i = Int32.ofNat (g2 i)) ∧ (∀ c j, ¬ c = E + 4 → I1 c j = I c j) ∧ (sp = true ↔ ∃ s, s < a ∧ ¬ g2 s = gr s) ∧ a < K ∧ f ≤ a ∧ (∀ i, i < f → ¬ kg_1 (kc_mv tb g) gr i a) ∧ mm = 200 * (100 - a) + 101 - f)
  else if pc = 39 then some (fun mm lv st T1 N1 I1 L1 R1 nc ns => ∃ (a f : Nat) (g2 : Nat → Nat) (sp : Bool), lv = kc_l10 E sp a (some (.int (Int32.ofNat f))) ∧ st = [] ∧ T1 = T ∧ N1 = N ∧ R1 = R ∧ nc = 0 ∧ ns = 0 ∧ L1 = L ∧ kg a (kg_1 (kc_mv tb g) gr) g2 ∧ (∀ i, i < a → I1 (E + 4) i = Int32.ofNat (g2 i)) ∧ (∀ c j, ¬ c = E + 4 → I1 c j = I c j) ∧ (sp = true ↔ ∃ s, s < a ∧ ¬ g2 s = gr s) ∧ a < K ∧ f ≤ a ∧ kg_1 (kc_mv tb g) gr f a ∧ (∀ i, i < f → ¬ kg_1 (kc_mv tb g) gr i a) ∧ mm = 200 * (100 - a))
  else none
theorem kc_M_F {E B g K : Nat} {tb : Nat → Nat → Nat} {kd : Nat → Nat} {I I1 : Nat → Nat → Int32} (hE : E + 4 < 460) (hB : 535 < B) (h : kc_M E B g K tb kd I) (hF : ∀ c j, ¬ c = E + 3 → ¬ c = E + 4 → I1 c j = I c j) : kc_M E B g K tb kd I1 := by
  obtain ⟨m7, mK, m5, hg, m6, mk, mt⟩ := h
  refine ⟨(hF _ _ (by omega) (by omega)).trans m7, mK, (hF _ _ (by omega) (by omega)).trans m5, hg, (hF _ _ (by omega) (by omega)).trans m6, fun i hi => ?_, fun c k hc hk => ?_⟩
  · rw [hF _ _ (by omega) (by omega)]
    exact mk i hi
  · rw [hF _ _ (by omega) (by omega)]
    exact mt c k hc hk
def kc_c210 : wv_c1 := fun as T N I L R q => ∃ (E B g K : Nat) (tb : Nat → Nat → Nat) (kd gr : Nat → Nat), as = [.ref E] ∧ kc_D T R E ∧ kc_B T R E B ∧ kc_M E B g K tb kd I ∧ kc_G E K gr I ∧ (∀ s, s < K → gr s ≤ s) ∧ ∀ (g2 : Nat → Nat) (sp : Bool) I1, kg K (kg_1 (kc_mv tb g) gr) g2 → (sp = true ↔ ∃ s, s < K ∧ ¬ g2 s = gr s) → (∀ i, i < K → I1 (E + 3) i = Int32.ofNat (g2 i)) → (∀ c j, ¬ c = E + 3 → ¬ c = E + 4 → I1 c j = I c j) → q (.inl (some (.int (wb_i sp)))) T N I1 L R 0 0
set_option maxRecDepth 100000 in
theorem wM_210 : ∃ cb ci np, pt_mt 210 = some (10, cb, 4, false, some .boolean, ci, np) := ⟨_, _, _, rfl⟩
set_option maxRecDepth 100000 in
set_option maxHeartbeats 4000000 in
theorem kc_split {sc : pt_Sc} {d : Nat} : wv_C wm_fx sc (d + 1 + 1) 210 kc_c210 := by
  rintro as T N I L R q ⟨E, B, g, K, tb, kd, gr, rfl, hD, hB, hM, hG, hle, h⟩ w0 HR
  obtain ⟨cb, ci, np, hm⟩ := wM_210
  have hD2 := hD
  have hM2 := hM
  have hB2 := hB
  obtain ⟨hE, r0, r1, r2, r3, t1, t2, t3, t4, hb⟩ := hD
  obtain ⟨m7, mK, m5, hg, m6, mk, mt⟩ := hM

  obtain ⟨b1, b2, b3, b4⟩ := hB
  have hMI : ∀ I1 : Nat → Nat → Int32, (∀ c j, ¬ c = E + 4 → I1 c j = I c j) → kc_M E B g K tb kd I1 ∧ kc_G E K gr I1 := fun I1 hF => ⟨kc_M_F hb b3 hM2 (fun c j _ z => hF c j z), fun i hi => by rw [hF _ _ (by omega)]; exact hG i hi⟩
  have hc211 : wv_C wm_fx sc (d + 1) 211 kc_c211 := wv_C_deep (by omega) (kc_isAlike (d := d))
  refine wv_meth (hh := none) rfl (sp := wv_sp [(211, kc_c211)]) (hd := kc_h210 E g K tb gr T N I L R) (n := 300) (n1 := 300) hm zc_210 rfl (wv_sp_ok (fun q hq => by rw [List.mem_singleton.mp hq]; exact hc211)) ?_ ?_ HR
  · exact ⟨_, 0, fun _ => 0, false, none, rfl, rfl, rfl, rfl, rfl, rfl, rfl, rfl, fun s hs => by omega, fun i hi => by omega, fun _ _ _ => rfl, ⟨fun z => (by cases z), fun ⟨s, z, _⟩ => by omega⟩, Nat.zero_le _, rfl⟩
  · intro pc P hP m lv st T1 N1 I1 L1 R1 nc ns hh
    unfold kc_h210 at hP
    by_cases p4 : pc = 4
    · rw [if_pos p4] at hP
      cases hP
      subst p4
      obtain ⟨a, g2, sp, x3, rfl, rfl, rfl, rfl, rfl, rfl, rfl, rfl, hk, hl, hF, hs, ha, rfl⟩ := hh
      have ea := wi_on (n := a) (by omega)
      have eK := wi_on (n := K) (by omega)
      have eKn := wi_onn (n := K) (by omega)
      have e7 : I1 E 7 = Int32.ofNat K := (hF _ _ (by omega)).trans m7
      refine ⟨hE, fun w => ?_, fun w => ?_⟩
      · have w : I1 E 7 ≤ Int32.ofNat a := w
        rw [e7, wi_le, eK, ea] at w
        have e : a = K := by omega
        subst e
        have zt : ((Int32.ofInt 0).toInt : Int) = 0 := rfl
        refine ⟨hE, _, r3, hE, _, r2, hE, 0, 66, 66, ⟨t4, t3⟩, ⟨by omega, Or.inl (show E + 4 < 1099511627776 by omega), (show E + 3 < 1099511627776 by omega)⟩, ⟨by decide, by decide, by rw [e7, wi_le, eK, wi_0]; omega⟩, ⟨by rw [e7, eK, zt]; omega, by rw [e7, eK, zt]; omega⟩, Or.inl (by omega), ?_⟩
        have hq := h g2 sp (wv_cp I1 (E + 4) 0 (E + 3) 0 a) hk hs (fun i hi => ?_) (fun c j z1 z2 => ?_)
        · have ez : (Int32.ofInt 0).toNatClampNeg = 0 := rfl
          rw [e7, eKn]
          cases sp with
          | true => exact ⟨⟨rfl, rfl⟩, hq⟩
          | false => exact ⟨⟨rfl, rfl⟩, hq⟩
        · unfold wv_cp
          rw [if_pos ⟨rfl, Nat.zero_le _, by omega⟩, Nat.zero_add, Nat.sub_zero]
          exact hl i hi
        · unfold wv_cp
          rw [if_neg (fun z => z1 z.1)]
          exact hF c j z2
      · have w : ¬ I1 E 7 ≤ Int32.ofNat a := w
        rw [e7, wi_le, eK, ea] at w
        have hlt : a < K := by omega
        have hga := hle a hlt
        refine ⟨hE, _, r2, _, t3, pp_b (c := 66) (by omega) (by omega), ?_⟩
        rw [wi_onn (by omega), hF _ _ (by omega), (hG a hlt).1]
        refine ⟨200 * (100 - a) + 101 - gr a, by omega, a, gr a, g2, sp, rfl, rfl, rfl, rfl, rfl, rfl, rfl, rfl, hk, hl, hF, hs, hlt, hga, fun i hi z => ?_, rfl⟩
        have := hle i (by omega)
        have := z.1
        omega
    rw [if_neg p4] at hP
    by_cases p19 : pc = 19
    · rw [if_pos p19] at hP
      cases hP
      subst p19
      obtain ⟨a, f, g2, sp, rfl, rfl, rfl, rfl, rfl, rfl, rfl, rfl, hk, hl, hF, hs, ha, hf, hn, rfl⟩ := hh
      have ea := wi_on (n := a) (by omega)
      have ef := wi_on (n := f) (by omega)
      refine ⟨fun w => ?_, fun w => ?_⟩
      · rw [wi_le, ea, ef] at w
        have e : f = a := by omega
        subst e
        exact ⟨200 * (100 - f), by omega, f, f, g2, sp, rfl, rfl, rfl, rfl, rfl, rfl, rfl, rfl, hk, hl, hF, hs, ha, hf, ⟨rfl, fun _ _ => rfl⟩, hn, rfl⟩
      rw [wi_le, ea, ef] at w
      obtain ⟨hM1, hG1⟩ := hMI I1 hF
      refine ⟨hE, E, B, g, K, f, a, tb, kd, gr, rfl, hD2, hB2, hM1, hG1, by omega, ha, fun z => ?_, fun z => ?_⟩
      · refine ⟨fun _ => ?_, fun y => absurd (by decide) y⟩
        exact ⟨200 * (100 - a), by omega, a, f, g2, sp, rfl, rfl, rfl, rfl, rfl, rfl, rfl, rfl, hk, hl, hF, hs, ha, hf, z, hn, rfl⟩
      · refine ⟨fun y => absurd rfl y, fun _ => ?_⟩
        refine ⟨200 * (100 - a) + 101 - (f + 1), by omega, a, f + 1, g2, sp, by unfold kc_l10; rw [← wq_4s f]; rfl, rfl, rfl, rfl, rfl, rfl, rfl, rfl, hk, hl, hF, hs, ha, by omega, fun i hi => ?_, rfl⟩
        by_cases c : i = f
        · subst c
          exact z
        · exact hn i (by omega)
    rw [if_neg p19] at hP
    by_cases p39 : pc = 39
    · rw [if_pos p39] at hP
      cases hP
      subst p39
      obtain ⟨a, f, g2, sp, rfl, rfl, rfl, rfl, rfl, rfl, rfl, rfl, hk, hl, hF, hs, ha, hf, he, hn, rfl⟩ := hh
      have gb := (hG a ha).2
      refine ⟨hE, _, r3, _, t4, pp_b (c := 66) (by omega) (by omega), (show E + 4 < 1099511627776 by omega), ?_⟩
      rw [wi_onn (by omega)]
      have hl2 : ∀ i, i < a + 1 → wv_u I1 (E + 4) a (Int32.ofNat f) (E + 4) i = Int32.ofNat (ku g2 a f i) := fun i hi => by
        by_cases c : i = a
        · subst c
          rw [wv_u_at, ku_at]
        · rw [wv_u_no _ _ (by omega), ku_no c]
          exact hl i (by omega)
      have hF2 : ∀ c j, ¬ c = E + 4 → wv_u I1 (E + 4) a (Int32.ofNat f) c j = I c j := fun c j z => by
        rw [wv_u_no _ _ (by omega)]
        exact hF c j z
      refine ⟨hE, _, r2, _, t3, pp_b (c := 66) (by omega) (by omega), ?_⟩
      rw [wi_onn (by omega), hF2 _ _ (by omega), (hG a ha).1]
      refine ⟨fun w => ?_, fun w => ?_⟩
      · have w : Int32.ofNat f = Int32.ofNat (gr a) := w
        rw [wi_eq, wi_on (by omega), wi_on (by omega)] at w
        refine ⟨200 * (100 - (a + 1)) + 199, by omega, a + 1, ku g2 a f, sp, _, by unfold kc_l10; rw [← wq_4s a]; rfl, rfl, rfl, rfl, rfl, rfl, rfl, rfl, kg_ext hk hf he hn, hl2, hF2, hs.trans ⟨fun ⟨s, s1, s2⟩ => ⟨s, by omega, by rw [ku_no (by omega)]; exact s2⟩, fun ⟨s, s1, s2⟩ => ?_⟩, by omega, rfl⟩
        by_cases c : s = a
        · subst c
          rw [ku_at] at s2
          exact (s2 (by omega)).elim
        · rw [ku_no c] at s2
          exact ⟨s, by omega, s2⟩
      · have w : ¬ Int32.ofNat f = Int32.ofNat (gr a) := w
        refine ⟨200 * (100 - (a + 1)) + 199, by omega, a + 1, ku g2 a f, true, _, by unfold kc_l10; rw [← wq_4s a]; rfl, rfl, rfl, rfl, rfl, rfl, rfl, rfl, kg_ext hk hf he hn, hl2, hF2, ⟨fun _ => ⟨a, by omega, by rw [ku_at]; exact fun z => w (by rw [z])⟩, fun _ => rfl⟩, by omega, rfl⟩
    rw [if_neg p39] at hP
    cases hP
