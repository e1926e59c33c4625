/-! ===== the reference: what is reached, and rounds of splitting ===== -/
def rs_l30 (f e set : Int64) (x7 x8 : Option Value) : List (Option Value) := [some (.ref 460), some (.long f), none, some (.long e), none, some (.long set), none, x7, x8, none, none, none, none, none]
def rs_h430 (U : np_A) (f e : Int64) (T : wv_T) (N : Nat) (I : Nat → Nat → Int32) (L : Nat → Nat → Int64) (R : Nat → Nat → Option Nat) : Nat → Option (Nat → wv_P) := fun pc =>
  if pc = 6 then some (fun mm lv st T1 N1 I1 L1 R1 nc ns => ∃ (r : Nat) (set : Int64) (x8 : Option Value), lv = rs_l30 f e set (pb_i r) x8 ∧ st = [] ∧ T1 = T ∧ N1 = N ∧ R1 = R ∧ nc = 0 ∧ ns = 0 ∧ I1 = I ∧ L1 = L ∧ r ≤ 64 ∧ rc_i U f set ∧ rc_r U set r ∧ mm = 1000 * (64 - r) + 999)
  else if pc = 16 then some (fun mm lv st T1 N1 I1 L1 R1 nc ns => ∃ (r p : Nat) (s0 set : Int64), lv = rs_l30 f e set (pb_i r) (pb_i p) ∧ st = [] ∧ T1 = T ∧ N1 = N ∧ R1 = R ∧ nc = 0 ∧ ns = 0 ∧ I1 = I ∧ L1 = L ∧ r < 64 ∧ p ≤ np_n U ∧ rc_i U f set ∧ rc_r U s0 r ∧ rc_s U s0 set p ∧ mm = 1000 * (64 - r) + (64 - p))
  else none
def rs_B (U : np_A) (L : Nat → Nat → Int64) : Prop := ∀ p, p < np_n U → ∀ q, q < 64 → (nb (L 507 p) q = true ↔ q < np_n U ∧ np_B U p q = true)
def rs_c430 : wv_c1 := fun as T N I L R q => ∃ (U : np_A) (f e : Int64), as = [.ref 460, .long f, .long e] ∧ wm_T T ∧ I 460 75 = Int32.ofNat (np_n U) ∧ np_n U ≤ 60 ∧ rs_B U L ∧ (∀ q, q < 64 → nb f q = true → q < np_n U) ∧ (∀ q, q < 64 → (nb e q = true ↔ q < np_n U ∧ np_L U q = true)) ∧ ∀ b : Bool, (b = true ↔ ∃ p, p < np_n U ∧ nb f p = true ∧ ∃ m q, rb U m p q ∧ np_L U q = true) → q (.inl (some (.int (wb_i b)))) T N I L R 0 0
set_option maxRecDepth 100000 in
theorem wM_430 : ∃ cb ci np, pt_mt 430 = some (32, cb, 9, false, some .boolean, ci, np) := ⟨_, _, _, rfl⟩
set_option maxRecDepth 100000 in
set_option maxHeartbeats 4000000 in
theorem rs_reaches {sc : pt_Sc} {d : Nat} : wv_C wm_fx sc (d + 1 + 1) 430 rs_c430 := by
  rintro as T N I L R q ⟨U, f, e, rfl, hT, h75, h60, hB, hf, he, h⟩ w0 HR
  obtain ⟨cb, ci, np, hm⟩ := wM_430
  have hc423 : wv_C wm_fx sc (d + 1) 423 pb_c423 := wv_C_deep (by omega) (pb_hasBit (d := d))
  refine wv_meth (hh := none) rfl (sp := wv_sp [(423, pb_c423)]) (hd := rs_h430 U f e T N I L R) (n := 300) (n1 := 300) hm zc_430 rfl (wv_sp_ok (fun q hq => by rw [List.mem_singleton.mp hq]; exact hc423)) ?_ ?_ HR
  · exact ⟨_, 0, f, none, rfl, rfl, rfl, rfl, rfl, rfl, rfl, rfl, rfl, Nat.zero_le _, ⟨fun _ _ z => z, fun q hq z => ⟨hf q hq z, q, hf q hq z, z, 0, rfl⟩⟩, Or.inr (Nat.zero_le _), rfl⟩
  · intro pc P hP m lv st T1 N1 I1 L1 R1 nc ns hh
    have e64 : ((Int8.ofInt 64).toInt32).toInt = 64 := rfl
    have eu := wi_on (n := np_n U) (by omega)
    unfold rs_h430 at hP
    by_cases p6 : pc = 6
    · rw [if_pos p6] at hP
      cases hP
      subst p6
      obtain ⟨r, set, x8, rfl, rfl, rfl, rfl, rfl, rfl, rfl, rfl, rfl, hr, hi, hrr, rfl⟩ := hh
      have er := wi_on (n := r) (by omega)
      refine ⟨fun w => ?_, fun w => ?_⟩
      · rw [wi_le, e64, er] at w
        have e : r = 64 := by omega
        subst e
        have hfin := rc_fin h60 hi (rc_end h60 hrr) he
        refine ⟨fun w1 => ⟨⟨rfl, rfl⟩, h false ?_⟩, fun w1 => ⟨⟨rfl, rfl⟩, h true ?_⟩⟩
        · have w1 : lg_cmp (set &&& e) 0 = 0 := w1
          exact ⟨fun z => (by cases z), fun z => (hfin.mpr z (lg_cmp_0.mp w1)).elim⟩
        · have w1 : ¬ lg_cmp (set &&& e) 0 = 0 := w1
          exact ⟨fun _ => hfin.mp (fun z => w1 (lg_cmp_0.mpr z)), fun _ => rfl⟩
      · rw [wi_le, e64, er] at w
        exact ⟨1000 * (64 - r) + (64 - 0), by omega, r, 0, set, set, rfl, rfl, rfl, rfl, rfl, rfl, rfl, rfl, rfl, by omega, Nat.zero_le _, hi, hrr, rc_s0, rfl⟩
    rw [if_neg p6] at hP
    by_cases p16 : pc = 16
    · rw [if_pos p16] at hP
      cases hP
      subst p16
      obtain ⟨r, p, s0, set, rfl, rfl, rfl, rfl, rfl, rfl, rfl, rfl, rfl, hr, hp, hi, hrr, hs, rfl⟩ := hh
      have ep := wi_on (n := p) (by omega)
      have epn := wi_onn (n := p) (by omega)
      refine ⟨fun w => ?_, fun w => ?_⟩
      · rw [h75, wi_le, eu, ep] at w
        have e : p = np_n U := by omega
        subst e
        refine ⟨1000 * (64 - (r + 1)) + 999, by omega, r + 1, set, pb_i (np_n U), ?_, rfl, rfl, rfl, rfl, rfl, rfl, rfl, rfl, by omega, hi, rc_round hi hs hrr, rfl⟩
        unfold rs_l30 pb_i
        rw [← wq_4s r]
        rfl
      · rw [h75, wi_le, eu, ep] at w
        have hpU : p < np_n U := by omega
        have el : ∀ set2 : Int64, rs_l30 f e set2 (pb_i r) (some (.int (Int32.ofNat p + Int32.ofInt 1))) = rs_l30 f e set2 (pb_i r) (pb_i (p + 1)) := fun set2 => by
          rw [wq_4s]
          rfl
        refine ⟨set, p, rfl, by omega, ?_⟩
        refine ⟨fun w1 => ?_, fun w1 => ?_⟩
        · have w1 : nb set p = false := wb_i_2.mp (fun z => z w1)
          refine ⟨1000 * (64 - r) + (64 - (p + 1)), by omega, r, p + 1, s0, set ||| 0, el _, rfl, rfl, rfl, rfl, rfl, rfl, rfl, rfl, hr, by omega, by rw [pb_or0]; exact hi, hrr, by rw [pb_or0]; exact rc_n (by omega) hpU hs (by rw [w1]; decide), rfl⟩
        · have w1 : nb set p = true := wb_i_1.mp w1
          refine ⟨_, wm_t hT rfl, pp_b (c := 64) (by omega) (by omega), ?_⟩
          rw [epn]
          obtain ⟨y1, y2⟩ := rc_y (by omega) hpU (hB p hpU) hi hs w1
          exact ⟨1000 * (64 - r) + (64 - (p + 1)), by omega, r, p + 1, s0, set ||| L1 507 p, el _, rfl, rfl, rfl, rfl, rfl, rfl, rfl, rfl, hr, by omega, y1, hrr, y2, rfl⟩
    rw [if_neg p16] at hP
    cases hP
/-- moves and part numbers in memory -/
def rf_m (K : Nat) (mv : Nat → Nat → Nat) (I : Nat → Nat → Int32) : Prop := ∀ c v, c < K → v < 64 → I 517 (64 * c + v) = Int32.ofNat (mv c v)
def rf_p (K : Nat) (pg : Nat → Nat) (I : Nat → Nat → Int32) : Prop := ∀ c, c < K → I 518 c = Int32.ofNat (pg c) ∧ pg c < 1000
def rf_l32 (k j : Nat) (b : Bool) (x4 : Option Value) : List (Option Value) := [some (.ref 460), some (.int (Int32.ofNat k)), some (.int (Int32.ofNat j)), some (.int (wb_i b)), x4, none, none, none]
def rf_h432 (k j : Nat) (mv : Nat → Nat → Nat) (pg : Nat → Nat) (T : wv_T) (N : Nat) (I : Nat → Nat → Int32) (L : Nat → Nat → Int64) (R : Nat → Nat → Option Nat) : Nat → Option (Nat → wv_P) := fun pc =>
  if pc = 24 then some (fun mm lv st T1 N1 I1 L1 R1 nc ns => ∃ (v : Nat) (b : Bool), lv = rf_l32 k j b (pb_i v) ∧ st = [] ∧ T1 = T ∧ N1 = N ∧ R1 = R ∧ nc = 0 ∧ ns = 0 ∧ I1 = I ∧ L1 = L ∧ v ≤ 64 ∧ (b = true ↔ pg k = pg j ∧ ∀ u, u < v → pg (mv k u) = pg (mv j u)) ∧ mm = 64 - v)
  else none
def rf_c432 : wv_c1 := fun as T N I L R q => ∃ (K k j : Nat) (mv : Nat → Nat → Nat) (pg : Nat → Nat), as = [.ref 460, .int (Int32.ofNat k), .int (Int32.ofNat j)] ∧ wm_T T ∧ K ≤ 65 ∧ k < K ∧ j < K ∧ df_ok K mv ∧ rf_m K mv I ∧ rf_p K pg I ∧ ∀ b : Bool, (b = true ↔ kg_1 mv pg k j) → q (.inl (some (.int (wb_i b)))) T N I L R 0 0
set_option maxRecDepth 100000 in
theorem wM_432 : ∃ cb ci np, pt_mt 432 = some (32, cb, 5, false, some .boolean, ci, np) := ⟨_, _, _, rfl⟩
set_option maxRecDepth 100000 in
set_option maxHeartbeats 4000000 in
theorem rf_sameMoves {sc : pt_Sc} {d : Nat} : wv_C wm_fx sc (d + 1) 432 rf_c432 := by
  rintro as T N I L R q ⟨K, k, j, mv, pg, rfl, hT, hK, hk, hj, ho, hm2, hp, h⟩ w0 HR
  obtain ⟨cb, ci, np, hm⟩ := wM_432
  refine wv_meth (hh := none) rfl (sp := fun _ _ _ _ _ _ _ _ => False) (hd := rf_h432 k j mv pg T N I L R) (n := 300) (n1 := 300) hm zc_432 rfl (fun k as T N I L R q h => by cases h) ?_ ?_ HR
  · have ekn := wi_onn (n := k) (by omega)
    have ejn := wi_onn (n := j) (by omega)
    obtain ⟨p1, p2⟩ := hp k hk
    obtain ⟨p3, p4⟩ := hp j hj
    refine ⟨_, wm_t hT rfl, pp_b (c := 320) (by omega) (by omega), ?_⟩
    refine ⟨_, wm_t hT rfl, pp_b (c := 320) (by omega) (by omega), ?_⟩
    rw [ekn, ejn, p1, p3]
    refine ⟨fun w => ?_, fun w => ?_⟩
    · rw [wi_eq, wi_on (by omega), wi_on (by omega)] at w
      exact ⟨_, 0, false, rfl, rfl, rfl, rfl, rfl, rfl, rfl, rfl, rfl, Nat.zero_le _, ⟨fun z => (by cases z), fun z => by omega⟩, rfl⟩
    · rw [wi_eq, wi_on (by omega), wi_on (by omega)] at w
      exact ⟨_, 0, true, rfl, rfl, rfl, rfl, rfl, rfl, rfl, rfl, rfl, Nat.zero_le _, ⟨fun _ => ⟨by omega, fun u hu => by omega⟩, fun _ => rfl⟩, rfl⟩
  · intro pc P hP m lv st T1 N1 I1 L1 R1 nc ns hh
    have ekn := wi_onn (n := k) (by omega)
    have ejn := wi_onn (n := j) (by omega)
    have e64 : ((Int8.ofInt 64).toInt32).toInt = 64 := rfl
    unfold rf_h432 at hP
    by_cases p24 : pc = 24
    · rw [if_pos p24] at hP
      cases hP
      subst p24
      obtain ⟨v, b, rfl, rfl, rfl, rfl, rfl, rfl, rfl, rfl, rfl, hv, hb, rfl⟩ := hh
      have ev := wi_on (n := v) (by omega)
      refine ⟨fun w => ?_, fun w => ?_⟩
      · rw [wi_le, e64, ev] at w
        have e : v = 64 := by omega
        subst e
        have hq := h b hb
        cases b with
        | true => exact ⟨⟨rfl, rfl⟩, hq⟩
        | false => exact ⟨⟨rfl, rfl⟩, hq⟩
      · rw [wi_le, e64, ev] at w
        refine ⟨fun w1 => ?_, fun w1 => ?_⟩
        · have w1 : b = false := wb_i_2.mp (fun z => z w1)
          subst w1
          exact ⟨⟨rfl, rfl⟩, h false ⟨fun z => (by cases z), fun z => hb.mpr ⟨z.1, fun u hu => z.2 u (by omega)⟩⟩⟩
        have w1 : b = true := wb_i_1.mp w1
        obtain ⟨b1, b2⟩ := hb.mp w1
        have a1 := ho.2 k hk v (by omega)
        have a2 := ho.2 j hj v (by omega)
        have m1 := hm2 k v hk (by omega)
        have m2 := hm2 j v hj (by omega)
        obtain ⟨p1, p2⟩ := hp _ a1
        obtain ⟨p3, p4⟩ := hp _ a2
        have x1 := wi_onn (n := 64 * k + v) (by omega)
        have x2 := wi_onn (n := 64 * j + v) (by omega)
        have x3 := wi_onn (n := mv k v) (by omega)
        have x4 := wi_onn (n := mv j v) (by omega)
        refine ⟨_, wm_t hT rfl, by rw [rs_64]; exact pp_b (c := 20480) (by omega) (by omega), ?_⟩
        rw [rs_64, x1, m1]
        refine ⟨_, wm_t hT rfl, pp_b (c := 320) (by omega) (by omega), ?_⟩
        refine ⟨_, wm_t hT rfl, by rw [rs_64]; exact pp_b (c := 20480) (by omega) (by omega), ?_⟩
        rw [rs_64, x2, m2]
        refine ⟨_, wm_t hT rfl, pp_b (c := 320) (by omega) (by omega), ?_⟩
        rw [x3, x4, p1, p3]
        have el : ∀ b3 : Bool, rf_l32 k j b3 (some (.int (Int32.ofNat v + Int32.ofInt 1))) = rf_l32 k j b3 (pb_i (v + 1)) := fun b3 => by
          rw [wq_4s]
          rfl
        refine ⟨fun w2 => ?_, fun w2 => ?_⟩
        · rw [wi_eq, wi_on (by omega), wi_on (by omega)] at w2
          exact ⟨64 - (v + 1), by omega, v + 1, false, el false, rfl, rfl, rfl, rfl, rfl, rfl, rfl, rfl, by omega, ⟨fun z => (by cases z), fun z => by have := z.2 v (by omega); omega⟩, rfl⟩
        · rw [wi_eq, wi_on (by omega), wi_on (by omega)] at w2
          exact ⟨64 - (v + 1), by omega, v + 1, true, el true, rfl, rfl, rfl, rfl, rfl, rfl, rfl, rfl, by omega, ⟨fun _ => ⟨b1, fun u hu => by
            by_cases e : u = v
            · subst e
              omega
            · exact b2 u (by omega)⟩, fun _ => rfl⟩, rfl⟩
    rw [if_neg p24] at hP
    cases hP
def rf_l31 (m k : Nat) (x3 : Option Value) : List (Option Value) := [some (.ref 460), some (.int (Int32.ofNat m)), some (.int (Int32.ofNat k)), x3, none]
def rf_n (k : Nat) (gr : Nat → Nat) (I : Nat → Nat → Int32) : Prop := ∀ i, i < k → I 519 i = Int32.ofNat (kn gr (gr i))
def rf_h431 (K : Nat) (mv : Nat → Nat → Nat) (pg : Nat → Nat) (T : wv_T) (N : Nat) (I : Nat → Nat → Int32) (L : Nat → Nat → Int64) (R : Nat → Nat → Option Nat) : Nat → Option (Nat → wv_P) := fun pc =>
  if pc = 4 then some (fun mm lv st T1 N1 I1 L1 R1 nc ns => ∃ (k : Nat) (gr : Nat → Nat) (x3 : Option Value), lv = rf_l31 (kn gr k) k x3 ∧ st = [] ∧ T1 = T ∧ N1 = N ∧ R1 = R ∧ nc = 0 ∧ ns = 0 ∧ L1 = L ∧ kg k (kg_1 mv pg) gr ∧ rf_n k gr I1 ∧ k ≤ K ∧ (∀ c j, ¬ c = 519 → I1 c j = I c j) ∧ mm = 10000 + 100 * (100 - k) + 99)
  else if pc = 21 then some (fun mm lv st T1 N1 I1 L1 R1 nc ns => ∃ (k j : Nat) (gr : Nat → Nat), lv = rf_l31 (kn gr k) k (pb_i j) ∧ st = [] ∧ T1 = T ∧ N1 = N ∧ R1 = R ∧ nc = 0 ∧ ns = 0 ∧ L1 = L ∧ kg k (kg_1 mv pg) gr ∧ rf_n k gr I1 ∧ k < K ∧ j ≤ k ∧ (((∀ f, f < j → ¬ kg_1 mv pg f k) ∧ I1 519 k = Int32.ofInt (-1)) ∨ ∃ f, f < j ∧ kg_1 mv pg f k ∧ (∀ f2, f2 < f → ¬ kg_1 mv pg f2 k) ∧ I1 519 k = Int32.ofNat (kn gr (gr f))) ∧ (∀ c j, ¬ c = 519 → I1 c j = I c j) ∧ mm = 10000 + 100 * (100 - k) + (98 - j))
  else if pc = 93 then some (fun mm lv st T1 N1 I1 L1 R1 nc ns => ∃ (i : Nat) (gr : Nat → Nat) (x3 : Option Value), lv = rf_l31 (kn gr K) i x3 ∧ st = [] ∧ T1 = T ∧ N1 = N ∧ R1 = R ∧ nc = 0 ∧ ns = 0 ∧ L1 = L ∧ kg K (kg_1 mv pg) gr ∧ rf_n K gr I1 ∧ i ≤ K ∧ (∀ a, a < i → I1 518 a = Int32.ofNat (kn gr (gr a))) ∧ (∀ c j, ¬ c = 519 → ¬ c = 518 → I1 c j = I c j) ∧ mm = 1000 - i)
  else none
def rf_c431 : wv_c1 := fun as T N I L R q => ∃ (K : Nat) (mv : Nat → Nat → Nat) (pg : Nat → Nat), as = [.ref 460] ∧ wm_T T ∧ I 460 88 = Int32.ofNat K ∧ K ≤ 65 ∧ df_ok K mv ∧ rf_m K mv I ∧ rf_p K pg I ∧ ∀ gr I1, kg K (kg_1 mv pg) gr → rf_p K (fun i => kn gr (gr i)) I1 → (∀ c j, ¬ c = 519 → ¬ c = 518 → I1 c j = I c j) → q (.inl (some (.int (Int32.ofNat (kn gr K))))) T N I1 L R 0 0
set_option maxRecDepth 100000 in
theorem wM_431 : ∃ cb ci np, pt_mt 431 = some (32, cb, 4, false, some .int, ci, np) := ⟨_, _, _, rfl⟩
set_option maxRecDepth 100000 in
set_option maxHeartbeats 4000000 in
theorem rf_refine {sc : pt_Sc} {d : Nat} : wv_C wm_fx sc (d + 1 + 1) 431 rf_c431 := by
  rintro as T N I L R q ⟨K, mv, pg, rfl, hT, h88, hK, ho, hm2, hp, h⟩ w0 HR
  obtain ⟨cb, ci, np, hm⟩ := wM_431
  have hc432 : wv_C wm_fx sc (d + 1) 432 rf_c432 := wv_C_deep (by omega) (rf_sameMoves (d := d))
  refine wv_meth (hh := none) rfl (sp := wv_sp [(432, rf_c432)]) (hd := rf_h431 K mv pg T N I L R) (n := 300) (n1 := 300) hm zc_431 rfl (wv_sp_ok (fun q hq => by rw [List.mem_singleton.mp hq]; exact hc432)) ?_ ?_ HR
  · exact ⟨_, 0, fun _ => 0, none, rfl, rfl, rfl, rfl, rfl, rfl, rfl, rfl, fun s hs => by omega, fun i hi => by omega, Nat.zero_le _, fun _ _ _ => rfl, rfl⟩
  · intro pc P hP m lv st T1 N1 I1 L1 R1 nc ns hh
    have eK := wi_on (n := K) (by omega)
    unfold rf_h431 at hP
    by_cases p4 : pc = 4
    · rw [if_pos p4] at hP
      cases hP
      subst p4
      obtain ⟨k, gr, x3, rfl, rfl, rfl, rfl, rfl, rfl, rfl, rfl, hg, hn, hk, hF, rfl⟩ := hh
      have ek := wi_on (n := k) (by omega)
      have ekn := wi_onn (n := k) (by omega)
      have i88 : I1 460 88 = Int32.ofNat K := (hF _ _ (by omega)).trans h88
      refine ⟨fun w => ?_, fun w => ?_⟩
      · rw [i88, wi_le, eK, ek] at w
        have e : k = K := by omega
        subst e
        exact ⟨1000 - 0, by omega, 0, gr, _, rfl, rfl, rfl, rfl, rfl, rfl, rfl, rfl, hg, hn, Nat.zero_le _, fun a ha => by omega, fun c j z _ => hF c j z, rfl⟩
      · rw [i88, wi_le, eK, ek] at w
        refine ⟨_, wm_t hT rfl, pp_b (c := 320) (by omega) (by omega), by decide, ?_⟩
        rw [ekn]
        refine ⟨10000 + 100 * (100 - k) + (98 - 0), by omega, k, 0, gr, rfl, rfl, rfl, rfl, rfl, rfl, rfl, rfl, hg, fun i hi => ?_, by omega, Nat.zero_le _, Or.inl ⟨fun f hf => by omega, wv_u_at _ _ _ _⟩, fun c j z => ?_, rfl⟩
        · rw [wv_u_no _ _ (by omega)]
          exact hn i hi
        · rw [wv_u_no _ _ (by omega)]
          exact hF c j z
    rw [if_neg p4] at hP
    by_cases p21 : pc = 21
    · rw [if_pos p21] at hP
      cases hP
      subst p21
      obtain ⟨k, j, gr, rfl, rfl, rfl, rfl, rfl, rfl, rfl, rfl, hg, hn, hk, hj, hcs, hF, rfl⟩ := hh
      have ek := wi_on (n := k) (by omega)
      have ekn := wi_onn (n := k) (by omega)
      have ej := wi_on (n := j) (by omega)
      have ejn := wi_onn (n := j) (by omega)
      have hkk : kg_1 mv pg k k := ⟨rfl, fun _ _ => rfl⟩
      have htr : ∀ a b c, kg_1 mv pg a b → kg_1 mv pg b c → kg_1 mv pg a c := fun a b c z1 z2 => ⟨z1.1.trans z2.1, fun v hv => (z1.2 v hv).trans (z2.2 v hv)⟩
      have hsy : ∀ a b, kg_1 mv pg a b → kg_1 mv pg b a := fun a b z => ⟨z.1.symm, fun v hv => (z.2 v hv).symm⟩
      have hm1 : ¬ (0 : Int32) ≤ Int32.ofInt (-1) := by decide
      have ekk : Int32.ofNat k + Int32.ofInt 1 = Int32.ofNat (k + 1) := wq_4s k
      have knb : ∀ x, x ≤ 65 → kn gr x < 1000 := fun x hx => by
        have := kn_b (gr := gr) x
        omega
      have newS : ∀ x3 : Option Value, (∀ f, f < k → ¬ kg_1 mv pg f k) → I1 519 k = Int32.ofInt (-1) → ∃ m', m' < 10000 + 100 * (100 - k) + (98 - j) ∧ ∃ (k2 : Nat) (gr2 : Nat → Nat) (x32 : Option Value), [some (Value.ref 460), some (.int (Int32.ofNat (kn gr k) + Int32.ofInt 1)), some (.int (Int32.ofNat k + Int32.ofInt 1)), x3, none] = rf_l31 (kn gr2 k2) k2 x32 ∧ ([] : List Value) = [] ∧ T1 = T1 ∧ N1 = N1 ∧ R1 = R1 ∧ (0 : Nat) = 0 ∧ (0 : Nat) = 0 ∧ L1 = L1 ∧ kg k2 (kg_1 mv pg) gr2 ∧ rf_n k2 gr2 (wv_u I1 519 k (Int32.ofNat (kn gr k))) ∧ k2 ≤ K ∧ (∀ c j, ¬ c = 519 → wv_u I1 519 k (Int32.ofNat (kn gr k)) c j = I c j) ∧ m' = 10000 + 100 * (100 - k2) + 99 := fun x3 hno _ => by
        obtain ⟨e1, e2, e3, e4⟩ := rf_new hg hkk hno
        refine ⟨10000 + 100 * (100 - (k + 1)) + 99, by omega, k + 1, po_u gr k k, x3, ?_, rfl, rfl, rfl, rfl, rfl, rfl, rfl, e1, fun i hi => ?_, by omega, fun c j z => ?_, rfl⟩
        · rw [wq_4s, wq_4s, ← e2]
          rfl
        · by_cases e : i = k
          · subst e
            rw [wv_u_at, e4]
          · rw [wv_u_no _ _ (by omega), e3 i (by omega)]
            exact hn i (by omega)
        · rw [wv_u_no _ _ (by omega)]
          exact hF c j z
      have oldS : ∀ (x3 : Option Value) (f : Nat), f < k → kg_1 mv pg f k → (∀ f2, f2 < f → ¬ kg_1 mv pg f2 k) → I1 519 k = Int32.ofNat (kn gr (gr f)) → ∃ m', m' < 10000 + 100 * (100 - k) + (98 - j) ∧ ∃ (k2 : Nat) (gr2 : Nat → Nat) (x32 : Option Value), [some (Value.ref 460), some (.int (Int32.ofNat (kn gr k))), some (.int (Int32.ofNat k + Int32.ofInt 1)), x3, none] = rf_l31 (kn gr2 k2) k2 x32 ∧ ([] : List Value) = [] ∧ T1 = T1 ∧ N1 = N1 ∧ R1 = R1 ∧ (0 : Nat) = 0 ∧ (0 : Nat) = 0 ∧ L1 = L1 ∧ kg k2 (kg_1 mv pg) gr2 ∧ rf_n k2 gr2 I1 ∧ k2 ≤ K ∧ (∀ c j, ¬ c = 519 → I1 c j = I c j) ∧ m' = 10000 + 100 * (100 - k2) + 99 := fun x3 f hf h1 h2 h3 => by
        obtain ⟨e0, e1, e2, e3, e4⟩ := rf_old hg htr hf h1 h2
        refine ⟨10000 + 100 * (100 - (k + 1)) + 99, by omega, k + 1, po_u gr k f, x3, ?_, rfl, rfl, rfl, rfl, rfl, rfl, rfl, e1, fun i hi => ?_, by omega, hF, rfl⟩
        · rw [wq_4s, ← e2]
          rfl
        · by_cases e : i = k
          · subst e
            rw [e4]
            exact h3
          · rw [e3 i (by omega)]
            exact hn i (by omega)
      have pos : ∀ f, f < k → (0 : Int32) ≤ Int32.ofNat (kn gr (gr f)) := fun f hf => by
        have := (hg f hf).1
        have := knb (gr f) (by omega)
        rw [wi_le, wi_on (by omega), wi_0]
        omega
      refine ⟨fun w => ?_, fun w => ?_⟩
      · rw [wi_le, ek, ej] at w
        have e : j = k := by omega
        subst e
        refine ⟨_, wm_t hT rfl, pp_b (c := 320) (by omega) (by omega), ?_⟩
        rw [ekn]
        rcases hcs with ⟨c1, c2⟩ | ⟨f, f1, f2, f3, f4⟩
        · rw [c2]
          refine ⟨fun w1 => (hm1 w1).elim, fun w1 => ?_⟩
          refine ⟨_, wm_t hT rfl, pp_b (c := 320) (by omega) (by omega), by decide, ?_⟩
          rw [ekn]
          exact newS _ c1 c2
        · rw [f4]
          refine ⟨fun w1 => ?_, fun w1 => (w1 (pos f f1)).elim⟩
          exact oldS _ f f1 f2 f3 f4
      · rw [wi_le, ek, ej] at w
        have hjk : j < k := by omega
        refine ⟨_, wm_t hT rfl, pp_b (c := 320) (by omega) (by omega), ?_⟩
        rw [ekn]
        rcases hcs with ⟨c1, c2⟩ | ⟨f, f1, f2, f3, f4⟩
        · rw [c2]
          refine ⟨fun w1 => (hm1 w1).elim, fun w1 => ?_⟩
          have hm3 : rf_m K mv I1 := fun c v hc hv => by
            rw [hF _ _ (by omega)]
            exact hm2 c v hc hv
          have hp3 : rf_p K pg I1 := fun c hc => by
            rw [hF _ _ (by omega)]
            exact hp c hc
          refine ⟨K, k, j, mv, pg, rfl, hT, hK, hk, by omega, ho, hm3, hp3, fun b hb => ?_⟩
          have el : rf_l31 (kn gr k) k (some (.int (Int32.ofNat j + Int32.ofInt 1))) = rf_l31 (kn gr k) k (pb_i (j + 1)) := by
            rw [wq_4s]
            rfl
          refine ⟨fun w2 => ?_, fun w2 => ?_⟩
          · have w2 : b = false := wb_i_2.mp (fun z => z w2)
            have hno : ¬ kg_1 mv pg j k := fun z => by
              rw [hb.mpr (hsy _ _ z)] at w2
              cases w2
            refine ⟨_, wm_t hT rfl, pp_b (c := 320) (by omega) (by omega), by decide, ?_⟩
            rw [ekn]
            refine ⟨10000 + 100 * (100 - k) + (98 - (j + 1)), by omega, k, j + 1, gr, el, rfl, rfl, rfl, rfl, rfl, rfl, rfl, hg, fun i hi => ?_, hk, by omega, Or.inl ⟨fun f hf => ?_, wv_u_at _ _ _ _⟩, fun c i z => ?_, rfl⟩
            · rw [wv_u_no _ _ (by omega)]
              exact hn i hi
            · by_cases e : f = j
              · subst e
                exact hno
              · exact c1 f (by omega)
            · rw [wv_u_no _ _ (by omega)]
              exact hF c i z
          · have w2 : b = true := wb_i_1.mp w2
            have hyes := hsy _ _ (hb.mp w2)
            refine ⟨_, wm_t hT rfl, pp_b (c := 320) (by omega) (by omega), ?_⟩
            rw [ejn, hn j hjk]
            refine ⟨_, wm_t hT rfl, pp_b (c := 320) (by omega) (by omega), by decide, ?_⟩
            rw [ekn]
            refine ⟨10000 + 100 * (100 - k) + (98 - (j + 1)), by omega, k, j + 1, gr, el, rfl, rfl, rfl, rfl, rfl, rfl, rfl, hg, fun i hi => ?_, hk, by omega, Or.inr ⟨j, by omega, hyes, fun f2 hf2 => c1 f2 hf2, wv_u_at _ _ _ _⟩, fun c i z => ?_, rfl⟩
            · rw [wv_u_no _ _ (by omega)]
              exact hn i hi
            · rw [wv_u_no _ _ (by omega)]
              exact hF c i z
        · rw [f4]
          refine ⟨fun w1 => ?_, fun w1 => (w1 (pos f (by omega))).elim⟩
          refine ⟨_, wm_t hT rfl, pp_b (c := 320) (by omega) (by omega), ?_⟩
          rw [ekn, f4]
          refine ⟨fun w2 => ?_, fun w2 => (w2 (pos f (by omega))).elim⟩
          exact oldS _ f (by omega) f2 f3 f4
    rw [if_neg p21] at hP
    by_cases p93 : pc = 93
    · rw [if_pos p93] at hP
      cases hP
      subst p93
      obtain ⟨i, gr, x3, rfl, rfl, rfl, rfl, rfl, rfl, rfl, rfl, hg, hn, hi, h8, hF, rfl⟩ := hh
      have ei := wi_on (n := i) (by omega)
      have ein := wi_onn (n := i) (by omega)
      have i88 : I1 460 88 = Int32.ofNat K := (hF _ _ (by omega) (by omega)).trans h88
      refine ⟨fun w => ?_, fun w => ?_⟩
      · rw [i88, wi_le, eK, ei] at w
        have e : i = K := by omega
        subst e
        exact h gr _ hg (fun c hc => ⟨h8 c hc, by
          have := kn_b (gr := gr) (gr c)
          have := (hg c hc).1
          show kn gr (gr c) < 1000
          omega⟩) hF
      · rw [i88, wi_le, eK, ei] at w
        refine ⟨_, wm_t hT rfl, pp_b (c := 320) (by omega) (by omega), ?_⟩
        rw [ein, hn i (by omega)]
        refine ⟨_, wm_t hT rfl, pp_b (c := 320) (by omega) (by omega), by decide, ?_⟩
        rw [ein]
        refine ⟨1000 - (i + 1), by omega, i + 1, gr, x3, ?_, rfl, rfl, rfl, rfl, rfl, rfl, rfl, hg, fun a ha => ?_, by omega, fun a ha => ?_, fun c j z1 z2 => ?_, rfl⟩
        · unfold rf_l31
          rw [← wq_4s i]
          rfl
        · rw [wv_u_no _ _ (by omega)]
          exact hn a ha
        · by_cases e : a = i
          · subst e
            rw [wv_u_at]
          · rw [wv_u_no _ _ (by omega)]
            exact h8 a (by omega)
        · rw [wv_u_no _ _ (by omega)]
          exact hF c j z1 z2
    rw [if_neg p93] at hP
    cases hP
