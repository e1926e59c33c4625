/-! ===== the reference: places, one by one ===== -/
/-- a property is chosen -/
def pb_X (T : wv_T) (I : Nat → Nat → Int32) (S : rn_N) (m0 : Nat) : Prop := wm_T T ∧ rn_n S ≤ 500 ∧ m0 ≤ 420 ∧ ∀ x, x < rn_n S → pn_1 (mr_V I) S m0 x
/-- places of ones lead to others -/
def pb_ld (L : Nat → Nat → Int64) (t : Nat) (ones to : Int64) : Nat → Nat → Int64 := fun c j => if c = 507 ∧ j < t ∧ nb ones j = true then L 507 j ||| to else L c j
theorem pb_ld_0 {L : Nat → Nat → Int64} {ones to : Int64} : pb_ld L 0 ones to = L := by
  funext c j
  exact if_neg (by omega)
theorem pb_or0 (x : Int64) : x ||| 0 = x := nb_ext (fun k _ => by rw [nb_or, nb_0, Bool.or_false])
theorem pb_ld_y {L : Nat → Nat → Int64} {t : Nat} {ones to : Int64} (h : nb ones t = true) : wv_u (pb_ld L t ones to) 507 t (pb_ld L t ones to 507 t ||| to) = pb_ld L (t + 1) ones to := by
  funext c j
  have e : pb_ld L t ones to 507 t = L 507 t := if_neg (by omega)
  rw [e]
  by_cases c1 : c = 507 ∧ j = t
  · obtain ⟨rfl, rfl⟩ := c1
    rw [wv_u_at]
    exact (if_pos ⟨rfl, Nat.lt_succ_self _, h⟩).symm
  · rw [wv_u_no _ _ c1]
    unfold pb_ld
    by_cases c2 : c = 507 ∧ j < t ∧ nb ones j = true
    · rw [if_pos c2, if_pos ⟨c2.1, by omega, c2.2.2⟩]
    · rw [if_neg c2, if_neg (fun z => c2 ⟨z.1, by omega, z.2.2⟩)]
theorem pb_ld_n {L : Nat → Nat → Int64} {t : Nat} {ones to : Int64} (h : ¬ nb ones t = true) : wv_u (pb_ld L t ones to) 507 t (pb_ld L t ones to 507 t ||| 0) = pb_ld L (t + 1) ones to := by
  funext c j
  rw [pb_or0]
  by_cases c1 : c = 507 ∧ j = t
  · obtain ⟨rfl, rfl⟩ := c1
    rw [wv_u_at]
    unfold pb_ld
    rw [if_neg (by omega), if_neg (fun z => h z.2.2)]
  · rw [wv_u_no _ _ c1]
    unfold pb_ld
    by_cases c2 : c = 507 ∧ j < t ∧ nb ones j = true
    · rw [if_pos c2, if_pos ⟨c2.1, by omega, c2.2.2⟩]
    · rw [if_neg c2, if_neg (fun z => c2 ⟨z.1, by
        by_cases e : j = t
        · subst e
          exact absurd z.2.2 h
        · omega, z.2.2⟩)]
def pb_l22 (ones to : Int64) (j : Nat) : List (Option Value) := [some (.ref 460), some (.long ones), none, some (.long to), none, some (.int (Int32.ofNat j)), none, none, none, none, none]
def pb_h422 (ones to : Int64) (t : Nat) (T : wv_T) (N : Nat) (I : Nat → Nat → Int32) (L : Nat → Nat → Int64) (R : Nat → Nat → Option Nat) : Nat → Option (Nat → wv_P) := fun pc =>
  if pc = 3 then some (fun mm lv st T1 N1 I1 L1 R1 nc ns => ∃ j : Nat, lv = pb_l22 ones to j ∧ st = [] ∧ T1 = T ∧ N1 = N ∧ R1 = R ∧ nc = 0 ∧ ns = 0 ∧ I1 = I ∧ L1 = pb_ld L j ones to ∧ j ≤ t ∧ mm = t - j)
  else none
def pb_l20 (n : Nat) (x : Int64) (v : Nat) (x5 x6 x7 : Option Value) : List (Option Value) := [some (.ref 460), some (.int (Int32.ofNat n)), some (.long x), none, some (.int (Int32.ofNat v)), x5, x6, x7, none, none]
def pb_h420 (n f g : Nat) (hb : Nat → Bool) (T : wv_T) (N : Nat) (I : Nat → Nat → Int32) (L : Nat → Nat → Int64) (R : Nat → Nat → Option Nat) : Nat → Option (Nat → wv_P) := fun pc =>
  if pc = 5 then some (fun mm lv st T1 N1 I1 L1 R1 nc ns => ∃ (v : Nat) (x : Int64) (x5 x6 x7 : Option Value), lv = pb_l20 n x v x5 x6 x7 ∧ st = [] ∧ T1 = T ∧ N1 = N ∧ R1 = R ∧ nc = 0 ∧ ns = 0 ∧ I1 = I ∧ L1 = L ∧ v ≤ 64 ∧ (∀ u, u < 64 → nb x u = (decide (u < v) && hb u)) ∧ mm = 2000 * (64 - v))
  else if pc = 23 then some (fun mm lv st T1 N1 I1 L1 R1 nc ns => ∃ (v k : Nat) (x : Int64) (b : Bool) (x7 : Option Value), lv = pb_l20 n x v (some (.int (wb_i b))) (some (.int (Int32.ofNat k))) x7 ∧ st = [] ∧ T1 = T ∧ N1 = N ∧ R1 = R ∧ nc = 0 ∧ ns = 0 ∧ I1 = I ∧ L1 = L ∧ v < 64 ∧ (∀ u, u < 64 → nb x u = (decide (u < v) && hb u)) ∧ f ≤ k ∧ k ≤ g ∧ (b = true ↔ ∃ c, f ≤ c ∧ c < k ∧ ce_h (I 475 c) (Int32.ofNat v)) ∧ mm = 2000 * (64 - v) - 500 - 2 * (k - f))
  else if pc = 85 then some (fun mm lv st T1 N1 I1 L1 R1 nc ns => ∃ (v k : Nat) (x : Int64) (b b2 : Bool) (x7 : Option Value), lv = pb_l20 n x v (some (.int (wb_i b))) (some (.int (Int32.ofNat k))) x7 ∧ st = [.int (wb_i b2)] ∧ T1 = T ∧ N1 = N ∧ R1 = R ∧ nc = 0 ∧ ns = 0 ∧ I1 = I ∧ L1 = L ∧ v < 64 ∧ (∀ u, u < 64 → nb x u = (decide (u < v) && hb u)) ∧ f ≤ k ∧ k < g ∧ (b2 = true ↔ ∃ c, f ≤ c ∧ c < k + 1 ∧ ce_h (I 475 c) (Int32.ofNat v)) ∧ mm = 2000 * (64 - v) - 500 - 2 * (k - f) - 1)
  else none
def pb_c423 : wv_c1 := fun as T N I L R q => ∃ (x : Int64) (k : Nat), as = [.long x, .int (Int32.ofNat k)] ∧ k < 64 ∧ q (.inl (some (.int (wb_i (nb x k))))) T N I L R 0 0
set_option maxRecDepth 100000 in
theorem wM_423 : ∃ cb ci np, pt_mt 423 = some (32, cb, 3, false, some .boolean, ci, np) := ⟨_, _, _, rfl⟩
set_option maxRecDepth 100000 in
set_option maxHeartbeats 4000000 in
theorem pb_hasBit {sc : pt_Sc} {d : Nat} : wv_C wm_fx sc (d + 1) 423 pb_c423 := by
  rintro as T N I L R q ⟨x, k, rfl, hk, h⟩ w0 HR
  obtain ⟨cb, ci, np, hm⟩ := wM_423
  refine wv_meth (hh := none) rfl (sp := fun _ _ _ _ _ _ _ _ => False) (hd := fun _ => none) (n := 0) (n1 := 300) hm zc_423 rfl (fun k as T N I L R q h => by cases h) ?_ (fun pc P h => by cases h) HR
  have key : lg_cmp ((x >>> ((Int32.ofNat k).toInt64 &&& 63)) &&& Int64.ofNat 1) (Int64.ofNat 1) = 0 ↔ nb x k = true := by
    rw [nb_stest hk, lg_cmp_0]
    cases nb x k with
    | true => exact ⟨fun _ => rfl, fun _ => rfl⟩
    | false => exact ⟨fun z => (by exact absurd z (by decide)), fun z => (by cases z)⟩
  refine ⟨fun w2 => ⟨⟨rfl, rfl⟩, ?_⟩, fun w2 => ⟨⟨rfl, rfl⟩, ?_⟩⟩
  · rw [Bool.eq_false_iff.mpr (fun z => w2 (key.mpr z))] at h
    exact h
  · rw [key.mp (Decidable.not_not.mp w2)] at h
    exact h
def pb_c421 : wv_c1 := fun as T N I L R q => ∃ (x : Int64) (t : Nat), as = [.ref 460, .long x] ∧ wm_T T ∧ I 460 75 = Int32.ofNat t ∧ t < 64 ∧ q (.inl (some (.int (Int32.ofNat t)))) T N (wv_u I 460 75 (Int32.ofNat (t + 1))) (wv_u (wv_u L 506 t x) 507 t 0) R 0 0
set_option maxRecDepth 100000 in
theorem wM_421 : ∃ cb ci np, pt_mt 421 = some (32, cb, 3, false, some .int, ci, np) := ⟨_, _, _, rfl⟩
set_option maxRecDepth 100000 in
set_option maxHeartbeats 4000000 in
theorem pb_newPlace {sc : pt_Sc} {d : Nat} : wv_C wm_fx sc (d + 1) 421 pb_c421 := by
  rintro as T N I L R q ⟨x, t, rfl, hT, h75, ht, h⟩ w0 HR
  obtain ⟨cb, ci, np, hm⟩ := wM_421
  refine wv_meth (hh := none) rfl (sp := fun _ _ _ _ _ _ _ _ => False) (hd := fun _ => none) (n := 0) (n1 := 300) hm zc_421 rfl (fun k as T N I L R q h => by cases h) ?_ (fun pc P h => by cases h) HR
  have etn := wi_onn (n := t) (by omega)
  refine ⟨_, wm_t hT rfl, by rw [h75]; exact pp_b (c := 64) ht (by omega), by decide, ?_⟩
  rw [h75, etn]
  refine ⟨_, wm_t hT rfl, by rw [h75]; exact pp_b (c := 64) ht (by omega), by decide, ?_⟩
  rw [h75, etn]
  have e1 : Int32.ofNat t + Int32.ofInt 1 = Int32.ofNat (t + 1) := wq_4s t
  show q (.inl (some (.int (wv_u I 460 75 (I 460 75 + Int32.ofInt 1) 460 75 - Int32.ofInt 1)))) _ _ (wv_u I 460 75 (I 460 75 + Int32.ofInt 1)) _ _ 0 0
  rw [h75, e1, wv_u_at, ← e1, Int32.add_sub_cancel, e1]
  exact h
def pb_c422 : wv_c1 := fun as T N I L R q => ∃ (ones to : Int64) (t : Nat), as = [.ref 460, .long ones, .long to] ∧ wm_T T ∧ I 460 75 = Int32.ofNat t ∧ t ≤ 64 ∧ q (.inl none) T N I (pb_ld L t ones to) R 0 0
set_option maxRecDepth 100000 in
theorem wM_422 : ∃ cb ci np, pt_mt 422 = some (32, cb, 6, false, none, ci, np) := ⟨_, _, _, rfl⟩
set_option maxRecDepth 100000 in
set_option maxHeartbeats 4000000 in
theorem pb_leadTo {sc : pt_Sc} {d : Nat} : wv_C wm_fx sc (d + 1 + 1) 422 pb_c422 := by
  rintro as T N I L R q ⟨ones, to, t, rfl, hT, h75, ht, h⟩ w0 HR
  obtain ⟨cb, ci, np, hm⟩ := wM_422
  have hc423 : wv_C wm_fx sc (d + 1) 423 pb_c423 := wv_C_deep (by omega) (pb_hasBit (d := d))
  refine wv_meth (hh := none) rfl (sp := wv_sp [(423, pb_c423)]) (hd := pb_h422 ones to t T N I L R) (n := 300) (n1 := 300) hm zc_422 rfl (wv_sp_ok (fun q hq => by rw [List.mem_singleton.mp hq]; exact hc423)) ?_ ?_ HR
  · exact ⟨_, 0, rfl, rfl, rfl, rfl, rfl, rfl, rfl, rfl, pb_ld_0.symm, Nat.zero_le _, rfl⟩
  · intro pc P hP m lv st T1 N1 I1 L1 R1 nc ns hh
    unfold pb_h422 at hP
    by_cases p3 : pc = 3
    · rw [if_pos p3] at hP
      cases hP
      subst p3
      obtain ⟨j, rfl, rfl, rfl, rfl, rfl, rfl, rfl, rfl, rfl, hj, rfl⟩ := hh
      have ej := wi_on (n := j) (by omega)
      have ejn := wi_onn (n := j) (by omega)
      have et := wi_on (n := t) (by omega)
      refine ⟨fun w => ?_, fun w => ?_⟩
      · rw [h75, wi_le, et, ej] at w
        have e : j = t := by omega
        subst e
        exact h
      · rw [h75, wi_le, et, ej] at w
        refine ⟨_, wm_t hT rfl, pp_b (c := 64) (by omega) (by omega), ?_⟩
        rw [ejn]
        refine ⟨ones, j, rfl, by omega, ?_⟩
        have el : pb_l22 ones to (j + 1) = [some (.ref 460), some (.long ones), none, some (.long to), none, some (.int (Int32.ofNat j + Int32.ofInt 1)), none, none, none, none, none] := by
          rw [wq_4s]
          rfl
        refine ⟨fun w2 => ?_, fun w2 => ?_⟩
        · have hb : ¬ nb ones j = true := fun z => by
            rw [z] at w2
            exact absurd w2 (by decide)
          refine ⟨_, wm_t hT rfl, pp_b (c := 64) (by omega) (by omega), by decide, ?_⟩
          rw [ejn]
          exact ⟨t - (j + 1), by omega, j + 1, el.symm, rfl, rfl, rfl, rfl, rfl, rfl, rfl, pb_ld_n hb, by omega, rfl⟩
        · have hb : nb ones j = true := by
            cases e : nb ones j with
            | true => rfl
            | false =>
              rw [e] at w2
              exact absurd rfl w2
          refine ⟨_, wm_t hT rfl, pp_b (c := 64) (by omega) (by omega), by decide, ?_⟩
          rw [ejn]
          exact ⟨t - (j + 1), by omega, j + 1, el.symm, rfl, rfl, rfl, rfl, rfl, rfl, rfl, pb_ld_y hb, by omega, rfl⟩
    rw [if_neg p3] at hP
    cases hP
def pb_c420 : wv_c1 := fun as T N I L R q => ∃ (S : rn_N) (m0 n : Nat), as = [.ref 460, .int (Int32.ofNat n)] ∧ pb_X T I S m0 ∧ n < rn_n S ∧ rn_k S n = 60 ∧ ∀ x, (∀ u, u < 64 → nb x u = rn_h S n u) → q (.inl (some (.long x))) T N I L R 0 0
set_option maxRecDepth 100000 in
theorem wM_420 : ∃ cb ci np, pt_mt 420 = some (32, cb, 8, false, some .long, ci, np) := ⟨_, _, _, rfl⟩
set_option maxRecDepth 100000 in
set_option maxHeartbeats 4000000 in
theorem pb_maskOf {sc : pt_Sc} {d : Nat} : wv_C wm_fx sc (d + 1) 420 pb_c420 := by
  rintro as T N I L R q ⟨S, m0, n, rfl, ⟨hT, hn5, hm0, hM⟩, hn, hk, h⟩ w0 HR
  obtain ⟨cb, ci, np, hm⟩ := wM_420
  obtain ⟨f, g, hf, hgg, hfg, hgm, hH⟩ := (hM n hn).2.2.1 hk
  have hf470 : I 470 n = Int32.ofNat f := hf
  have hg471 : I 471 n = Int32.ofNat g := hgg
  refine wv_meth (hh := none) rfl (sp := fun _ _ _ _ _ _ _ _ => False) (hd := pb_h420 n f g (rn_h S n) T N I L R) (n := 300) (n1 := 300) hm zc_420 rfl (fun k as T N I L R q h => by cases h) ?_ ?_ HR
  · exact ⟨_, 0, 0, none, none, none, rfl, rfl, rfl, rfl, rfl, rfl, rfl, rfl, rfl, Nat.zero_le _, fun u hu => by rw [nb_0, decide_eq_false (by omega)]; rfl, rfl⟩
  · intro pc P hP m lv st T1 N1 I1 L1 R1 nc ns hh
    have enn := wi_onn (n := n) (by omega)
    have eg := wi_on (n := g) (by omega)
    unfold pb_h420 at hP
    by_cases p5 : pc = 5
    · rw [if_pos p5] at hP
      cases hP
      subst p5
      obtain ⟨v, x, x5, x6, x7, rfl, rfl, rfl, rfl, rfl, rfl, rfl, rfl, rfl, hv, hx, rfl⟩ := hh
      have ev := wi_on (n := v) (by omega)
      have e64 : ((Int8.ofInt 64).toInt32).toInt = 64 := rfl
      refine ⟨fun w => ?_, fun w => ?_⟩
      · rw [wi_le, e64, ev] at w
        refine h x (fun u hu => ?_)
        rw [hx u hu, decide_eq_true (by omega)]
        rfl
      · rw [wi_le, e64, ev] at w
        refine ⟨_, wm_t hT rfl, pp_b (c := 800) (by omega) (by omega), ?_⟩
        rw [enn, hf470]
        exact ⟨2000 * (64 - v) - 500 - 2 * (f - f), by omega, v, f, x, false, x7, rfl, rfl, rfl, rfl, rfl, rfl, rfl, rfl, rfl, by omega, hx, Nat.le_refl _, hfg, ⟨fun z => (by cases z), fun ⟨c, c1, c2, _⟩ => by omega⟩, rfl⟩
    rw [if_neg p5] at hP
    by_cases p23 : pc = 23
    · rw [if_pos p23] at hP
      cases hP
      subst p23
      obtain ⟨v, k, x, b, x7, rfl, rfl, rfl, rfl, rfl, rfl, rfl, rfl, rfl, hv, hx, hk1, hk2, hb, rfl⟩ := hh
      have ek := wi_on (n := k) (by omega)
      have ekn := wi_onn (n := k) (by omega)
      refine ⟨_, wm_t hT rfl, pp_b (c := 800) (by omega) (by omega), ?_⟩
      rw [enn, hg471]
      refine ⟨fun w => ?_, fun w => ?_⟩
      · rw [wi_le, eg, ek] at w
        have ekg : k = g := by omega
        subst ekg
        have eb : b = rn_h S n v := Bool.eq_iff_iff.mpr (hb.trans (hH v hv).symm)
        have nx : ∀ y : Int64, (∀ u, u < 64 → nb y u = (nb x u || (decide (u = v) && b))) → ∀ u, u < 64 → nb y u = (decide (u < v + 1) && rn_h S n u) := fun y hy u hu => by
          rw [hy u hu, hx u hu]
          by_cases e : u = v
          · subst e
            rw [decide_eq_false (Nat.lt_irrefl _), decide_eq_true rfl, decide_eq_true (Nat.lt_succ_self _), eb]
            simp
          · by_cases e2 : u < v
            · rw [decide_eq_true e2, decide_eq_false e, decide_eq_true (by omega)]
              simp
            · rw [decide_eq_false e2, decide_eq_false e, decide_eq_false (by omega)]
              simp
        refine ⟨fun w2 => ?_, fun w2 => ?_⟩
        · have hb0 : b = false := wb_i_2.mp (fun z => z w2)
          refine ⟨2000 * (64 - (v + 1)), by omega, v + 1, x ||| 0, some (.int (wb_i b)), some (.int (Int32.ofNat k)), x7, ?_, rfl, rfl, rfl, rfl, rfl, rfl, rfl, rfl, by omega, nx _ (fun u hu => by rw [nb_or, nb_0, hb0, Bool.and_false]), rfl⟩
          unfold pb_l20
          rw [← wq_4s v]
          rfl
        · have hb1 : b = true := wb_i_1.mp w2
          refine ⟨2000 * (64 - (v + 1)), by omega, v + 1, x ||| (Int64.ofNat 1 <<< ((Int32.ofNat v).toInt64 &&& 63)), some (.int (wb_i b)), some (.int (Int32.ofNat k)), x7, ?_, rfl, rfl, rfl, rfl, rfl, rfl, rfl, rfl, by omega, nx _ (fun u hu => by rw [nb_or, nb_one hv, hb1, Bool.and_true]), rfl⟩
          unfold pb_l20
          rw [← wq_4s v]
          rfl
      rw [wi_le, eg, ek] at w
      refine ⟨_, wm_t hT rfl, pp_b (c := 420) (by omega) (by omega), ?_⟩
      rw [ekn]
      refine ⟨fun w1 => ?_, fun w1 => ?_⟩
      · obtain ⟨c, c1, c2, c3⟩ := hb.mp (wb_i_1.mp w1)
        exact ⟨2000 * (64 - v) - 500 - 2 * (k - f) - 1, by omega, v, k, x, b, true, _, rfl, rfl, rfl, rfl, rfl, rfl, rfl, rfl, rfl, hv, hx, hk1, by omega, ⟨fun _ => ⟨c, c1, by omega, c3⟩, fun _ => rfl⟩, rfl⟩
      have nb0 : ¬ ∃ c, f ≤ c ∧ c < k ∧ ce_h (I1 475 c) (Int32.ofNat v) := fun z => by
        rw [hb.mpr z] at w1
        exact w1 (by decide)
      have nk : ¬ ce_h (I1 475 k) (Int32.ofNat v) → ¬ ∃ c, f ≤ c ∧ c < k + 1 ∧ ce_h (I1 475 c) (Int32.ofNat v) := fun z ⟨c, c1, c2, c3⟩ => by
        by_cases e : c = k
        · subst e
          exact z c3
        · exact nb0 ⟨c, c1, by omega, c3⟩
      refine ⟨fun w2 => ?_, fun w2 => ?_⟩
      · have w2 : (Int16.ofInt 4096).toInt32 ≤ I1 475 k := w2
        exact ⟨2000 * (64 - v) - 500 - 2 * (k - f) - 1, by omega, v, k, x, b, false, _, rfl, rfl, rfl, rfl, rfl, rfl, rfl, rfl, rfl, hv, hx, hk1, by omega, ⟨fun w => (by cases w), fun w => (nk (fun z => by have z1 := z.1; rw [wi_lt] at z1; rw [wi_le] at w2; omega) w).elim⟩, rfl⟩
      have w2 : ¬ (Int16.ofInt 4096).toInt32 ≤ I1 475 k := w2
      refine ⟨fun w3 => ?_, fun w3 => ?_⟩
      · exact ⟨2000 * (64 - v) - 500 - 2 * (k - f) - 1, by omega, v, k, x, b, false, _, rfl, rfl, rfl, rfl, rfl, rfl, rfl, rfl, rfl, hv, hx, hk1, by omega, ⟨fun w => (by cases w), fun w => (nk (fun z => w3 z.2.1) w).elim⟩, rfl⟩
      refine ⟨fun w4 => ?_, fun w4 => ?_⟩
      · exact ⟨2000 * (64 - v) - 500 - 2 * (k - f) - 1, by omega, v, k, x, b, false, _, rfl, rfl, rfl, rfl, rfl, rfl, rfl, rfl, rfl, hv, hx, hk1, by omega, ⟨fun w => (by cases w), fun w => (nk (fun z => w4 z.2.2) w).elim⟩, rfl⟩
      · exact ⟨2000 * (64 - v) - 500 - 2 * (k - f) - 1, by omega, v, k, x, b, true, _, rfl, rfl, rfl, rfl, rfl, rfl, rfl, rfl, rfl, hv, hx, hk1, by omega, ⟨fun _ => ⟨k, hk1, by omega, ⟨by rw [wi_le] at w2; rw [wi_lt]; omega, Decidable.not_not.mp w3, Decidable.not_not.mp w4⟩⟩, fun _ => rfl⟩, rfl⟩
    rw [if_neg p23] at hP
    by_cases p85 : pc = 85
    · rw [if_pos p85] at hP
      cases hP
      subst p85
      obtain ⟨v, k, x, b, b2, x7, rfl, rfl, rfl, rfl, rfl, rfl, rfl, rfl, rfl, hv, hx, hk1, hk2, hb, rfl⟩ := hh
      refine ⟨2000 * (64 - v) - 500 - 2 * (k + 1 - f), by omega, v, k + 1, x, b2, x7, ?_, rfl, rfl, rfl, rfl, rfl, rfl, rfl, rfl, hv, hx, by omega, by omega, hb, rfl⟩
      unfold pb_l20
      rw [← wq_4s k]
      rfl
    rw [if_neg p85] at hP
    cases hP
