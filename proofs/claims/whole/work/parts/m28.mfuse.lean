/-! ===== the reference: fused places ===== -/
theorem np_fr_1 (U V : np_A) (p q : Nat) : np_fr U V p (q + 1) = np_fr U V p q ++ (if (np_L U p && np_F V q) = true then [(p, q)] else []) := rfl
theorem np_fp_1 (U V : np_A) (p : Nat) : np_fp U V (p + 1) = np_fp U V p ++ np_fr U V p (np_n V) := rfl
theorem np_fr_le {U V : np_A} {p q : Nat} : ∀ d, (np_fr U V p q).length ≤ (np_fr U V p (q + d)).length
  | 0 => Nat.le_refl _
  | d + 1 => by
    have := np_fr_le (U := U) (V := V) (p := p) (q := q) d
    rw [← Nat.add_assoc, np_fr_1, List.length_append]
    omega
theorem np_fp_le {U V : np_A} {p : Nat} : ∀ d, (np_fp U V p).length ≤ (np_fp U V (p + d)).length
  | 0 => Nat.le_refl _
  | d + 1 => by
    have := np_fp_le (U := U) (V := V) (p := p) d
    rw [← Nat.add_assoc, np_fp_1, List.length_append]
    omega
theorem np_fq_le {U V : np_A} {p q : Nat} (hp : p < np_n U) (hq : q ≤ np_n V) : (np_fp U V p).length + (np_fr U V p q).length ≤ (np_fp U V (np_n U)).length := by
  have h1 := np_fr_le (U := U) (V := V) (p := p) (q := q) (np_n V - q)
  rw [show q + (np_n V - q) = np_n V by omega] at h1
  have h2 := np_fp_le (U := U) (V := V) (p := p + 1) (np_n U - (p + 1))
  rw [show p + 1 + (np_n U - (p + 1)) = np_n U by omega, np_fp_1, List.length_append] at h2
  omega
/-- what a method of places leaves alone: ints, longs -/
def pb_F2 (n : Nat) (I I1 : Nat → Nat → Int32) : Prop := ∀ c j, ¬ (c = 460 ∧ j = 75) → ¬ ((c = 511 ∨ c = 514) ∧ j = n) → I1 c j = I c j
def pb_G2 (n s : Nat) (L L1 : Nat → Nat → Int64) : Prop := (∀ c j, ¬ c = 506 → ¬ c = 507 → ¬ ((c = 512 ∨ c = 513) ∧ j = n) → L1 c j = L c j) ∧ ∀ j, j < s → L1 506 j = L 506 j ∧ L1 507 j = L 507 j
def pb_G (s : Nat) (I : Nat → Nat → Int32) (L : Nat → Nat → Int64) (I1 : Nat → Nat → Int32) (L1 : Nat → Nat → Int64) : Prop := (∀ c j, ¬ (c = 460 ∧ j = 75) → I1 c j = I c j) ∧ (∀ c j, ¬ c = 506 → ¬ c = 507 → L1 c j = L c j) ∧ ∀ j, j < s → L1 506 j = L 506 j ∧ L1 507 j = L 507 j
theorem pb_G_0 {s : Nat} {I : Nat → Nat → Int32} {L : Nat → Nat → Int64} : pb_G s I L I L := ⟨fun _ _ _ => rfl, fun _ _ _ _ => rfl, fun _ _ => ⟨rfl, rfl⟩⟩
def pb_l24 (n a b t p : Nat) (be en : Int64) (x10 x11 x12 : Option Value) : List (Option Value) := [some (.ref 460), some (.int (Int32.ofNat n)), some (.int (Int32.ofNat a)), some (.int (Int32.ofNat b)), some (.long be), none, some (.long en), none, some (.int (Int32.ofNat t)), some (.int (Int32.ofNat p)), x10, x11, x12, none, none, none, none]
def pb_fQ (U V : np_A) (s t : Nat) (xs : List (Nat × Nat)) (be en : Int64) (I1 : Nat → Nat → Int32) (L1 : Nat → Nat → Int64) : Prop := pb_P L1 s (np_fuse U V xs) ∧ I1 460 75 = Int32.ofNat (t + xs.length) ∧ pb_b be s (np_n U + np_n V + xs.length) (np_F (np_fuse U V xs)) ∧ pb_b en s (np_n U + np_n V + xs.length) (np_L (np_fuse U V xs))
def pb_one (x : Nat) : Int64 := Int64.ofNat 1 <<< ((Int32.ofNat x).toInt64 &&& 63)
def pb_fR (U V : np_A) (s t p q r : Nat) (xs : List (Nat × Nat)) (be en : Int64) (I1 : Nat → Nat → Int32) (L1 : Nat → Nat → Int64) : Prop := ∃ L0 : Nat → Nat → Int64, pb_P L0 s (np_fuse U V xs) ∧ (∀ j, j < t + xs.length → L1 506 j = L0 506 j) ∧ L1 506 (t + xs.length) = L0 506 (s + p) &&& L0 506 (s + np_n U + q) ∧ (∀ j, j < t + xs.length → L1 507 j = pb_fr L0 s r (s + p) (pb_one (t + xs.length)) 507 j) ∧ L1 507 (t + xs.length) = L0 507 (s + np_n U + q) ∧ I1 460 75 = Int32.ofNat (t + xs.length + 1) ∧ pb_b be s (np_n U + np_n V + xs.length + 1) (np_F (np_fuse U V (xs ++ [(p, q)]))) ∧ pb_b en s (np_n U + np_n V + xs.length + 1) (np_L (np_fuse U V (xs ++ [(p, q)])))
def pb_h424 (U V : np_A) (n a b s t : Nat) (T : wv_T) (N : Nat) (I : Nat → Nat → Int32) (L : Nat → Nat → Int64) (R : Nat → Nat → Option Nat) : Nat → Option (Nat → wv_P) := fun pc =>
  if pc = 30 then some (fun mm lv st T1 N1 I1 L1 R1 nc ns => ∃ (p : Nat) (be en : Int64) (x10 x11 x12 : Option Value), lv = pb_l24 n a b t (s + p) be en x10 x11 x12 ∧ st = [] ∧ T1 = T ∧ N1 = N ∧ R1 = R ∧ nc = 0 ∧ ns = 0 ∧ pb_G s I L I1 L1 ∧ pb_fQ U V s t (np_fp U V p) be en I1 L1 ∧ p ≤ np_n U ∧ mm = 100000 * (64 - p) + 99999)
  else if pc = 49 then some (fun mm lv st T1 N1 I1 L1 R1 nc ns => ∃ (p q : Nat) (be en : Int64) (x11 x12 : Option Value), lv = pb_l24 n a b t (s + p) be en (some (.int (Int32.ofNat (s + np_n U + q)))) x11 x12 ∧ st = [] ∧ T1 = T ∧ N1 = N ∧ R1 = R ∧ nc = 0 ∧ ns = 0 ∧ pb_G s I L I1 L1 ∧ pb_fQ U V s t (np_fp U V p ++ np_fr U V p q) be en I1 L1 ∧ p < np_n U ∧ q ≤ np_n V ∧ mm = 100000 * (64 - p) + 500 * (64 - q) + 499)
  else if pc = 185 then some (fun mm lv st T1 N1 I1 L1 R1 nc ns => ∃ (p q r : Nat) (be en : Int64) (xs : List (Nat × Nat)), lv = pb_l24 n a b t (s + p) be en (some (.int (Int32.ofNat (s + np_n U + q)))) (some (.int (Int32.ofNat (t + xs.length)))) (some (.int (Int32.ofNat (s + r)))) ∧ st = [] ∧ T1 = T ∧ N1 = N ∧ R1 = R ∧ nc = 0 ∧ ns = 0 ∧ pb_G s I L I1 L1 ∧ pb_fR U V s t p q r xs be en I1 L1 ∧ p < np_n U ∧ q < np_n V ∧ r ≤ np_n U ∧ xs = np_fp U V p ++ np_fr U V p q ∧ (np_L U p && np_F V q) = true ∧ mm = 100000 * (64 - p) + 500 * (64 - q) + (64 - r))
  else none
theorem pb_fr_0 {L : Nat → Nat → Int64} {s p : Nat} {one : Int64} : pb_fr L s 0 p one = L := by
  funext c j
  exact if_neg (by omega)
theorem pb_fr_s {L0 L1 : Nat → Nat → Int64} {s r p t : Nat} {one : Int64} (hr : s + r < t) (h : ∀ j, j < t → L1 507 j = pb_fr L0 s r p one 507 j) : (∀ j, j < t → nb (L0 507 (s + r)) p = true → wv_u L1 507 (s + r) (L1 507 (s + r) ||| one) 507 j = pb_fr L0 s (r + 1) p one 507 j) ∧ (∀ j, j < t → ¬ nb (L0 507 (s + r)) p = true → wv_u L1 507 (s + r) (L1 507 (s + r) ||| 0) 507 j = pb_fr L0 s (r + 1) p one 507 j) ∧ L1 507 (s + r) = L0 507 (s + r) := by
  have e0 : L1 507 (s + r) = L0 507 (s + r) := (h _ hr).trans (if_neg (by omega))
  have st : ∀ j, j < t → ¬ j = s + r → L1 507 j = pb_fr L0 s (r + 1) p one 507 j := fun j hj c => by
    rw [h j hj]
    unfold pb_fr
    by_cases c2 : (507 : Nat) = 507 ∧ s ≤ j ∧ j < s + r ∧ nb (L0 507 j) p = true
    · rw [if_pos c2, if_pos ⟨rfl, c2.2.1, by omega, c2.2.2.2⟩]
    · rw [if_neg c2, if_neg (fun z => c2 ⟨rfl, z.2.1, by omega, z.2.2.2⟩)]
  refine ⟨fun j hj hb => ?_, fun j hj hb => ?_, e0⟩
  · by_cases c : j = s + r
    · subst c
      rw [wv_u_at, e0]
      exact (if_pos ⟨rfl, by omega, by omega, hb⟩).symm
    · rw [wv_u_no _ _ (fun z => c z.2)]
      exact st j hj c
  · by_cases c : j = s + r
    · subst c
      rw [wv_u_at, pb_or0, e0]
      exact (if_neg (fun z => hb z.2.2.2)).symm
    · rw [wv_u_no _ _ (fun z => c z.2)]
      exact st j hj c
def pb_c424 : wv_c1 := fun as T N I L R q => ∃ (U V : np_A) (n a b s t : Nat), as = [.ref 460, .int (Int32.ofNat n), .int (Int32.ofNat a), .int (Int32.ofNat b)] ∧ wm_T T ∧ pb_T I L a s U ∧ pb_T I L b (s + np_n U) V ∧ t = s + np_n U + np_n V ∧ t + (np_fp U V (np_n U)).length ≤ 63 ∧ I 460 75 = Int32.ofNat t ∧ n < 200 ∧ a < n ∧ b < n ∧ ∀ I1 L1, I1 460 75 = Int32.ofNat (t + (np_fp U V (np_n U)).length) → I1 514 n = 0 → pb_P L1 s (np_fuse U V (np_fp U V (np_n U))) → pb_b (L1 512 n) s (np_n U + np_n V + (np_fp U V (np_n U)).length) (np_F (np_fuse U V (np_fp U V (np_n U)))) → pb_b (L1 513 n) s (np_n U + np_n V + (np_fp U V (np_n U)).length) (np_L (np_fuse U V (np_fp U V (np_n U)))) → pb_F2 n I I1 → pb_G2 n s L L1 → q (.inl none) T N I1 L1 R 0 0
set_option maxRecDepth 100000 in
theorem wM_424 : ∃ cb ci np, pt_mt 424 = some (32, cb, 13, false, none, ci, np) := ⟨_, _, _, rfl⟩
set_option maxRecDepth 100000 in
set_option maxHeartbeats 4000000 in
theorem pb_fuse {sc : pt_Sc} {d : Nat} : wv_C wm_fx sc (d + 1 + 1) 424 pb_c424 := by
  rintro as T N I L R q ⟨U, V, n, a, b, s, t, rfl, hT, hA, hB, ht, hfit, h75, hn, ha, hb, h⟩ w0 HR
  obtain ⟨cb, ci, np, hm⟩ := wM_424
  have hc423 : wv_C wm_fx sc (d + 1) 423 pb_c423 := wv_C_deep (by omega) (pb_hasBit (d := d))
  have hc421 : wv_C wm_fx sc (d + 1) 421 pb_c421 := wv_C_deep (by omega) (pb_newPlace (d := d))
  refine wv_meth (hh := none) rfl (sp := wv_sp [(423, pb_c423), (421, pb_c421)]) (hd := pb_h424 U V n a b s t T N I L R) (n := 300) (n1 := 300) hm zc_424 rfl (wv_sp_ok (fun q hq => by
    rcases List.mem_cons.mp hq with h | h
    · rw [h]; exact hc423
    rw [List.mem_singleton.mp h]; exact hc421)) ?_ ?_ HR
  · obtain ⟨a1, a2, a3, a4, a5, a6⟩ := hA
    obtain ⟨b1, b2, b3, b4, b5, b6⟩ := hB
    have ean := wi_onn (n := a) (by omega)
    have ebn := wi_onn (n := b) (by omega)
    refine ⟨_, wm_t hT rfl, pp_b (c := 200) (by omega) (by omega), ?_⟩
    rw [ean]
    refine ⟨_, wm_t hT rfl, pp_b (c := 200) (by omega) (by omega), ?_⟩
    rw [ebn]
    refine ⟨_, wm_t hT rfl, pp_b (c := 200) (by omega) (by omega), ?_⟩
    rw [ean, a1, h75]
    exact ⟨_, 0, L 512 a, L 513 b, none, none, none, rfl, rfl, rfl, rfl, rfl, rfl, rfl, pb_G_0, ⟨pb_f0 a3 b3, h75, pb_f0F a4, pb_f0L b5⟩, Nat.zero_le _, rfl⟩
  · intro pc P hP m lv st T1 N1 I1 L1 R1 nc ns hh
    obtain ⟨a1, a2, a3, a4, a5, a6⟩ := hA
    obtain ⟨b1, b2, b3, b4, b5, b6⟩ := hB
    have ean := wi_onn (n := a) (by omega)
    have ebn := wi_onn (n := b) (by omega)
    have enn := wi_onn (n := n) (by omega)
    unfold pb_h424 at hP
    by_cases p30 : pc = 30
    · rw [if_pos p30] at hP
      cases hP
      subst p30
      obtain ⟨p, be, en, x10, x11, x12, rfl, rfl, rfl, rfl, rfl, rfl, rfl, gG, ⟨f1, f2, f3, f4⟩, hp, rfl⟩ := hh
      obtain ⟨gI, gL, gS⟩ := gG
      have ep := wi_on (n := s + p) (by omega)
      have eu := wi_on (n := s + np_n U) (by omega)
      refine ⟨_, wm_t hT rfl, pp_b (c := 200) (by omega) (by omega), ?_⟩
      rw [ean, gI 511 a (by omega), a2]
      refine ⟨fun w => ?_, fun w => ?_⟩
      · rw [wi_le, eu, ep] at w
        have e : p = np_n U := by omega
        subst e
        refine ⟨_, wm_t hT rfl, pp_b (c := 200) (by omega) (by omega), (by decide), ?_⟩
        rw [enn]
        refine ⟨_, wm_t hT rfl, pp_b (c := 200) (by omega) (by omega), (by decide), ?_⟩
        rw [enn]
        refine ⟨_, wm_t hT rfl, pp_b (c := 200) (by omega) (by omega), (by decide), ?_⟩
        rw [enn]
        refine ⟨_, wm_t hT rfl, pp_b (c := 200) (by omega) (by omega), (by decide), ?_⟩
        rw [enn]
        refine h _ _ ?_ ?_ ?_ ?_ ?_ ?_ ?_
        · rw [wv_u_no _ _ (by omega), wv_u_no _ _ (by omega)]
          exact f2
        · rw [wv_u_no _ _ (by omega), wv_u_at]
          rfl
        · exact pb_P_c f1 (fun j _ => ⟨by rw [wv_u_no _ _ (by omega), wv_u_no _ _ (by omega)], by rw [wv_u_no _ _ (by omega), wv_u_no _ _ (by omega)]⟩)
        · rw [wv_u_no _ _ (by omega), wv_u_at]
          exact f3
        · rw [wv_u_at]
          exact f4
        · intro c j z1 z2
          rw [wv_u_no _ _ (by omega), wv_u_no _ _ (by omega)]
          exact gI c j z1
        · refine ⟨fun c j z1 z2 z3 => ?_, fun j hj => ⟨?_, ?_⟩⟩
          · rw [wv_u_no _ _ (by omega), wv_u_no _ _ (by omega)]
            exact gL c j z1 z2
          · rw [wv_u_no _ _ (by omega), wv_u_no _ _ (by omega)]
            exact (gS j hj).1
          · rw [wv_u_no _ _ (by omega), wv_u_no _ _ (by omega)]
            exact (gS j hj).2
      · rw [wi_le, eu, ep] at w
        refine ⟨_, wm_t hT rfl, pp_b (c := 200) (by omega) (by omega), ?_⟩
        rw [ebn, gI 510 b (by omega), b1]
        exact ⟨100000 * (64 - p) + 500 * (64 - 0) + 499, by omega, p, 0, be, en, x11, x12, rfl, rfl, rfl, rfl, rfl, rfl, rfl, ⟨gI, gL, gS⟩, by rw [show np_fr U V p 0 = [] from rfl, List.append_nil]; exact ⟨f1, f2, f3, f4⟩, by omega, Nat.zero_le _, rfl⟩
    rw [if_neg p30] at hP
    by_cases p49 : pc = 49
    · rw [if_pos p49] at hP
      cases hP
      subst p49
      obtain ⟨p, q1, be, en, x11, x12, rfl, rfl, rfl, rfl, rfl, rfl, rfl, gG, ⟨f1, f2, f3, f4⟩, hp, hq, rfl⟩ := hh
      obtain ⟨gI, gL, gS⟩ := gG
      have eq := wi_on (n := s + np_n U + q1) (by omega)
      have eqn := wi_onn (n := s + np_n U + q1) (by omega)
      have epn := wi_onn (n := s + p) (by omega)
      have ev := wi_on (n := s + np_n U + np_n V) (by omega)
      refine ⟨_, wm_t hT rfl, pp_b (c := 200) (by omega) (by omega), ?_⟩
      rw [ebn, gI 511 b (by omega), b2]
      refine ⟨fun w => ?_, fun w => ?_⟩
      · rw [wi_le, ev, eq] at w
        have e : q1 = np_n V := by omega
        subst e
        refine ⟨100000 * (64 - (p + 1)) + 99999, by omega, p + 1, be, en, some (.int (Int32.ofNat (s + np_n U + np_n V))), x11, x12, ?_, rfl, rfl, rfl, rfl, rfl, rfl, ⟨gI, gL, gS⟩, ⟨f1, f2, f3, f4⟩, by omega, rfl⟩
        unfold pb_l24
        rw [← Nat.add_assoc, ← wq_4s (s + p)]
        rfl
      · rw [wi_le, ev, eq] at w
        have hqV : q1 < np_n V := by omega
        have hlen := np_fq_le (U := U) (V := V) hp (show q1 + 1 ≤ np_n V by omega)
        have c1 := pb_b_at (p := p) a5 hp (by omega)
        have c2 := pb_b_at (p := q1) b4 hqV (by omega)
        have no : ¬ (np_L U p && np_F V q1) = true → np_fp U V p ++ np_fr U V p (q1 + 1) = np_fp U V p ++ np_fr U V p q1 := fun z => by
          rw [np_fr_1, if_neg z, List.append_nil]
        have goNo : ¬ (np_L U p && np_F V q1) = true → pb_fQ U V s t (np_fp U V p ++ np_fr U V p (q1 + 1)) be en I1 L1 := fun z => by
          rw [no z]
          exact ⟨f1, f2, f3, f4⟩
        have el : pb_l24 n a b t (s + p) be en (some (.int (Int32.ofNat (s + np_n U + q1) + Int32.ofInt 1))) x11 x12 = pb_l24 n a b t (s + p) be en (some (.int (Int32.ofNat (s + np_n U + (q1 + 1))))) x11 x12 := by
          rw [wq_4s]
          rfl
        refine ⟨_, wm_t hT rfl, pp_b (c := 200) (by omega) (by omega), ?_⟩
        rw [ean]
        refine ⟨L1 513 a, s + p, rfl, by omega, ?_⟩
        rw [gL 513 a (by omega) (by omega), c1]
        refine ⟨fun w1 => ?_, fun w1 => ?_⟩
        · have w1 : np_L U p = false := wb_i_2.mp (fun z => z w1)
          exact ⟨100000 * (64 - p) + 500 * (64 - (q1 + 1)) + 499, by omega, p, q1 + 1, be, en, _, _, el, rfl, rfl, rfl, rfl, rfl, rfl, ⟨gI, gL, gS⟩, goNo (by rw [w1, Bool.false_and]; decide), hp, by omega, rfl⟩
        have w1 := wb_i_1.mp w1
        refine ⟨_, wm_t hT rfl, pp_b (c := 200) (by omega) (by omega), ?_⟩
        rw [ebn]
        refine ⟨L1 512 b, s + np_n U + q1, rfl, by omega, ?_⟩
        rw [gL 512 b (by omega) (by omega), c2]
        refine ⟨fun w2 => ?_, fun w2 => ?_⟩
        · have w2 : np_F V q1 = false := wb_i_2.mp (fun z => z w2)
          exact ⟨100000 * (64 - p) + 500 * (64 - (q1 + 1)) + 499, by omega, p, q1 + 1, be, en, _, _, el, rfl, rfl, rfl, rfl, rfl, rfl, ⟨gI, gL, gS⟩, goNo (by rw [w2, Bool.and_false]; decide), hp, by omega, rfl⟩
        have w2 := wb_i_1.mp w2
        have hLF : (np_L U p && np_F V q1) = true := by rw [w1, w2]; rfl
        have hlx : (np_fp U V p ++ np_fr U V p q1).length + 1 ≤ (np_fp U V (np_n U)).length := by
          rw [np_fr_1, if_pos hLF, List.length_append] at hlen
          rw [List.length_append]
          have e1 : [((p, q1) : Nat × Nat)].length = 1 := rfl
          omega
        generalize hxs : np_fp U V p ++ np_fr U V p q1 = xs at f1 f2 f3 f4 hlx
        refine ⟨_, wm_t hT rfl, pp_b (c := 64) (by omega) (by omega), ?_⟩
        refine ⟨_, wm_t hT rfl, pp_b (c := 64) (by omega) (by omega), ?_⟩
        rw [epn, eqn]
        refine ⟨L1 506 (s + p) &&& L1 506 (s + np_n U + q1), t + xs.length, rfl, hT, f2, by omega, ?_⟩
        have etn := wi_onn (n := t + xs.length) (by omega)
        refine ⟨_, wm_t hT rfl, pp_b (c := 64) (by omega) (by omega), ?_⟩
        rw [eqn]
        refine ⟨_, wm_t hT rfl, pp_b (c := 64) (by omega) (by omega), (by decide), ?_⟩
        rw [etn]
        obtain ⟨nf1, nf2, nf3⟩ := np_f1F (U := U) (V := V) (xs := xs) (p := p) (q := q1)
        have ho : ∀ j, j < 64 → nb (pb_one (t + xs.length)) j = decide (j = t + xs.length) := fun j _ => nb_one (by omega) j
        have fb : ∀ z : Int64, z = (if np_F U p = true then pb_one (t + xs.length) else 0) → pb_b (be ||| z) s (np_n U + np_n V + xs.length + 1) (np_F (np_fuse U V (xs ++ [(p, q1)]))) := fun z ez => by
          rw [ez]
          exact pb_f1b f3 (by omega) ho (fun j hj => (nf1 j hj).1) nf2
        have fe : ∀ z : Int64, z = (if np_L V q1 = true then pb_one (t + xs.length) else 0) → pb_b (en ||| z) s (np_n U + np_n V + xs.length + 1) (np_L (np_fuse U V (xs ++ [(p, q1)]))) := fun z ez => by
          rw [ez]
          exact pb_f1b f4 (by omega) ho (fun j hj => (nf1 j hj).2) nf3
        have eq7 : wv_u (wv_u L1 506 (t + xs.length) (L1 506 (s + p) &&& L1 506 (s + np_n U + q1))) 507 (t + xs.length) 0 507 (s + np_n U + q1) = L1 507 (s + np_n U + q1) := by
          rw [wv_u_no _ _ (by omega), wv_u_no _ _ (by omega)]
        rw [eq7]
        generalize hL2 : wv_u (wv_u (wv_u L1 506 (t + xs.length) (L1 506 (s + p) &&& L1 506 (s + np_n U + q1))) 507 (t + xs.length) 0) 507 (t + xs.length) (L1 507 (s + np_n U + q1)) = L2
        have l6 : ∀ j, j < t + xs.length → L2 506 j = L1 506 j ∧ L2 507 j = L1 507 j := fun j hj => by
          rw [← hL2, wv_u_no _ _ (by omega), wv_u_no _ _ (by omega), wv_u_no _ _ (by omega), wv_u_no _ _ (by omega), wv_u_no _ _ (by omega), wv_u_no _ _ (by omega)]
          exact ⟨rfl, rfl⟩
        have l6t : L2 506 (t + xs.length) = L1 506 (s + p) &&& L1 506 (s + np_n U + q1) ∧ L2 507 (t + xs.length) = L1 507 (s + np_n U + q1) := by
          rw [← hL2, wv_u_at, wv_u_no _ _ (by omega), wv_u_no _ _ (by omega), wv_u_at]
          exact ⟨rfl, rfl⟩
        have lo : ∀ c j, ¬ c = 506 → ¬ c = 507 → L2 c j = L1 c j := fun c j z1 z2 => by
          rw [← hL2, wv_u_no _ _ (by omega), wv_u_no _ _ (by omega), wv_u_no _ _ (by omega)]
        have gG2 : pb_G s I L (wv_u I1 460 75 (Int32.ofNat (t + xs.length + 1))) L2 := ⟨fun c j z => by
          rw [wv_u_no _ _ z]
          exact gI c j z, fun c j z1 z2 => (lo c j z1 z2).trans (gL c j z1 z2), fun j hj => by
          obtain ⟨y1, y2⟩ := l6 j (by omega)
          rw [y1, y2]
          exact gS j hj⟩
        have fR : ∀ be2 en2 : Int64, pb_b be2 s (np_n U + np_n V + xs.length + 1) (np_F (np_fuse U V (xs ++ [(p, q1)]))) → pb_b en2 s (np_n U + np_n V + xs.length + 1) (np_L (np_fuse U V (xs ++ [(p, q1)]))) → pb_fR U V s t p q1 0 xs be2 en2 (wv_u I1 460 75 (Int32.ofNat (t + xs.length + 1))) L2 := fun be2 en2 z1 z2 => ⟨L1, f1, fun j hj => (l6 j hj).1, l6t.1, fun j hj => by rw [pb_fr_0]; exact (l6 j hj).2, l6t.2, wv_u_at _ _ _ _, z1, z2⟩
        have ca := pb_b_at (p := p) a4 hp (by omega)
        have cb2 := pb_b_at (p := q1) b5 hqV (by omega)
        have i510 : wv_u I1 460 75 (Int32.ofNat (t + xs.length + 1)) 510 a = Int32.ofNat s := by
          rw [wv_u_no _ _ (by omega), gI 510 a (by omega), a1]
        have l512 : L2 512 a = L 512 a := (lo _ _ (by omega) (by omega)).trans (gL _ _ (by omega) (by omega))
        have l513 : L2 513 b = L 513 b := (lo _ _ (by omega) (by omega)).trans (gL _ _ (by omega) (by omega))
        refine ⟨_, wm_t hT rfl, pp_b (c := 200) (by omega) (by omega), ?_⟩
        rw [ean]
        refine ⟨L2 512 a, s + p, rfl, by omega, ?_⟩
        rw [l512, ca]
        refine ⟨fun wF => ?_, fun wF => ?_⟩
        · have wF : np_F U p = false := wb_i_2.mp (fun z => z wF)
          refine ⟨_, wm_t hT rfl, pp_b (c := 200) (by omega) (by omega), ?_⟩
          rw [ebn]
          refine ⟨L2 513 b, s + np_n U + q1, rfl, by omega, ?_⟩
          rw [l513, cb2]
          refine ⟨fun wL => ?_, fun wL => ?_⟩
          · have wL : np_L V q1 = false := wb_i_2.mp (fun z => z wL)
            refine ⟨_, wm_t hT rfl, pp_b (c := 200) (by omega) (by omega), ?_⟩
            rw [ean, i510]
            exact ⟨100000 * (64 - p) + 500 * (64 - q1) + (64 - 0), by omega, p, q1, 0, be ||| 0, en ||| 0, xs, rfl, rfl, rfl, rfl, rfl, rfl, rfl, gG2, fR _ _ (fb _ (by rw [wF]; rfl)) (fe _ (by rw [wL]; rfl)), hp, hqV, Nat.zero_le _, hxs.symm, hLF, rfl⟩
          · have wL : np_L V q1 = true := wb_i_1.mp wL
            refine ⟨_, wm_t hT rfl, pp_b (c := 200) (by omega) (by omega), ?_⟩
            rw [ean, i510]
            exact ⟨100000 * (64 - p) + 500 * (64 - q1) + (64 - 0), by omega, p, q1, 0, be ||| 0, en ||| pb_one (t + xs.length), xs, rfl, rfl, rfl, rfl, rfl, rfl, rfl, gG2, fR _ _ (fb _ (by rw [wF]; rfl)) (fe _ (by rw [wL]; rfl)), hp, hqV, Nat.zero_le _, hxs.symm, hLF, rfl⟩
        · have wF : np_F U p = true := wb_i_1.mp wF
          refine ⟨_, wm_t hT rfl, pp_b (c := 200) (by omega) (by omega), ?_⟩
          rw [ebn]
          refine ⟨L2 513 b, s + np_n U + q1, rfl, by omega, ?_⟩
          rw [l513, cb2]
          refine ⟨fun wL => ?_, fun wL => ?_⟩
          · have wL : np_L V q1 = false := wb_i_2.mp (fun z => z wL)
            refine ⟨_, wm_t hT rfl, pp_b (c := 200) (by omega) (by omega), ?_⟩
            rw [ean, i510]
            exact ⟨100000 * (64 - p) + 500 * (64 - q1) + (64 - 0), by omega, p, q1, 0, be ||| pb_one (t + xs.length), en ||| 0, xs, rfl, rfl, rfl, rfl, rfl, rfl, rfl, gG2, fR _ _ (fb _ (by rw [wF]; rfl)) (fe _ (by rw [wL]; rfl)), hp, hqV, Nat.zero_le _, hxs.symm, hLF, rfl⟩
          · have wL : np_L V q1 = true := wb_i_1.mp wL
            refine ⟨_, wm_t hT rfl, pp_b (c := 200) (by omega) (by omega), ?_⟩
            rw [ean, i510]
            exact ⟨100000 * (64 - p) + 500 * (64 - q1) + (64 - 0), by omega, p, q1, 0, be ||| pb_one (t + xs.length), en ||| pb_one (t + xs.length), xs, rfl, rfl, rfl, rfl, rfl, rfl, rfl, gG2, fR _ _ (fb _ (by rw [wF]; rfl)) (fe _ (by rw [wL]; rfl)), hp, hqV, Nat.zero_le _, hxs.symm, hLF, rfl⟩
    rw [if_neg p49] at hP
    by_cases p185 : pc = 185
    · rw [if_pos p185] at hP
      cases hP
      subst p185
      obtain ⟨p, q1, r, be, en, xs, rfl, rfl, rfl, rfl, rfl, rfl, rfl, gG, ⟨L0, r1, r2, r3, r4, r5, r6, r7, r8⟩, hp, hq, hr, hxs, hLF, rfl⟩ := hh
      obtain ⟨gI, gL, gS⟩ := gG
      have hlen := np_fq_le (U := U) (V := V) hp (show q1 + 1 ≤ np_n V by omega)
      have hlx : xs.length + 1 ≤ (np_fp U V (np_n U)).length := by
        rw [np_fr_1, if_pos hLF, List.length_append] at hlen
        rw [hxs, List.length_append]
        have e1 : [((p, q1) : Nat × Nat)].length = 1 := rfl
        omega
      have er := wi_on (n := s + r) (by omega)
      have ern := wi_onn (n := s + r) (by omega)
      have eu := wi_on (n := s + np_n U) (by omega)
      refine ⟨_, wm_t hT rfl, pp_b (c := 200) (by omega) (by omega), ?_⟩
      rw [ean, gI 511 a (by omega), a2]
      refine ⟨fun w => ?_, fun w => ?_⟩
      · rw [wi_le, eu, er] at w
        have e : r = np_n U := by omega
        subst e
        refine ⟨100000 * (64 - p) + 500 * (64 - (q1 + 1)) + 499, by omega, p, q1 + 1, be, en, some (.int (Int32.ofNat (t + xs.length))), some (.int (Int32.ofNat (s + np_n U))), ?_, rfl, rfl, rfl, rfl, rfl, rfl, ⟨gI, gL, gS⟩, ?_, hp, by omega, rfl⟩
        · unfold pb_l24
          rw [← Nat.add_assoc, ← wq_4s (s + np_n U + q1)]
          rfl
        · have ex : np_fp U V p ++ np_fr U V p (q1 + 1) = xs ++ [(p, q1)] := by
            rw [np_fr_1, if_pos hLF, ← List.append_assoc, ← hxs]
          have el : (xs ++ [((p, q1) : Nat × Nat)]).length = xs.length + 1 := by
            rw [List.length_append]
            rfl
          rw [ex]
          unfold pb_fQ
          rw [el]
          exact ⟨pb_f1 r1 hp hq (by omega) (by omega) (fun j _ => nb_one (by omega) j) r2 r3 r4 r5, r6, r7, r8⟩
      · rw [wi_le, eu, er] at w
        obtain ⟨s1, s2, s3⟩ := pb_fr_s (by omega) r4
        refine ⟨_, wm_t hT rfl, pp_b (c := 64) (by omega) (by omega), ?_⟩
        refine ⟨_, wm_t hT rfl, pp_b (c := 64) (by omega) (by omega), ?_⟩
        rw [ern]
        refine ⟨L1 507 (s + r), s + p, rfl, by omega, ?_⟩
        have key : ∀ x : Int64, (∀ j, j < t + xs.length → wv_u L1 507 (s + r) x 507 j = pb_fr L0 s (r + 1) (s + p) (pb_one (t + xs.length)) 507 j) → pb_G s I L I1 (wv_u L1 507 (s + r) x) ∧ pb_fR U V s t p q1 (r + 1) xs be en I1 (wv_u L1 507 (s + r) x) := fun x hx => by
          refine ⟨⟨gI, fun c j z1 z2 => ?_, fun j hj => ?_⟩, L0, r1, fun j hj => ?_, ?_, hx, ?_, r6, r7, r8⟩
          · rw [wv_u_no _ _ (by omega)]
            exact gL c j z1 z2
          · rw [wv_u_no _ _ (by omega), wv_u_no _ _ (by omega)]
            exact gS j hj
          · rw [wv_u_no _ _ (by omega)]
            exact r2 j hj
          · rw [wv_u_no _ _ (by omega)]
            exact r3
          · rw [wv_u_no _ _ (by omega)]
            exact r5
        have el : pb_l24 n a b t (s + p) be en (some (.int (Int32.ofNat (s + np_n U + q1)))) (some (.int (Int32.ofNat (t + xs.length)))) (some (.int (Int32.ofNat (s + r) + Int32.ofInt 1))) = pb_l24 n a b t (s + p) be en (some (.int (Int32.ofNat (s + np_n U + q1)))) (some (.int (Int32.ofNat (t + xs.length)))) (some (.int (Int32.ofNat (s + (r + 1))))) := by
          rw [wq_4s]
          rfl
        refine ⟨fun w2 => ?_, fun w2 => ?_⟩
        · have w2 : nb (L1 507 (s + r)) (s + p) = false := wb_i_2.mp (fun z => z w2)
          refine ⟨_, wm_t hT rfl, pp_b (c := 64) (by omega) (by omega), (by decide), ?_⟩
          rw [ern]
          obtain ⟨k1, k2⟩ := key _ (fun j hj => s2 j hj (by rw [← s3, w2]; decide))
          exact ⟨100000 * (64 - p) + 500 * (64 - q1) + (64 - (r + 1)), by omega, p, q1, r + 1, be, en, xs, el, rfl, rfl, rfl, rfl, rfl, rfl, k1, k2, hp, hq, by omega, hxs, hLF, rfl⟩
        · have w2 : nb (L1 507 (s + r)) (s + p) = true := wb_i_1.mp w2
          refine ⟨_, wm_t hT rfl, pp_b (c := 64) (by omega) (by omega), (by decide), ?_⟩
          rw [ern]
          obtain ⟨k1, k2⟩ := key _ (fun j hj => s1 j hj (by rw [← s3]; exact w2))
          exact ⟨100000 * (64 - p) + 500 * (64 - q1) + (64 - (r + 1)), by omega, p, q1, r + 1, be, en, xs, el, rfl, rfl, rfl, rfl, rfl, rfl, k1, k2, hp, hq, by omega, hxs, hLF, rfl⟩
    rw [if_neg p185] at hP
    cases hP
