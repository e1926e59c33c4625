/-! ===== the reference: repeated places ===== -/
def pb_sh (x : Int64) (s K : Nat) : Int64 := (x >>> ((Int32.ofNat s).toInt64 &&& 63)) <<< ((Int32.ofNat K).toInt64 &&& 63)
def pb_hi (hi : Nat) : Nat := if hi = 0 then 1 else hi
theorem pb_tn {U : np_A} {lo hi : Nat} : np_n (np_times lo hi U) = np_n U * pb_hi hi := by
  unfold np_times pb_hi
  by_cases c : hi = 0
  · rw [if_pos c, if_pos c, Nat.mul_one]
    rfl
  · rw [if_neg c, if_neg c]
    rfl
theorem pb_to {s w k : Nat} (hk : 1 ≤ k) (h : k < 1000) : Int32.ofNat (s + w) + (Int32.ofNat k - Int32.ofInt 1) * Int32.ofNat w = Int32.ofNat (s + w * k) := by
  have e1 : Int32.ofNat k - Int32.ofInt 1 = Int32.ofNat (k - 1) := mr_sub (b := 1) hk (by omega)
  obtain ⟨j, rfl⟩ : ∃ j, k = j + 1 := ⟨k - 1, by omega⟩
  rw [e1, ← Int32.ofNat_mul, wi_ona, Nat.add_sub_cancel, Nat.mul_add, Nat.mul_one, Nat.mul_comm j w]
  congr 1
  omega
theorem pb_to2 {s w k : Nat} (hk : 1 ≤ k) (h : k < 1000) : Int32.ofNat (s + w) + (Int32.ofNat (k + 1) - Int32.ofInt 2) * Int32.ofNat w = Int32.ofNat (s + w * k) := by
  have e1 : Int32.ofNat (k + 1) - Int32.ofInt 2 = Int32.ofNat (k - 1) := (mr_sub (b := 2) (a := k + 1) (by omega) (by omega)).trans (congrArg Int32.ofNat (by omega))
  obtain ⟨j, rfl⟩ : ∃ j, k = j + 1 := ⟨k - 1, by omega⟩
  rw [e1, ← Int32.ofNat_mul, wi_ona, Nat.add_sub_cancel, Nat.mul_add, Nat.mul_one, Nat.mul_comm j w]
  congr 1
  omega
def pb_l26 (n a lo hi s w t : Nat) (x8 x9 x10 x11 x13 x14 : Option Value) : List (Option Value) := [some (.ref 460), some (.int (Int32.ofNat n)), some (.int (Int32.ofNat a)), some (.int (Int32.ofNat lo)), some (.int (Int32.ofNat hi)), some (.int (Int32.ofNat s)), some (.int (Int32.ofNat w)), some (.int (Int32.ofNat t)), x8, x9, x10, x11, none, x13, x14, none, none, none, none, none]
def pb_l26o (n a lo hi s w t : Nat) (x8 x9 x10 : Option Value) : List (Option Value) := pb_l26 n a lo hi s w t x8 x9 x10 none none none
def pb_r1 (U : np_A) (s hi m : Nat) (I1 : Nat → Nat → Int32) (L1 : Nat → Nat → Int64) : Prop := pb_W L1 s U 1 (pb_hi hi) m ∧ I1 460 75 = Int32.ofNat (s + m)
def pb_r2 (U : np_A) (s lo hi k : Nat) (en be : Int64) (L1 : Nat → Nat → Int64) : Prop := (hi = 0 ∧ en = 0 ∧ k = 1 ∧ pb_P L1 s U) ∨ (¬ hi = 0 ∧ pb_W L1 s U k hi (np_n U * hi) ∧ pb_b en s (np_n U * hi) (np_tL U lo k) ∧ pb_b be (s + np_n U * (k - 1)) (np_n U) (np_L U) ∧ k ≤ hi)
def pb_h426 (U : np_A) (n a lo hi s : Nat) (T : wv_T) (N : Nat) (I : Nat → Nat → Int32) (L : Nat → Nat → Int64) (R : Nat → Nat → Option Nat) : Nat → Option (Nat → wv_P) := fun pc =>
  if pc = 28 then some (fun mm lv st T1 N1 I1 L1 R1 nc ns => ∃ (k : Nat) (x9 x10 : Option Value), lv = pb_l26o n a lo hi s (np_n U) (s + np_n U) (pb_i k) x9 x10 ∧ st = [] ∧ T1 = T ∧ N1 = N ∧ R1 = R ∧ nc = 0 ∧ ns = 0 ∧ pb_G3 n (s + np_n U) I L I1 L1 ∧ pb_r1 U s hi (np_n U * k) I1 L1 ∧ 1 ≤ k ∧ k ≤ pb_hi hi ∧ mm = 1000000 + 1000 * (1000 - k) + 999)
  else if pc = 39 then some (fun mm lv st T1 N1 I1 L1 R1 nc ns => ∃ (k p : Nat) (x10 : Option Value), lv = pb_l26o n a lo hi s (np_n U) (s + np_n U) (pb_i k) (pb_i (s + p)) x10 ∧ st = [] ∧ T1 = T ∧ N1 = N ∧ R1 = R ∧ nc = 0 ∧ ns = 0 ∧ pb_G3 n (s + np_n U) I L I1 L1 ∧ pb_r1 U s hi (np_n U * k + p) I1 L1 ∧ 1 ≤ k ∧ k < hi ∧ p ≤ np_n U ∧ mm = 1000000 + 1000 * (1000 - k) + (64 - p))
  else if pc = 125 then some (fun mm lv st T1 N1 I1 L1 R1 nc ns => ∃ (x8 x9 x10 : Option Value), lv = pb_l26o n a lo hi s (np_n U) (s + np_n U) x8 x9 x10 ∧ st = [.int (Int32.ofNat (np_need U lo))] ∧ T1 = T ∧ N1 = N ∧ R1 = R ∧ nc = 0 ∧ ns = 0 ∧ pb_G3 n (s + np_n U) I L I1 L1 ∧ pb_r1 U s hi (np_n U * pb_hi hi) I1 L1 ∧ mm = 500000)
  else if pc = 184 then some (fun mm lv st T1 N1 I1 L1 R1 nc ns => ∃ (k : Nat) (en be : Int64) (x14 : Option Value), lv = pb_l26 n a lo hi s (np_n U) (s + np_n U) (pb_i (np_need U lo)) (some (.long en)) none (some (.long be)) (pb_i (k + 1)) x14 ∧ st = [] ∧ T1 = T ∧ N1 = N ∧ R1 = R ∧ nc = 0 ∧ ns = 0 ∧ pb_G3 n s I L I1 L1 ∧ pb_r2 U s lo hi k en be L1 ∧ pb_b (L1 512 n) s (np_n (np_times lo hi U)) (np_F (np_times lo hi U)) ∧ I1 460 75 = Int32.ofNat (s + np_n U * pb_hi hi) ∧ 1 ≤ k ∧ mm = 1000 - k)
  else none
def pb_c426 : wv_c1 := fun as T N I L R q => ∃ (U : np_A) (n a lo hi s : Nat), as = [.ref 460, .int (Int32.ofNat n), .int (Int32.ofNat a), .int (Int32.ofNat lo), .int (Int32.ofNat hi)] ∧ wm_T T ∧ pb_T I L a s U ∧ s + np_n U * pb_hi hi ≤ 63 ∧ I 460 75 = Int32.ofNat (s + np_n U) ∧ n < 200 ∧ a < n ∧ lo ≤ hi ∧ hi < 900 ∧ ∀ I1 L1, I1 460 75 = Int32.ofNat (s + np_n (np_times lo hi U)) → I1 514 n = wb_i (np_e (np_times lo hi U)) → pb_P L1 s (np_times lo hi U) → pb_b (L1 512 n) s (np_n (np_times lo hi U)) (np_F (np_times lo hi U)) → pb_b (L1 513 n) s (np_n (np_times lo hi U)) (np_L (np_times lo hi U)) → pb_F2 n I I1 → pb_G2 n s L L1 → q (.inl none) T N I1 L1 R 0 0
set_option maxRecDepth 100000 in
theorem wM_426 : ∃ cb ci np, pt_mt 426 = some (32, cb, 15, false, none, ci, np) := ⟨_, _, _, rfl⟩
set_option maxRecDepth 100000 in
set_option maxHeartbeats 4000000 in
theorem pb_repeat {sc : pt_Sc} {d : Nat} : wv_C wm_fx sc (d + 1 + 1 + 1) 426 pb_c426 := by
  rintro as T N I L R q ⟨U, n, a, lo, hi, s, rfl, hT, hA, hfit, h75, hn, ha, hlo, hhi, h⟩ w0 HR
  obtain ⟨cb, ci, np, hm⟩ := wM_426
  have hc421 : wv_C wm_fx sc (d + 1 + 1) 421 pb_c421 := wv_C_deep (by omega) (pb_newPlace (d := d))
  have hc422 : wv_C wm_fx sc (d + 1 + 1) 422 pb_c422 := wv_C_deep (by omega) (pb_leadTo (d := d))
  refine wv_meth (hh := none) rfl (sp := wv_sp [(421, pb_c421), (422, pb_c422)]) (hd := pb_h426 U n a lo hi s T N I L R) (n := 300) (n1 := 300) hm zc_426 rfl (wv_sp_ok (fun q hq => by
    rcases List.mem_cons.mp hq with h | h
    · rw [h]; exact hc421
    rw [List.mem_singleton.mp h]; exact hc422)) ?_ ?_ HR
  · obtain ⟨a1, a2, a3, a4, a5, a6⟩ := hA
    have ean := wi_onn (n := a) (by omega)
    have enn := wi_onn (n := n) (by omega)
    have hH1 : 1 ≤ pb_hi hi := by
      unfold pb_hi
      split <;> omega
    have hwH : np_n U ≤ np_n U * pb_hi hi := by
      have := Nat.mul_le_mul_left (np_n U) hH1
      rw [Nat.mul_one] at this
      exact this
    have ew : Int32.ofNat (s + np_n U) - Int32.ofNat s = Int32.ofNat (np_n U) := by
      rw [mr_sub (by omega) (by omega), Nat.add_sub_cancel_left]

    refine ⟨_, wm_t hT rfl, pp_b (c := 200) (by omega) (by omega), ?_⟩
    rw [ean, a1]
    refine ⟨_, wm_t hT rfl, pp_b (c := 200) (by omega) (by omega), ?_⟩
    rw [ean, a2]
    refine ⟨_, 1, none, none, by rw [ew, h75]; rfl, rfl, rfl, rfl, rfl, rfl, rfl, ⟨fun _ _ _ => rfl, fun _ _ _ _ _ => rfl, fun _ _ => ⟨rfl, rfl⟩⟩, ⟨?_, ?_⟩, Nat.le_refl _, hH1, rfl⟩
    · rw [Nat.mul_one]
      exact pb_W0 a3 hH1
    · rw [Nat.mul_one]
      exact h75
  · intro pc P hP m lv st T1 N1 I1 L1 R1 nc ns hh
    obtain ⟨a1, a2, a3, a4, a5, a6⟩ := hA
    have ean := wi_onn (n := a) (by omega)
    have enn := wi_onn (n := n) (by omega)
    have hH1 : 1 ≤ pb_hi hi := by
      unfold pb_hi
      split <;> omega
    have hwH : np_n U ≤ np_n U * pb_hi hi := by
      have := Nat.mul_le_mul_left (np_n U) hH1
      rw [Nat.mul_one] at this
      exact this
    have ew : Int32.ofNat (s + np_n U) - Int32.ofNat s = Int32.ofNat (np_n U) := by
      rw [mr_sub (by omega) (by omega), Nat.add_sub_cancel_left]

    have ehi := wi_on (n := hi) (by omega)
    have elo := wi_on (n := lo) (by omega)
    have e1i : (Int32.ofInt 1).toInt = 1 := rfl
    have hHn : ¬ hi = 0 → pb_hi hi = hi := fun z => if_neg z
    have hH0 : hi = 0 → pb_hi hi = 1 := fun z => if_pos z
    unfold pb_h426 at hP
    by_cases p28 : pc = 28
    · rw [if_pos p28] at hP
      cases hP
      subst p28
      obtain ⟨k, x9, x10, rfl, rfl, rfl, rfl, rfl, rfl, rfl, ⟨gI, gL⟩, ⟨r1, r2⟩, hk1, hk2, rfl⟩ := hh
      have hk9 : k < 1000 := by
        have : pb_hi hi < 1000 := by
          unfold pb_hi
          split <;> omega
        omega
      have ek := wi_on (n := k) (by omega)
      refine ⟨fun w => ?_, fun w => ?_⟩
      · rw [wi_le, ehi, ek] at w
        have e : k = pb_hi hi := by
          by_cases c : hi = 0
          · have := hH0 c
            omega
          · have := hHn c
            omega
        subst e
        refine ⟨2, _, Or.inl rfl, wm_t hT rfl, pp_b (c := 200) (by omega) (by omega), ?_⟩
        rw [ean, gI 514 a (by omega), a6]
        have hne : np_need U lo = if np_e U = true then 1 else if 1 < lo then lo else 1 := rfl
        refine ⟨fun w1 => ?_, fun w1 => ?_⟩
        · have w1 : np_e U = false := wb_i_2.mp (fun z => z w1)
          rw [w1, if_neg (by decide)] at hne
          refine ⟨fun w2 => ?_, fun w2 => ?_⟩
          · have w2 : Int32.ofNat lo ≤ Int32.ofInt 1 := w2
            rw [wi_le, elo, e1i] at w2
            rw [if_neg (by omega)] at hne
            exact ⟨500000, by omega, _, _, _, rfl, by rw [hne]; rfl, rfl, rfl, rfl, rfl, rfl, ⟨gI, gL⟩, ⟨r1, r2⟩, rfl⟩
          · have w2 : ¬ Int32.ofNat lo ≤ Int32.ofInt 1 := w2
            rw [wi_le, elo, e1i] at w2
            rw [if_pos (by omega)] at hne
            exact ⟨500000, by omega, _, _, _, rfl, by rw [hne], rfl, rfl, rfl, rfl, rfl, ⟨gI, gL⟩, ⟨r1, r2⟩, rfl⟩
        · have w1 : np_e U = true := wb_i_1.mp w1
          rw [w1, if_pos rfl] at hne
          exact ⟨500000, by omega, _, _, _, rfl, by rw [hne]; rfl, rfl, rfl, rfl, rfl, rfl, ⟨gI, gL⟩, ⟨r1, r2⟩, rfl⟩
      · rw [wi_le, ehi, ek] at w
        exact ⟨1000000 + 1000 * (1000 - k) + (64 - 0), by omega, k, 0, _, rfl, rfl, rfl, rfl, rfl, rfl, rfl, ⟨gI, gL⟩, ⟨r1, r2⟩, hk1, by omega, Nat.zero_le _, rfl⟩
    rw [if_neg p28] at hP
    by_cases p39 : pc = 39
    · rw [if_pos p39] at hP
      cases hP
      subst p39
      obtain ⟨k, p, x10, rfl, rfl, rfl, rfl, rfl, rfl, rfl, ⟨gI, gL⟩, ⟨r1, r2⟩, hk1, hk2, hp, rfl⟩ := hh
      have eH := hHn (by omega)
      have ek := wi_on (n := k) (by omega)
      have ep := wi_on (n := s + p) (by omega)
      have epn := wi_onn (n := s + p) (by omega)
      have eu := wi_on (n := s + np_n U) (by omega)
      have hmk : np_n U * k + np_n U ≤ np_n U * pb_hi hi := by
        have := Nat.mul_le_mul_left (np_n U) (show k + 1 ≤ pb_hi hi by omega)
        rw [Nat.mul_add, Nat.mul_one] at this
        exact this
      refine ⟨fun w => ?_, fun w => ?_⟩
      · rw [wi_ona, wi_le, eu, ep] at w
        have e : p = np_n U := by omega
        subst e
        refine ⟨1000000 + 1000 * (1000 - (k + 1)) + 999, by omega, k + 1, pb_i (s + np_n U), x10, ?_, rfl, rfl, rfl, rfl, rfl, rfl, ⟨gI, gL⟩, ?_, by omega, by omega, rfl⟩
        · unfold pb_l26o pb_l26 pb_i
          rw [← wq_4s k]
          rfl
        · rw [Nat.mul_add, Nat.mul_one]
          exact ⟨r1, r2⟩
      · rw [wi_ona, wi_le, eu, ep] at w
        have hpU : p < np_n U := by omega
        refine ⟨_, wm_t hT rfl, pp_b (c := 64) (by omega) (by omega), ?_⟩
        rw [epn]
        refine ⟨L1 506 (s + p), s + (np_n U * k + p), rfl, hT, r2, by omega, ?_⟩
        have etn := wi_onn (n := s + (np_n U * k + p)) (by omega)
        refine ⟨_, wm_t hT rfl, pp_b (c := 64) (by omega) (by omega), ?_⟩
        rw [epn]
        refine ⟨_, wm_t hT rfl, pp_b (c := 64) (by omega) (by omega), (by decide), ?_⟩
        rw [etn, pb_to hk1 (by omega)]
        have hPU : pb_P L1 s U := pb_P_c a3 (fun j hj => gL.2 j hj)
        have hpk : np_n U ≤ np_n U * k := by
          have := Nat.mul_le_mul_left (np_n U) hk1
          rw [Nat.mul_one] at this
          exact this
        have eo : wv_u (wv_u L1 506 (s + (np_n U * k + p)) (L1 506 (s + p))) 507 (s + (np_n U * k + p)) 0 507 (s + p) = L1 507 (s + p) := by
          rw [wv_u_no _ _ (by omega), wv_u_no _ _ (by omega)]
        rw [eo]
        generalize hL2 : wv_u (wv_u (wv_u L1 506 (s + (np_n U * k + p)) (L1 506 (s + p))) 507 (s + (np_n U * k + p)) 0) 507 (s + (np_n U * k + p)) (L1 507 (s + p) >>> ((Int32.ofNat s).toInt64 &&& 63) <<< ((Int32.ofNat (s + np_n U * k)).toInt64 &&& 63)) = L2
        have l6 : ∀ j, j < s + (np_n U * k + p) → L2 506 j = L1 506 j ∧ L2 507 j = L1 507 j := fun j hj => by
          rw [← hL2, wv_u_no _ _ (by omega), wv_u_no _ _ (by omega), wv_u_no _ _ (by omega), wv_u_no _ _ (by omega), wv_u_no _ _ (by omega), wv_u_no _ _ (by omega)]
          exact ⟨rfl, rfl⟩
        have l6t : L2 506 (s + (np_n U * k + p)) = L1 506 (s + p) ∧ L2 507 (s + (np_n U * k + p)) = (L1 507 (s + p) >>> ((Int32.ofNat s).toInt64 &&& 63)) <<< ((Int32.ofNat (s + np_n U * k)).toInt64 &&& 63) := by
          rw [← hL2, wv_u_at, wv_u_no _ _ (by omega), wv_u_no _ _ (by omega), wv_u_at]
          exact ⟨rfl, rfl⟩
        have lo2 : ∀ c j, ¬ c = 506 → ¬ c = 507 → L2 c j = L1 c j := fun c j z1 z2 => by
          rw [← hL2, wv_u_no _ _ (by omega), wv_u_no _ _ (by omega), wv_u_no _ _ (by omega)]
        refine ⟨1000000 + 1000 * (1000 - k) + (64 - (p + 1)), by omega, k, p + 1, pb_i (s + (np_n U * k + p)), ?_, rfl, rfl, rfl, rfl, rfl, rfl, ⟨fun c j z => ?_, fun c j z1 z2 z3 => (lo2 c j z1 z2).trans (gL.1 c j z1 z2 z3), fun j hj => ?_⟩, ⟨pb_W1 hPU r1 hpU (by omega) (by omega) l6 l6t.1 l6t.2, ?_⟩, hk1, hk2, by omega, rfl⟩
        · unfold pb_l26o pb_l26 pb_i
          rw [show Int32.ofNat (s + (p + 1)) = Int32.ofNat (s + p) + Int32.ofInt 1 from (wq_4s (s + p)).symm]
          rfl
        · rw [wv_u_no _ _ z]
          exact gI c j z
        · obtain ⟨y1, y2⟩ := l6 j (by omega)
          rw [y1, y2]
          exact gL.2 j hj
        · rw [wv_u_at]
          congr 1
    rw [if_neg p39] at hP
    by_cases p125 : pc = 125
    · rw [if_pos p125] at hP
      cases hP
      subst p125
      obtain ⟨x8, x9, x10, rfl, rfl, rfl, rfl, rfl, rfl, rfl, ⟨gI, gL⟩, ⟨r1, r2⟩, rfl⟩ := hh
      have hPU : pb_P L1 s U := pb_P_c a3 (fun j hj => gL.2 j hj)
      have l512a : L1 512 a = L 512 a := gL.1 _ _ (by omega) (by omega) (by omega)
      have l513a : L1 513 a = L 513 a := gL.1 _ _ (by omega) (by omega) (by omega)
      have hne1 : 1 ≤ np_need U lo := by
        unfold np_need
        split
        · omega
        split <;> omega
      have hne9 : np_need U lo < 1000 := by
        unfold np_need
        split
        · omega
        split <;> omega
      have ene := wi_on (n := np_need U lo) (by omega)
      have gF : ∀ x : Int64, pb_G3 n s I L I1 (wv_u L1 512 n x) := fun x => ⟨gI, fun c j z1 z2 z3 => by
        rw [wv_u_no _ _ (by omega)]
        exact gL.1 c j z1 z2 z3, fun j hj => by
        rw [wv_u_no _ _ (by omega), wv_u_no _ _ (by omega)]
        exact gL.2 j (by omega)⟩
      refine ⟨_, wm_t hT rfl, pp_b (c := 200) (by omega) (by omega), ?_⟩
      rw [ean, l513a]
      refine ⟨fun w1 => ?_, fun w1 => ?_⟩
      · have w1 : Int32.ofNat hi ≤ 0 := w1
        rw [wi_le, ehi, wi_0] at w1
        have h0 : hi = 0 := by omega
        refine ⟨_, wm_t hT rfl, pp_b (c := 200) (by omega) (by omega), (by decide), ?_⟩
        rw [enn]
        refine ⟨fun w2 => ?_, fun w2 => ?_⟩
        · refine ⟨1000 - 1, by omega, 1, 0 ||| 0, _, _, rfl, rfl, rfl, rfl, rfl, rfl, rfl, gF 0, Or.inl ⟨h0, by decide, rfl, pb_P_c hPU (fun j _ => ⟨by rw [wv_u_no _ _ (by omega)], by rw [wv_u_no _ _ (by omega)]⟩)⟩, ?_, r2, Nat.le_refl _, rfl⟩
          rw [wv_u_at]
          refine pb_bz (fun j _ => ?_)
          unfold np_times
          rw [if_pos h0]
          rfl
        · have w2 : ¬ Int32.ofNat hi ≤ 0 := w2
          rw [wi_le, ehi, wi_0] at w2
          omega
      have w1 : ¬ Int32.ofNat hi ≤ 0 := w1
      rw [wi_le, ehi, wi_0] at w1
      have h0 : ¬ hi = 0 := by omega
      have eH := hHn h0
      rw [eH] at r1
      refine ⟨_, wm_t hT rfl, pp_b (c := 200) (by omega) (by omega), ?_⟩
      rw [ean, l512a]
      refine ⟨_, wm_t hT rfl, pp_b (c := 200) (by omega) (by omega), (by decide), ?_⟩
      rw [enn]
      have hb5 : pb_b (L 513 a) (s + np_n U * 0) (np_n U) (np_L U) := by
        rw [Nat.mul_zero]
        exact a5
      have t1 := pb_tL1 (lo := lo) (hi := hi) (k := 0) pb_tL0 (by omega) hb5
      have fin : ∀ z : Int64, z = (if np_need U lo ≤ 0 + 1 then L 513 a else 0) → pb_r2 U s lo hi 1 (0 ||| z) (L 513 a) (wv_u L1 512 n (L 512 a)) := fun z hz => Or.inr ⟨h0, fun p hp => by
        rw [wv_u_no _ _ (by omega), wv_u_no _ _ (by omega)]
        exact r1 p hp, by rw [hz]; exact t1, hb5, by omega⟩
      have fF : pb_b (wv_u L1 512 n (L 512 a) 512 n) s (np_n (np_times lo hi U)) (np_F (np_times lo hi U)) := by
        rw [wv_u_at]
        exact pb_tF h0 a4
      refine ⟨fun w2 => ?_, fun w2 => ?_⟩
      · have w2 : Int32.ofNat hi ≤ 0 := w2
        rw [wi_le, ehi, wi_0] at w2
        omega
      refine ⟨fun w3 => ?_, fun w3 => ?_⟩
      · rw [wi_lt, ene, e1i] at w3
        exact ⟨1000 - 1, by omega, 1, 0 ||| 0, _, _, rfl, rfl, rfl, rfl, rfl, rfl, rfl, gF _, fin 0 (by rw [if_neg (by omega)]), fF, r2, Nat.le_refl _, rfl⟩
      · rw [wi_lt, ene, e1i] at w3
        exact ⟨1000 - 1, by omega, 1, 0 ||| L 513 a, _, _, rfl, rfl, rfl, rfl, rfl, rfl, rfl, gF _, fin (L 513 a) (by rw [if_pos (by omega)]), fF, r2, Nat.le_refl _, rfl⟩
    rw [if_neg p125] at hP
    by_cases p184 : pc = 184
    · rw [if_pos p184] at hP
      cases hP
      subst p184
      obtain ⟨k, en, be, x14, rfl, rfl, rfl, rfl, rfl, rfl, rfl, ⟨gI, gL⟩, hr, hF, r75, hk1, rfl⟩ := hh
      have hk9 : k < 1000 := by
        rcases hr with z | z
        · omega
        · omega
      have ek := wi_on (n := k + 1) (by omega)
      have l512a : L1 512 a = L 512 a := gL.1 _ _ (by omega) (by omega) (by omega)
      have l513a : L1 513 a = L 513 a := gL.1 _ _ (by omega) (by omega) (by omega)
      refine ⟨fun w => ?_, fun w => ?_⟩
      · rw [wi_lt, ehi, ek] at w
        have hPt : pb_P L1 s (np_times lo hi U) ∧ pb_b en s (np_n (np_times lo hi U)) (np_L (np_times lo hi U)) := by
          rcases hr with ⟨z1, z2, z3, z4⟩ | ⟨z1, z2, z3, z4, z5⟩
          · subst z1
            refine ⟨z4, ?_⟩
            rw [z2]
            exact pb_bz (fun j _ => rfl)
          · have e : k = hi := by omega
            subst e
            exact ⟨pb_timesP z1 z2, pb_tLe z1 z3⟩
        have fin : ∀ (bb : Bool), bb = np_e (np_times lo hi U) → q (.inl none) T1 N1 (wv_u I1 514 n (vp_nar .boolean (wb_i bb))) (wv_u L1 513 n en) R1 0 0 := fun bb hbb => by
          refine h _ _ ?_ ?_ ?_ ?_ ?_ ?_ ?_
          · rw [wv_u_no _ _ (by omega), pb_tn]
            exact r75
          · rw [wv_u_at, hbb]
            cases np_e (np_times lo hi U) <;> rfl
          · exact pb_P_c hPt.1 (fun j _ => ⟨by rw [wv_u_no _ _ (by omega)], by rw [wv_u_no _ _ (by omega)]⟩)
          · rw [wv_u_no _ _ (by omega)]
            exact hF
          · rw [wv_u_at]
            exact hPt.2
          · intro c j z1 z2
            rw [wv_u_no _ _ (by omega)]
            exact gI c j z1
          · refine ⟨fun c j z1 z2 z3 => ?_, fun j hj => ?_⟩
            · rw [wv_u_no _ _ (by omega)]
              exact gL.1 c j z1 z2 z3
            · rw [wv_u_no _ _ (by omega), wv_u_no _ _ (by omega)]
              exact gL.2 j hj
        have ete : np_e (np_times lo hi U) = (decide (lo = 0) || np_e U) := by
          unfold np_times
          by_cases c : hi = 0
          · rw [if_pos c, decide_eq_true (by omega)]
            rfl
          · rw [if_neg c]
            rfl
        refine ⟨_, wm_t hT rfl, pp_b (c := 200) (by omega) (by omega), (by decide), ?_⟩
        rw [enn]
        refine ⟨fun w1 => ?_, fun w1 => ?_⟩
        · have w1 : Int32.ofNat lo = 0 := w1
          rw [wi_eq, elo, wi_0] at w1
          refine ⟨_, wm_t hT rfl, pp_b (c := 200) (by omega) (by omega), (by decide), ?_⟩
          rw [enn]
          exact fin true (by rw [ete, decide_eq_true (by omega)]; rfl)
        have w1 : ¬ Int32.ofNat lo = 0 := w1
        rw [wi_eq, elo, wi_0] at w1
        refine ⟨2, _, Or.inl rfl, wm_t hT rfl, pp_b (c := 200) (by omega) (by omega), ?_⟩
        rw [ean, gI 514 a (by omega), a6]
        refine ⟨fun w2 => ?_, fun w2 => ?_⟩
        · have w2 : np_e U = false := wb_i_2.mp (fun z => z w2)
          refine ⟨_, wm_t hT rfl, pp_b (c := 200) (by omega) (by omega), (by decide), ?_⟩
          rw [enn]
          exact fin false (by rw [ete, w2, decide_eq_false (by omega)]; rfl)
        · have w2 : np_e U = true := wb_i_1.mp w2
          refine ⟨_, wm_t hT rfl, pp_b (c := 200) (by omega) (by omega), (by decide), ?_⟩
          rw [enn]
          exact fin true (by rw [ete, w2, Bool.or_true])
      · rw [wi_lt, ehi, ek] at w
        rcases hr with ⟨z1, z2, z3, z4⟩ | ⟨z1, z2, z3, z4, z5⟩
        · omega
        have eH := hHn z1
        have hkh : k < hi := by omega
        have hmk : np_n U * k + np_n U ≤ np_n U * hi := by
          have := Nat.mul_le_mul_left (np_n U) (show k + 1 ≤ hi by omega)
          rw [Nat.mul_add, Nat.mul_one] at this
          exact this
        rw [eH] at hfit r75
        refine ⟨_, wm_t hT rfl, pp_b (c := 200) (by omega) (by omega), ?_⟩
        rw [ean, l512a, pb_to2 hk1 hk9]
        refine ⟨be, (L 512 a >>> ((Int32.ofNat s).toInt64 &&& 63)) <<< ((Int32.ofNat (s + np_n U * k)).toInt64 &&& 63), s + np_n U * hi, rfl, hT, r75, by omega, ?_⟩
        have hfi := pb_shift (K := s + np_n U * k) a4 (by omega) (by omega)
        have hla : pb_b (pb_sh (L 513 a) s (s + np_n U * k)) (s + np_n U * k) (np_n U) (np_L U) := pb_shift (K := s + np_n U * k) a5 (by omega) (by omega)
        generalize (L 512 a >>> ((Int32.ofNat s).toInt64 &&& 63)) <<< ((Int32.ofNat (s + np_n U * k)).toInt64 &&& 63) = fi at hfi ⊢
        refine ⟨_, wm_t hT rfl, pp_b (c := 200) (by omega) (by omega), ?_⟩
        rw [ean, pb_ld_6 (by omega), l513a]
        have hW2 := pb_W2 (L1 := pb_ld L1 (s + np_n U * hi) be fi) z2 (by omega) hkh (by omega) (Nat.le_refl _) z4 hfi (fun j _ => ⟨pb_ld_6 (by omega), rfl⟩)
        have t1 := pb_tL1 z3 hkh hla
        have hk1m : np_n U * (k - 1) ≤ np_n U * k := Nat.mul_le_mul_left _ (by omega)
        have gF : pb_G3 n s I L I1 (pb_ld L1 (s + np_n U * hi) be fi) := ⟨gI, fun c j y1 y2 y3 => by
          rw [pb_ld_6 y2]
          exact gL.1 c j y1 y2 y3, fun j hj => by
          rw [pb_ld_6 (by omega), pb_ld_lo z4 (by omega) (by omega)]
          exact gL.2 j hj⟩
        have hF2 : pb_b (pb_ld L1 (s + np_n U * hi) be fi 512 n) s (np_n (np_times lo hi U)) (np_F (np_times lo hi U)) := by
          rw [pb_ld_6 (by omega)]
          exact hF
        have fin : ∀ z : Int64, z = (if np_need U lo ≤ k + 1 then (pb_sh (L 513 a) s (s + np_n U * k)) else 0) → pb_r2 U s lo hi (k + 1) (en ||| z) (pb_sh (L 513 a) s (s + np_n U * k)) (pb_ld L1 (s + np_n U * hi) be fi) := fun z hz => Or.inr ⟨z1, hW2, by rw [hz]; exact t1, by rw [Nat.add_sub_cancel]; exact hla, by omega⟩
        have hne9 : np_need U lo < 1000 := by
          unfold np_need
          split
          · omega
          split <;> omega
        have ene := wi_on (n := np_need U lo) (by omega)
        have el : ∀ (en2 : Int64) (x14 : Option Value), pb_l26 n a lo hi s (np_n U) (s + np_n U) (pb_i (np_need U lo)) (some (.long en2)) none (some (.long (pb_sh (L 513 a) s (s + np_n U * k)))) (some (.int (Int32.ofNat (k + 1) + Int32.ofInt 1))) x14 = pb_l26 n a lo hi s (np_n U) (s + np_n U) (pb_i (np_need U lo)) (some (.long en2)) none (some (.long (pb_sh (L 513 a) s (s + np_n U * k)))) (pb_i (k + 1 + 1)) x14 := fun en2 x14 => by
          rw [wq_4s]
          rfl
        refine ⟨fun w2 => ?_, fun w2 => ?_⟩
        · rw [wi_lt, ene, ek] at w2
          exact ⟨1000 - (k + 1), by omega, k + 1, en ||| 0, (pb_sh (L 513 a) s (s + np_n U * k)), _, el _ _, rfl, rfl, rfl, rfl, rfl, rfl, gF, fin 0 (by rw [if_neg (by omega)]), hF2, by rw [eH]; exact r75, by omega, rfl⟩
        · rw [wi_lt, ene, ek] at w2
          exact ⟨1000 - (k + 1), by omega, k + 1, en ||| (pb_sh (L 513 a) s (s + np_n U * k)), (pb_sh (L 513 a) s (s + np_n U * k)), _, el _ _, rfl, rfl, rfl, rfl, rfl, rfl, gF, fin (pb_sh (L 513 a) s (s + np_n U * k)) (by rw [if_pos (by omega)]), hF2, by rw [eH]; exact r75, by omega, rfl⟩
    rw [if_neg p184] at hP
    cases hP
