/-! ===== the reference: a flip-flop of a part ===== -/
/-- children that the flip-flops look at -/
def fb_kd2 (S : rn_N) (n : Nat) : Prop := (rn_k S n = 13 → nq_r (rn_d S n) < rn_n S ∧ rn_k S (nq_r (rn_d S n)) = 60) ∧ (rn_k S n = 14 → nq_l (rn_d S n) < rn_n S ∧ rn_k S (nq_l (rn_d S n)) = 60) ∧ (rn_k S n = 11 ∨ rn_k S n = 61 ∨ rn_k S n = 32 ∨ rn_k S n = 33 → nq_l (rn_d S n) < rn_n S)
/-- flip-flop x of a node that is no sequence's -/
def fb_fo (S : rn_N) (lk : Nat) (v : Nat → Nat) (bg : Nat → Bool) (n x : Nat) : Prop :=
  (rn_k S n = 10 ∧ ∃ t, t < lk ∧ bg t = true) ∨
  (rn_k S n = 12 ∧ x < lk ∧ bg (lk - 1 - x) = true) ∨
  (rn_k S n = 13 ∧ fb_on bg (fun j => rn_h S (nq_r (rn_d S n)) (v j)) 0 lk) ∨
  (rn_k S n = 14 ∧ fb_on bg (fun j => rn_h S (nq_l (rn_d S n)) (v j)) 0 lk)
def fb_l46 (k x n : Nat) (on : Bool) (i : Nat) : List (Option Value) := [some (.ref 460), some (.int (Int32.ofNat k)), some (.int (Int32.ofNat x)), some (.int (Int32.ofNat n)), some (.int (wb_i on)), some (.int (Int32.ofNat i)), none, none, none]
def fb_h446 (k x n lk kn : Nat) (bg : Nat → Bool) (T : wv_T) (N : Nat) (I : Nat → Nat → Int32) (L : Nat → Nat → Int64) (R : Nat → Nat → Option Nat) : Nat → Option (Nat → wv_P) := fun pc =>
  if pc = 54 then some (fun mm lv st T1 N1 I1 L1 R1 nc ns => ∃ (i : Nat) (on : Bool), lv = fb_l46 k x n on i ∧ st = [] ∧ T1 = T ∧ N1 = N ∧ R1 = R ∧ nc = 0 ∧ ns = 0 ∧ I1 = I ∧ L1 = L ∧ i ≤ lk ∧ kn = 10 ∧ fb_be bg i on ∧ mm = lk - i)
  else none
def fb_c446 : wv_c1 := fun as T N I L R q => ∃ (S : rn_N) (m0 p x0 k x lk wd : Nat) (P : pd_P) (Q : Nat → Prop) (pa pb : Nat → Nat) (U : Nat → np_A) (pn : Nat → Nat) (ka : Nat → Nat × (Nat → Nat)) (v : Nat → Nat) (bg : Nat → Nat → Bool), as = [.ref 460, .int (Int32.ofNat k), .int (Int32.ofNat x)] ∧ p < 2 ∧ k < pd_m P ∧ x < 10000 ∧ x < ff_1 P ka k ∧ fp_D S P Q pa pb x0 ∧ ff_Z p S m0 x0 P Q pa U pn ka T I ∧ mr_X T I S m0 lk wd v ∧ fb_kd2 S (pn k) ∧ fb_M (rn_n S) lk bg I ∧ (∀ k, k < lk → I 489 k = Int32.ofNat (v k)) ∧ (fs_b (pd_k P k) → ∀ (mv : Nat → Nat → Nat) (c : Nat) (b : Bool), rk_c (U (nq_l (rn_d S (pn k)))) (ka k).1 mv (ka k).2 → c < (ka k).1 → kk_x (ka k).2 2 (fb_sk (rn_k S (pn k))) x c → (b = true ↔ fb_sf (rn_k S (pn k)) lk (bg (pn k)) (fun i t => fb_e L (nq_l (rn_d S (pn k))) i t) v mv c) → q (.inl (some (.int (wb_i b)))) T N I L R 0 0) ∧ (¬ fs_b (pd_k P k) → ∀ b : Bool, (b = true ↔ fb_fo S lk v (bg (pn k)) (pn k) x) → q (.inl (some (.int (wb_i b)))) T N I L R 0 0)
set_option maxRecDepth 100000 in
theorem wM_446 : ∃ cb ci np, pt_mt 446 = some (32, cb, 6, false, some .boolean, ci, np) := ⟨_, _, _, rfl⟩
set_option maxRecDepth 100000 in
set_option maxHeartbeats 4000000 in
theorem fb_flopOf {sc : pt_Sc} {d : Nat} : wv_C wm_fx sc (d + 1 + 1 + 1 + 1 + 1) 446 fb_c446 := by
  rintro as T N I L R q ⟨S, m0, p, x0, k, x, lk, wd, P, Q, pa, pb, U, pn, ka, v, bg, rfl, hp, hk, hx4, hx, ⟨d1, d2, d3, d4, d5, d6, d7⟩, ⟨⟨_, hn5, hm0, hM⟩, z2, z3, z4, z5, z6, z7⟩, hX, hkd, hbg, h489, hA, hB⟩ w0 HR
  obtain ⟨cb, ci, np, hm⟩ := wM_446
  have hc447 : wv_C wm_fx sc (d + 1 + 1 + 1 + 1) 447 fb_c447 := wv_C_deep (by omega) (fb_onFrom (d := d))
  have hc448 : wv_C wm_fx sc (d + 1 + 1 + 1 + 1) 448 fb_c448 := wv_C_deep (by omega) (fb_seqFlop (d := d))
  refine wv_meth (hh := none) rfl (sp := wv_sp [(447, fb_c447), (448, fb_c448)]) (hd := fb_h446 k x (pn k) lk (rn_k S (pn k)) (bg (pn k)) T N I L R) (n := 300) (n1 := 300) hm zc_446 rfl (wv_sp_ok (fun q hq => by
    rcases List.mem_cons.mp hq with h | h
    · rw [h]; exact hc447
    rw [List.mem_singleton.mp h]; exact hc448)) ?_ ?_ HR
  · have hT := hX.1
    have hlk := hX.2.2.2.1
    have h49 := hX.2.2.1
    have el := wi_on (n := lk) (by omega)
    obtain ⟨hQ, hpa⟩ := z4 k hk
    obtain ⟨y1, y2⟩ := z5 k hk
    obtain ⟨hnn, hfl⟩ := d2 _ hQ
    have hk100 : rn_k S (pn k) < 100 := by unfold fl_prop at hfl; omega
    have ek := wi_on (n := rn_k S (pn k)) (by omega)
    have ekn := wi_onn (n := k) (by omega)
    have enn := wi_onn (n := pn k) (by omega)
    have ex := wi_on (n := x) (by omega)
    have e469 : I 469 (pn k) = Int32.ofNat (rn_k S (pn k)) := (hM _ hnn).1
    have tq := (d1 _ hQ).1
    rw [hpa] at tq
    have hkk : nq_k (rn_d S (pn k)) = rn_k S (pn k) := rfl

    have kinds : (rn_k S (pn k) = 60 → pd_k P k = 0) ∧ (rn_k S (pn k) = 61 → pd_k P k = 1) ∧ (rn_k S (pn k) = 32 → pd_k P k = 2) ∧ (rn_k S (pn k) = 33 → pd_k P k = 3) ∧ (rn_k S (pn k) = 31 → pd_k P k = 4) ∧ (rn_k S (pn k) = 10 → pd_k P k = 5) ∧ (rn_k S (pn k) = 11 → pd_k P k = 6) ∧ (rn_k S (pn k) = 12 → pd_k P k = 7) ∧ (rn_k S (pn k) = 13 → pd_k P k = 8) ∧ (rn_k S (pn k) = 14 → pd_k P k = 9) ∧ (rn_k S (pn k) = 15 → pd_k P k = 10) := by
      rcases tq with ⟨h1, h2, h3⟩ | ⟨h1, h2, h3⟩ | ⟨h1, h2, h3⟩ | ⟨h1, h2, h3⟩ | ⟨h1, h2, h3⟩ | ⟨h1, h2, h3⟩ | ⟨h1, h2, h3⟩ | ⟨h1, h2, h3, h4⟩ | ⟨h1, h2, h3⟩ | ⟨h1, h2, h3⟩ | ⟨h1, h2, h3⟩
      all_goals first
        | exact ⟨fun z => by omega, fun z => by omega, fun z => by omega, fun z => by omega, fun z => by omega, fun z => by omega, fun z => by omega, fun z => by omega, fun z => by omega, fun z => by omega, fun z => by omega⟩
    obtain ⟨k60, k61, k32, k33, k31, k10, k11, k12, k13, k14, k15⟩ := kinds
    refine ⟨_, wm_t hT rfl, pp_b (c := 420) (by omega) (by omega), ?_⟩
    rw [ekn, y1]
    refine ⟨_, wm_t hT rfl, pp_b (c := 800) (by omega) (by omega), ?_⟩
    rw [enn, e469]
    refine ⟨fun w => ?_, fun n10 => ⟨fun w => ?_, fun n11 => ⟨fun w => ?_, fun n12 => ⟨fun w => ?_, fun n13 => ⟨fun w => ?_, fun n14 => ?_⟩⟩⟩⟩⟩
    · rw [ek] at w
      exact ⟨lk - 0, 0, false, rfl, rfl, rfl, rfl, rfl, rfl, rfl, rfl, rfl, Nat.zero_le _, by omega, ⟨fun z => (by cases z), fun ⟨t, t1, _⟩ => by omega⟩, rfl⟩
    · rw [ek] at w
      have hsk : rn_k S (pn k) = 11 ∨ rn_k S (pn k) = 61 ∨ rn_k S (pn k) = 32 ∨ rn_k S (pn k) = 33 := by
        unfold fl_prop at hfl
        rcases Nat.lt_or_ge 0 (ff_1 P ka k) with z | z
        · by_cases c60 : rn_k S (pn k) = 60
          · rw [ff_1, if_neg (by have := k60 c60; omega), if_neg (by have := k60 c60; omega), if_neg (by have := k60 c60; omega), if_neg (by have := k60 c60; omega)] at z
            omega
          by_cases c31 : rn_k S (pn k) = 31
          · rw [ff_1, if_neg (by have := k31 c31; omega), if_neg (by have := k31 c31; omega), if_neg (by have := k31 c31; omega), if_neg (by have := k31 c31; omega)] at z
            omega
          by_cases c15 : rn_k S (pn k) = 15
          · rw [ff_1, if_neg (by have := k15 c15; omega), if_neg (by have := k15 c15; omega), if_neg (by have := k15 c15; omega), if_neg (by have := k15 c15; omega)] at z
            omega
          omega
        · omega
      have hb : fs_b (pd_k P k) := by unfold fs_b; omega
      obtain ⟨mv, c1, c2⟩ := z7 k hk hb
      have hf := fs_lt (P := P) (show k + 1 ≤ pd_m P by omega)
      rw [fs_y hb] at hf
      have hxn : x < kk_n (ka k).2 2 (fb_sk (rn_k S (pn k))) (ka k).1 := by
        rw [ff_1] at hx
        unfold fb_sk
        by_cases c61 : rn_k S (pn k) = 61
        · rw [if_pos (by omega)] at hx
          rw [if_pos c61]
          exact hx
        · rw [if_neg (by omega), if_pos (by omega)] at hx
          rw [if_neg c61]
          exact hx
      refine ⟨_, wm_t hT rfl, pp_b (c := 420) (by omega) (by omega), ?_⟩
      rw [ekn, y2]
      refine ⟨S, m0, lk, wd, pn k, 4 * p + fs P k, x, (ka k).1, v, (ka k).2, mv, bg (pn k), rfl, hX, hnn, hsk, hkd.2.2 hsk, by omega, c2, c1.1, h489, fun i hi => hbg _ _ hnn hi, by have := kk_n_le (kd := (ka k).2) (a := 2) (b := fb_sk (rn_k S (pn k))) (ka k).1; have := c2.2.2.1; omega, hxn, fun c b hc hc2 hcb => ?_⟩
      have hq := hA hb mv c b c1 hc hc2 hcb
      cases b with
      | true => exact ⟨⟨rfl, rfl⟩, hq⟩
      | false => exact ⟨⟨rfl, rfl⟩, hq⟩
    · rw [ek] at w
      refine ⟨fun w2 => ⟨⟨rfl, rfl⟩, ?_⟩, fun w2 => ?_⟩
      · rw [h49, wi_le, el, ex] at w2
        refine hB (by unfold fs_b; omega) false ⟨fun z => (by cases z), fun z => ?_⟩
        unfold fb_fo at z
        omega
      · rw [h49, wi_le, el, ex] at w2
        have ea : (Int8.ofInt 26).toInt32 * Int32.ofNat (pn k) + I 460 49 - Int32.ofInt 1 - Int32.ofNat x = Int32.ofNat (26 * pn k + (lk - 1 - x)) := by
          rw [h49, fb_26, show Int32.ofInt 1 = Int32.ofNat 1 from rfl, mr_sub (by omega) (by omega), mr_sub (by omega) (by omega)]
          congr 1
          omega
        refine ⟨2, _, Or.inl rfl, wm_t hT rfl, by rw [ea]; exact pp_b (c := 20800) (by omega) (by omega), ?_⟩
        rw [ea, wi_onn (n := 26 * pn k + (lk - 1 - x)) (by omega), hbg _ _ hnn (by omega)]
        refine ⟨fun w3 => ⟨⟨rfl, rfl⟩, ?_⟩, fun w3 => ⟨⟨rfl, rfl⟩, ?_⟩⟩
        · have w3 : bg (pn k) (lk - 1 - x) = false := wb_i_0.mp w3
          refine hB (by unfold fs_b; omega) false ⟨fun z => (by cases z), fun z => ?_⟩
          unfold fb_fo at z
          rw [w3] at z
          rcases z with z | ⟨_, _, z⟩ | z | z
          · omega
          · cases z
          · omega
          · omega
        · have w3 : bg (pn k) (lk - 1 - x) = true := wb_i_1.mp w3
          exact hB (by unfold fs_b; omega) true ⟨fun _ => Or.inr (Or.inl ⟨by omega, by omega, w3⟩), fun _ => rfl⟩
    · rw [ek] at w
      obtain ⟨r1, r2⟩ := hkd.1 (by omega)
      refine ⟨_, wm_t hT rfl, pp_b (c := 800) (by omega) (by omega), ?_⟩
      rw [enn, (mr_nd (hM _ hnn) (by omega)).2.2]
      refine ⟨S, m0, lk, wd, pn k, _, v, bg (pn k), rfl, hX, by omega, r1, r2, fun i hi => hbg _ _ hnn hi, fun b hb => ?_⟩
      have hq := hB (by unfold fs_b; omega) b (hb.trans ⟨fun z => Or.inr (Or.inr (Or.inl ⟨by omega, z⟩)), fun z => ?_⟩)
      rotate_left
      · unfold fb_fo at z
        rcases z with z | z | z | z
        · omega
        · omega
        · exact z.2
        · omega
      cases b with
      | true => exact ⟨⟨rfl, rfl⟩, hq⟩
      | false => exact ⟨⟨rfl, rfl⟩, hq⟩
    · rw [ek] at w
      obtain ⟨r1, r2⟩ := hkd.2.1 (by omega)
      refine ⟨_, wm_t hT rfl, pp_b (c := 800) (by omega) (by omega), ?_⟩
      rw [enn, (mr_nd (hM _ hnn) (by omega)).2.1]
      refine ⟨S, m0, lk, wd, pn k, _, v, bg (pn k), rfl, hX, by omega, r1, r2, fun i hi => hbg _ _ hnn hi, fun b hb => ?_⟩
      have hq := hB (by unfold fs_b; omega) b (hb.trans ⟨fun z => Or.inr (Or.inr (Or.inr ⟨by omega, z⟩)), fun z => ?_⟩)
      rotate_left
      · unfold fb_fo at z
        rcases z with z | z | z | z
        · omega
        · omega
        · omega
        · exact z.2
      cases b with
      | true => exact ⟨⟨rfl, rfl⟩, hq⟩
      | false => exact ⟨⟨rfl, rfl⟩, hq⟩
    · rw [ek] at n10 n11 n12 n13 n14
      have hsk : rn_k S (pn k) = 11 ∨ rn_k S (pn k) = 61 ∨ rn_k S (pn k) = 32 ∨ rn_k S (pn k) = 33 := by
        unfold fl_prop at hfl
        rcases Nat.lt_or_ge 0 (ff_1 P ka k) with z | z
        · by_cases c60 : rn_k S (pn k) = 60
          · rw [ff_1, if_neg (by have := k60 c60; omega), if_neg (by have := k60 c60; omega), if_neg (by have := k60 c60; omega), if_neg (by have := k60 c60; omega)] at z
            omega
          by_cases c31 : rn_k S (pn k) = 31
          · rw [ff_1, if_neg (by have := k31 c31; omega), if_neg (by have := k31 c31; omega), if_neg (by have := k31 c31; omega), if_neg (by have := k31 c31; omega)] at z
            omega
          by_cases c15 : rn_k S (pn k) = 15
          · rw [ff_1, if_neg (by have := k15 c15; omega), if_neg (by have := k15 c15; omega), if_neg (by have := k15 c15; omega), if_neg (by have := k15 c15; omega)] at z
            omega
          omega
        · omega
      have hb : fs_b (pd_k P k) := by unfold fs_b; omega
      obtain ⟨mv, c1, c2⟩ := z7 k hk hb
      have hf := fs_lt (P := P) (show k + 1 ≤ pd_m P by omega)
      rw [fs_y hb] at hf
      have hxn : x < kk_n (ka k).2 2 (fb_sk (rn_k S (pn k))) (ka k).1 := by
        rw [ff_1] at hx
        unfold fb_sk
        by_cases c61 : rn_k S (pn k) = 61
        · rw [if_pos (by omega)] at hx
          rw [if_pos c61]
          exact hx
        · rw [if_neg (by omega), if_pos (by omega)] at hx
          rw [if_neg c61]
          exact hx
      refine ⟨_, wm_t hT rfl, pp_b (c := 420) (by omega) (by omega), ?_⟩
      rw [ekn, y2]
      refine ⟨S, m0, lk, wd, pn k, 4 * p + fs P k, x, (ka k).1, v, (ka k).2, mv, bg (pn k), rfl, hX, hnn, hsk, hkd.2.2 hsk, by omega, c2, c1.1, h489, fun i hi => hbg _ _ hnn hi, by have := kk_n_le (kd := (ka k).2) (a := 2) (b := fb_sk (rn_k S (pn k))) (ka k).1; have := c2.2.2.1; omega, hxn, fun c b hc hc2 hcb => ?_⟩
      have hq := hA hb mv c b c1 hc hc2 hcb
      cases b with
      | true => exact ⟨⟨rfl, rfl⟩, hq⟩
      | false => exact ⟨⟨rfl, rfl⟩, hq⟩
  · intro pc P hP m lv st T1 N1 I1 L1 R1 nc ns hh
    have hT := hX.1
    have hlk := hX.2.2.2.1
    have h49 := hX.2.2.1
    have el := wi_on (n := lk) (by omega)
    obtain ⟨hQ, hpa⟩ := z4 k hk
    obtain ⟨y1, y2⟩ := z5 k hk
    obtain ⟨hnn, hfl⟩ := d2 _ hQ
    have hk100 : rn_k S (pn k) < 100 := by unfold fl_prop at hfl; omega
    have ek := wi_on (n := rn_k S (pn k)) (by omega)
    have ekn := wi_onn (n := k) (by omega)
    have enn := wi_onn (n := pn k) (by omega)
    have ex := wi_on (n := x) (by omega)
    have e469 : I 469 (pn k) = Int32.ofNat (rn_k S (pn k)) := (hM _ hnn).1
    have tq := (d1 _ hQ).1
    rw [hpa] at tq
    have hkk : nq_k (rn_d S (pn k)) = rn_k S (pn k) := rfl

    unfold fb_h446 at hP
    by_cases p54 : pc = 54
    · rw [if_pos p54] at hP
      cases hP
      subst p54
      obtain ⟨i, on, rfl, rfl, rfl, rfl, rfl, rfl, rfl, rfl, rfl, hi, hk10, hon, rfl⟩ := hh
      have ei := wi_on (n := i) (by omega)
      have kb : ¬ fs_b (pd_k P k) := by
        unfold fs_b
        rcases tq with ⟨h1, h2, h3⟩ | ⟨h1, h2, h3⟩ | ⟨h1, h2, h3⟩ | ⟨h1, h2, h3⟩ | ⟨h1, h2, h3⟩ | ⟨h1, h2, h3⟩ | ⟨h1, h2, h3⟩ | ⟨h1, h2, h3, h4⟩ | ⟨h1, h2, h3⟩ | ⟨h1, h2, h3⟩ | ⟨h1, h2, h3⟩
        all_goals omega
      refine ⟨fun w => ?_, fun w => ?_⟩
      · rw [h49, wi_le, el, ei] at w
        have e : i = lk := by omega
        subst e
        have hq := hB kb on (hon.trans ⟨fun z => Or.inl ⟨hk10, z⟩, fun z => ?_⟩)
        rotate_left
        · unfold fb_fo at z
          rcases z with z | z | z | z
          · exact z.2
          · omega
          · omega
          · omega
        cases on with
        | true => exact ⟨⟨rfl, rfl⟩, hq⟩
        | false => exact ⟨⟨rfl, rfl⟩, hq⟩
      rw [h49, wi_le, el, ei] at w
      have hil : i < lk := by omega
      have hs1 := fb_be_s hon
      have lst : ∀ on2 : Bool, fb_l46 k x (pn k) on2 (i + 1) = [some (.ref 460), some (.int (Int32.ofNat k)), some (.int (Int32.ofNat x)), some (.int (Int32.ofNat (pn k))), some (.int (wb_i on2)), some (.int (Int32.ofNat i + Int32.ofInt 1)), none, none, none] := fun on2 => by
        rw [wq_4s]
        rfl
      refine ⟨fun w1 => ?_, fun w1 => ?_⟩
      · have w1 : on = true := wb_i_1.mp w1
        rw [w1] at hs1
        exact ⟨lk - (i + 1), by omega, i + 1, true, (lst true).symm, rfl, rfl, rfl, rfl, rfl, rfl, rfl, rfl, by omega, hk10, hs1, rfl⟩
      have w1 : on = false := wb_i_2.mp w1
      rw [w1, Bool.false_or] at hs1
      refine ⟨2, _, Or.inl rfl, wm_t hT rfl, by rw [fb_26]; exact pp_b (c := 20800) (by omega) (by omega), ?_⟩
      rw [fb_26, wi_onn (n := 26 * pn k + i) (by omega), hbg _ _ hnn hil]
      refine ⟨fun w2 => ?_, fun w2 => ?_⟩
      · have w2 : bg (pn k) i = false := wb_i_0.mp w2
        rw [w2] at hs1
        exact ⟨lk - (i + 1), by omega, i + 1, false, (lst false).symm, rfl, rfl, rfl, rfl, rfl, rfl, rfl, rfl, by omega, hk10, hs1, rfl⟩
      · have w2 : bg (pn k) i = true := wb_i_1.mp w2
        rw [w2] at hs1
        exact ⟨lk - (i + 1), by omega, i + 1, true, (lst true).symm, rfl, rfl, rfl, rfl, rfl, rfl, rfl, rfl, by omega, hk10, hs1, rfl⟩
    rw [if_neg p54] at hP
    cases hP
