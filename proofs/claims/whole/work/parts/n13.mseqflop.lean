/-! ===== the reference: a flip-flop of a sequence ===== -/
/-- a row starts at i -/
def fb_from (k lk : Nat) (bg : Nat → Bool) (en : Nat → Nat → Bool) (i : Nat) : Prop := (k = 11 ∧ ∃ t, t ≤ i ∧ bg t = true) ∨ (¬ k = 11 ∧ bg i = true ∧ ¬ (k = 61 ∧ ∃ t, i ≤ t ∧ t ≤ lk ∧ en i t = true))
/-- the flip-flop of class c -/
def fb_sf (k lk : Nat) (bg : Nat → Bool) (en : Nat → Nat → Bool) (v : Nat → Nat) (mv : Nat → Nat → Nat) (c : Nat) : Prop := (∃ i, i < lk ∧ fb_from k lk bg en i ∧ df_run mv 0 (kz v i (lk - i)) = c) ∨ (k = 11 ∧ (∃ t, t < lk ∧ bg t = true) ∧ c = 0)
def fb_sk (k : Nat) : Nat := if k = 61 then 2 else 3
def fb_l48 (n s x k c : Nat) (on be : Bool) (i : Nat) (x9 x10 : Option Value) : List (Option Value) := [some (.ref 460), some (.int (Int32.ofNat n)), some (.int (Int32.ofNat s)), some (.int (Int32.ofNat x)), some (.int (Int32.ofNat k)), some (.int (Int32.ofNat c)), some (.int (wb_i on)), some (.int (wb_i be)), some (.int (Int32.ofNat i)), x9, x10, none, none, none, none]
def fb_48 (k lk : Nat) (bg : Nat → Bool) (en : Nat → Nat → Bool) (v : Nat → Nat) (mv : Nat → Nat → Nat) (c i : Nat) (on : Bool) : Prop := on = true ↔ ∃ t, t < i ∧ fb_from k lk bg en t ∧ df_run mv 0 (kz v t (lk - t)) = c
def fb_be (bg : Nat → Bool) (i : Nat) (be : Bool) : Prop := be = true ↔ ∃ t, t < i ∧ bg t = true
def fb_h448 (n s x k K lk : Nat) (bg : Nat → Bool) (en : Nat → Nat → Bool) (v : Nat → Nat) (mv : Nat → Nat → Nat) (kd : Nat → Nat) (T : wv_T) (N : Nat) (I : Nat → Nat → Int32) (L : Nat → Nat → Int64) (R : Nat → Nat → Option Nat) : Nat → Option (Nat → wv_P) := fun pc =>
  if pc = 37 then some (fun mm lv st T1 N1 I1 L1 R1 nc ns => ∃ (c i : Nat) (on be : Bool) (x9 x10 : Option Value), lv = fb_l48 n s x k c on be i x9 x10 ∧ st = [] ∧ T1 = T ∧ N1 = N ∧ R1 = R ∧ nc = 0 ∧ ns = 0 ∧ I1 = I ∧ L1 = L ∧ i ≤ lk ∧ c < K ∧ kk_x kd 2 (fb_sk k) x c ∧ fb_48 k lk bg en v mv c i on ∧ fb_be bg i be ∧ mm = 3 * (lk - i))
  else if pc = 77 then some (fun mm lv st T1 N1 I1 L1 R1 nc ns => ∃ (c i : Nat) (on be : Bool) (x10 : Option Value), lv = fb_l48 n s x k c on be i (some (.int (wb_i (bg i)))) x10 ∧ st = [] ∧ T1 = T ∧ N1 = N ∧ R1 = R ∧ nc = 0 ∧ ns = 0 ∧ I1 = I ∧ L1 = L ∧ i < lk ∧ c < K ∧ kk_x kd 2 (fb_sk k) x c ∧ fb_48 k lk bg en v mv c i on ∧ fb_be bg (i + 1) be ∧ mm = 3 * (lk - i) - 1)
  else if pc = 123 then some (fun mm lv st T1 N1 I1 L1 R1 nc ns => ∃ (c i : Nat) (on be fr : Bool) (x9 : Option Value), lv = fb_l48 n s x k c on be i x9 (some (.int (wb_i fr))) ∧ st = [] ∧ T1 = T ∧ N1 = N ∧ R1 = R ∧ nc = 0 ∧ ns = 0 ∧ I1 = I ∧ L1 = L ∧ i < lk ∧ c < K ∧ kk_x kd 2 (fb_sk k) x c ∧ fb_48 k lk bg en v mv c i on ∧ fb_be bg (i + 1) be ∧ (fr = true ↔ fb_from k lk bg en i) ∧ mm = 3 * (lk - i) - 2)
  else none
theorem fb_be_s {bg : Nat → Bool} {i : Nat} {be : Bool} (h : fb_be bg i be) : fb_be bg (i + 1) (be || bg i) := by
  unfold fb_be at *
  rw [Bool.or_eq_true, h]
  constructor
  · rintro (⟨t, t1, t2⟩ | z)
    · exact ⟨t, by omega, t2⟩
    · exact ⟨i, by omega, z⟩
  · rintro ⟨t, t1, t2⟩
    by_cases e : t = i
    · subst e
      exact Or.inr t2
    · exact Or.inl ⟨t, by omega, t2⟩
theorem fb_48_s {k lk : Nat} {bg : Nat → Bool} {en : Nat → Nat → Bool} {v : Nat → Nat} {mv : Nat → Nat → Nat} {c i : Nat} {on on2 : Bool} (h : fb_48 k lk bg en v mv c i on) (g : on2 = true ↔ on = true ∨ (fb_from k lk bg en i ∧ df_run mv 0 (kz v i (lk - i)) = c)) : fb_48 k lk bg en v mv c (i + 1) on2 := by
  unfold fb_48 at *
  rw [g, h]
  constructor
  · rintro (⟨t, t1, t2⟩ | z)
    · exact ⟨t, by omega, t2⟩
    · exact ⟨i, by omega, z⟩
  · rintro ⟨t, t1, t2⟩
    by_cases e : t = i
    · subst e
      exact Or.inr t2
    · exact Or.inl ⟨t, by omega, t2⟩
def fb_c448 : wv_c1 := fun as T N I L R q => ∃ (S : rn_N) (m0 lk wd n s x K : Nat) (v kd : Nat → Nat) (mv : Nat → Nat → Nat) (bg : Nat → Bool), as = [.ref 460, .int (Int32.ofNat n), .int (Int32.ofNat s), .int (Int32.ofNat x)] ∧ mr_X T I S m0 lk wd v ∧ n < rn_n S ∧ (rn_k S n = 11 ∨ rn_k S n = 61 ∨ rn_k S n = 32 ∨ rn_k S n = 33) ∧ nq_l (rn_d S n) < rn_n S ∧ s < 8 ∧ rk_T s K mv kd I ∧ df_ok K mv ∧ (∀ k, k < lk → I 489 k = Int32.ofNat (v k)) ∧ (∀ i, i < lk → I 526 (26 * n + i) = wb_i (bg i)) ∧ x < 1000 ∧ x < kk_n kd 2 (fb_sk (rn_k S n)) K ∧ ∀ (c : Nat) (b : Bool), c < K → kk_x kd 2 (fb_sk (rn_k S n)) x c → (b = true ↔ fb_sf (rn_k S n) lk bg (fun i t => fb_e L (nq_l (rn_d S n)) i t) v mv c) → q (.inl (some (.int (wb_i b)))) T N I L R 0 0
set_option maxRecDepth 100000 in
theorem wM_448 : ∃ cb ci np, pt_mt 448 = some (32, cb, 11, false, some .boolean, ci, np) := ⟨_, _, _, rfl⟩
set_option maxRecDepth 100000 in
set_option maxHeartbeats 4000000 in
theorem fb_seqFlop {sc : pt_Sc} {d : Nat} : wv_C wm_fx sc (d + 1 + 1 + 1 + 1) 448 fb_c448 := by
  rintro as T N I L R q ⟨S, m0, lk, wd, n, s, x, K, v, kd, mv, bg, rfl, hX, hn, hk, hl, hs, hT2, ho, h489, hbg, hx, hxk, h⟩ w0 HR
  obtain ⟨cb, ci, np, hm⟩ := wM_448
  have hc449 : wv_C wm_fx sc (d + 1 + 1 + 1) 449 kk_c449 := wv_C_deep (by omega) (kk_classNumber (d := d))
  have hc450 : wv_C wm_fx sc (d + 1 + 1 + 1) 450 fb_c450 := wv_C_deep (by omega) (fb_hasRowFrom (d := d))
  have hc434 : wv_C wm_fx sc (d + 1 + 1 + 1) 434 rk_c434 := wv_C_deep (by omega) (rk_classFrom (d := d))
  refine wv_meth (hh := none) rfl (sp := wv_sp [(449, kk_c449), (450, fb_c450), (434, rk_c434)]) (hd := fb_h448 n s x (rn_k S n) K lk bg (fun i t => fb_e L (nq_l (rn_d S n)) i t) v mv kd T N I L R) (n := 300) (n1 := 300) hm zc_448 rfl (wv_sp_ok (fun q hq => by
    rcases List.mem_cons.mp hq with h | h
    · rw [h]; exact hc449
    rcases List.mem_cons.mp h with h | h
    · rw [h]; exact hc450
    rw [List.mem_singleton.mp h]; exact hc434)) ?_ ?_ HR
  · have hT := hX.1
    have hlk := hX.2.2.2.1
    have h49 := hX.2.2.1
    have hn5 := hX.2.1.2.1
    have enn := wi_onn (n := n) (by omega)
    have ek := wi_on (n := rn_k S n) (by omega)
    have e469 : I 469 n = Int32.ofNat (rn_k S n) := (hX.2.1.2.2.2 n hn).1
    have e61 : ((Int8.ofInt 61).toInt32).toInt = 61 := rfl
    have e11 : ((Int8.ofInt 11).toInt32).toInt = 11 := rfl
    have el := wi_on (n := lk) (by omega)
    have hK := hT2.2.2.1

    refine ⟨_, wm_t hT rfl, pp_b (c := 800) (by omega) (by omega), ?_⟩
    rw [enn, e469]
    refine ⟨fun w => ?_, fun w => ?_⟩
    · rw [wi_eq, ek, e61] at w
      have ks : fb_sk (rn_k S n) = 3 := if_neg (by omega)
      rw [ks] at hxk
      refine ⟨s, K, x, 3, mv, kd, rfl, hT, hs, hT2, by omega, hx, fun c hc hc2 => ?_, fun z => by omega⟩
      exact ⟨3 * (lk - 0), c, 0, false, false, none, none, rfl, rfl, rfl, rfl, rfl, rfl, rfl, rfl, rfl, by omega, hc, by rw [ks]; exact hc2, ⟨fun z => (by cases z), fun ⟨t, t1, _⟩ => by omega⟩, ⟨fun z => (by cases z), fun ⟨t, t1, _⟩ => by omega⟩, rfl⟩
    · rw [wi_eq, ek, e61] at w
      have ks : fb_sk (rn_k S n) = 2 := if_pos (by omega)
      rw [ks] at hxk
      refine ⟨s, K, x, 2, mv, kd, rfl, hT, hs, hT2, by omega, hx, fun c hc hc2 => ?_, fun z => by omega⟩
      exact ⟨3 * (lk - 0), c, 0, false, false, none, none, rfl, rfl, rfl, rfl, rfl, rfl, rfl, rfl, rfl, by omega, hc, by rw [ks]; exact hc2, ⟨fun z => (by cases z), fun ⟨t, t1, _⟩ => by omega⟩, ⟨fun z => (by cases z), fun ⟨t, t1, _⟩ => by omega⟩, rfl⟩
  · intro pc P hP m lv st T1 N1 I1 L1 R1 nc ns hh
    have hT := hX.1
    have hlk := hX.2.2.2.1
    have h49 := hX.2.2.1
    have hn5 := hX.2.1.2.1
    have enn := wi_onn (n := n) (by omega)
    have ek := wi_on (n := rn_k S n) (by omega)
    have e469 : I 469 n = Int32.ofNat (rn_k S n) := (hX.2.1.2.2.2 n hn).1
    have e61 : ((Int8.ofInt 61).toInt32).toInt = 61 := rfl
    have e11 : ((Int8.ofInt 11).toInt32).toInt = 11 := rfl
    have el := wi_on (n := lk) (by omega)
    have hK := hT2.2.2.1

    unfold fb_h448 at hP
    by_cases p37 : pc = 37
    · rw [if_pos p37] at hP
      cases hP
      subst p37
      obtain ⟨c, i, on, be, x9, x10, rfl, rfl, rfl, rfl, rfl, rfl, rfl, rfl, rfl, hi, hc, hc2, hon, hbe, rfl⟩ := hh
      have ei := wi_on (n := i) (by omega)
      have ec := wi_on (n := c) (by omega)
      refine ⟨fun w => ?_, fun w => ?_⟩
      · rw [h49, wi_le, el, ei] at w
        have e : i = lk := by omega
        subst e
        refine ⟨fun w1 => ⟨⟨rfl, rfl⟩, ?_⟩, fun w1 => ?_⟩
        · exact h c true hc hc2 ⟨fun _ => Or.inl (hon.mp (wb_i_1.mp w1)), fun _ => rfl⟩
        have w1 : on = false := wb_i_2.mp w1
        have no1 : ¬ ∃ t, t < i ∧ fb_from (rn_k S n) i bg (fun i t => fb_e L1 (nq_l (rn_d S n)) i t) t ∧ df_run mv 0 (kz v t (i - t)) = c := fun z => by
          rw [hon.mpr z] at w1
          cases w1
        refine ⟨fun w2 => ⟨⟨rfl, rfl⟩, ?_⟩, fun w2 => ?_⟩
        · rw [wi_eq, ek, e11] at w2
          refine h c false hc hc2 ⟨fun z => (by cases z), fun z => ?_⟩
          rcases z with z | z
          · exact (no1 z).elim
          · omega
        rw [wi_eq, ek, e11] at w2
        refine ⟨fun w3 => ⟨⟨rfl, rfl⟩, ?_⟩, fun w3 => ?_⟩
        · have w3 : be = false := wb_i_0.mp w3
          refine h c false hc hc2 ⟨fun z => (by cases z), fun z => ?_⟩
          rcases z with z | ⟨_, z, _⟩
          · exact (no1 z).elim
          · rw [hbe.mpr z] at w3
            cases w3
        have w3 : be = true := wb_i_1.mp w3
        refine ⟨fun w4 => ⟨⟨rfl, rfl⟩, ?_⟩, fun w4 => ⟨⟨rfl, rfl⟩, ?_⟩⟩
        · have w4 : ¬ Int32.ofNat c = 0 := w4
          rw [wi_eq, ec, wi_0] at w4
          refine h c false hc hc2 ⟨fun z => (by cases z), fun z => ?_⟩
          rcases z with z | ⟨_, _, z⟩
          · exact (no1 z).elim
          · omega
        · have w4 : ¬ ¬ Int32.ofNat c = 0 := w4
          rw [wi_eq, ec, wi_0] at w4
          exact h c true hc hc2 ⟨fun _ => Or.inr ⟨by omega, hbe.mp w3, by omega⟩, fun _ => rfl⟩
      rw [h49, wi_le, el, ei] at w
      have hil : i < lk := by omega
      refine ⟨2, _, Or.inl rfl, wm_t hT rfl, by rw [fb_26]; exact pp_b (c := 20800) (by omega) (by omega), ?_⟩
      rw [fb_26, wi_onn (n := 26 * n + i) (by omega), hbg i hil]
      have hs1 := fb_be_s hbe
      refine ⟨fun w1 => ?_, fun w1 => ?_⟩
      · have w1 : be = true := wb_i_1.mp w1
        rw [w1] at hs1
        exact ⟨3 * (lk - i) - 1, by omega, c, i, on, true, x10, rfl, rfl, rfl, rfl, rfl, rfl, rfl, rfl, rfl, hil, hc, hc2, hon, hs1, rfl⟩
      have w1 : be = false := wb_i_2.mp w1
      rw [w1, Bool.false_or] at hs1
      refine ⟨fun w2 => ?_, fun w2 => ?_⟩
      · have w2 : bg i = false := wb_i_0.mp w2
        rw [w2] at hs1
        exact ⟨3 * (lk - i) - 1, by omega, c, i, on, false, x10, rfl, rfl, rfl, rfl, rfl, rfl, rfl, rfl, rfl, hil, hc, hc2, hon, hs1, rfl⟩
      · have w2 : bg i = true := wb_i_1.mp w2
        rw [w2] at hs1
        exact ⟨3 * (lk - i) - 1, by omega, c, i, on, true, x10, rfl, rfl, rfl, rfl, rfl, rfl, rfl, rfl, rfl, hil, hc, hc2, hon, hs1, rfl⟩
    rw [if_neg p37] at hP
    by_cases p77 : pc = 77
    · rw [if_pos p77] at hP
      cases hP
      subst p77
      obtain ⟨c, i, on, be, x10, rfl, rfl, rfl, rfl, rfl, rfl, rfl, rfl, rfl, hil, hc, hc2, hon, hbe, rfl⟩ := hh
      have fin : ∀ fr : Bool, (fr = true ↔ fb_from (rn_k S n) lk bg (fun i t => fb_e L1 (nq_l (rn_d S n)) i t) i) → ∃ m', m' < 3 * (lk - i) - 1 ∧ ∃ (c' i' : Nat) (on' be' fr' : Bool) (x9 : Option Value), fb_l48 n s x (rn_k S n) c on be i (some (.int (wb_i (bg i)))) (some (.int (wb_i fr))) = fb_l48 n s x (rn_k S n) c' on' be' i' x9 (some (.int (wb_i fr'))) ∧ ([] : List Value) = [] ∧ T1 = T1 ∧ N1 = N1 ∧ R1 = R1 ∧ 0 = 0 ∧ 0 = 0 ∧ I1 = I1 ∧ L1 = L1 ∧ i' < lk ∧ c' < K ∧ kk_x kd 2 (fb_sk (rn_k S n)) x c' ∧ fb_48 (rn_k S n) lk bg (fun i t => fb_e L1 (nq_l (rn_d S n)) i t) v mv c' i' on' ∧ fb_be bg (i' + 1) be' ∧ (fr' = true ↔ fb_from (rn_k S n) lk bg (fun i t => fb_e L1 (nq_l (rn_d S n)) i t) i') ∧ m' = 3 * (lk - i') - 2 := fun fr hfr => ⟨3 * (lk - i) - 2, by omega, c, i, on, be, fr, _, rfl, rfl, rfl, rfl, rfl, rfl, rfl, rfl, rfl, hil, hc, hc2, hon, hbe, hfr, rfl⟩
      refine ⟨fun w => ?_, fun w => ?_⟩
      · rw [wi_eq, ek, e11] at w
        refine ⟨fun w1 => ?_, fun w1 => ?_⟩
        · have w1 : bg i = false := wb_i_0.mp w1
          refine fin false ⟨fun z => (by cases z), fun z => ?_⟩
          rcases z with z | ⟨_, z, _⟩
          · omega
          · rw [w1] at z
            cases z
        have w1 : bg i = true := wb_i_1.mp w1
        refine ⟨fun w2 => ?_, fun w2 => ?_⟩
        · rw [wi_eq, ek, e61] at w2
          exact fin true ⟨fun _ => Or.inr ⟨by omega, w1, fun z => by omega⟩, fun _ => rfl⟩
        rw [wi_eq, ek, e61] at w2
        refine ⟨_, wm_t hT rfl, pp_b (c := 800) (by omega) (by omega), ?_⟩
        rw [enn, (mr_nd (hX.2.1.2.2.2 n hn) (by omega)).2.1]
        refine ⟨nq_l (rn_d S n), i, lk, rfl, hT, by omega, by omega, h49, by omega, fun b hb => ?_⟩
        refine ⟨fun w3 => ?_, fun w3 => ?_⟩
        · have w3 : b = true := wb_i_1.mp w3
          refine fin false ⟨fun z => (by cases z), fun z => ?_⟩
          rcases z with z | ⟨_, _, z⟩
          · omega
          · exact (z ⟨by omega, hb.mp w3⟩).elim
        · have w3 : b = false := wb_i_2.mp w3
          refine fin true ⟨fun _ => Or.inr ⟨by omega, w1, fun z => ?_⟩, fun _ => rfl⟩
          rw [hb.mpr z.2] at w3
          cases w3
      · rw [wi_eq, ek, e11] at w
        refine fin be (hbe.trans ⟨fun ⟨t, t1, t2⟩ => Or.inl ⟨by omega, t, by omega, t2⟩, fun z => ?_⟩)
        rcases z with ⟨_, t, t1, t2⟩ | z
        · exact ⟨t, by omega, t2⟩
        · omega
    rw [if_neg p77] at hP
    by_cases p123 : pc = 123
    · rw [if_pos p123] at hP
      cases hP
      subst p123
      obtain ⟨c, i, on, be, fr, x9, rfl, rfl, rfl, rfl, rfl, rfl, rfl, rfl, rfl, hil, hc, hc2, hon, hbe, hfr, rfl⟩ := hh
      have ec := wi_on (n := c) (by omega)
      have lst : ∀ on2 : Bool, fb_l48 n s x (rn_k S n) c on2 be (i + 1) x9 (some (.int (wb_i fr))) = [some (.ref 460), some (.int (Int32.ofNat n)), some (.int (Int32.ofNat s)), some (.int (Int32.ofNat x)), some (.int (Int32.ofNat (rn_k S n))), some (.int (Int32.ofNat c)), some (.int (wb_i on2)), some (.int (wb_i be)), some (.int (Int32.ofNat i + Int32.ofInt 1)), x9, some (.int (wb_i fr)), none, none, none, none] := fun on2 => by
        rw [wq_4s]
        rfl
      refine ⟨fun w => ?_, fun w => ?_⟩
      · have w : on = true := wb_i_1.mp w
        exact ⟨3 * (lk - (i + 1)), by omega, c, i + 1, true, be, _, _, (lst true).symm, rfl, rfl, rfl, rfl, rfl, rfl, rfl, rfl, by omega, hc, hc2, fb_48_s hon ⟨fun _ => Or.inl w, fun _ => rfl⟩, hbe, rfl⟩
      have w : on = false := wb_i_2.mp w
      have no1 : ¬ on = true := fun z => by rw [z] at w; cases w
      refine ⟨fun w1 => ?_, fun w1 => ?_⟩
      · have w1 : fr = false := wb_i_0.mp w1
        have nf1 : ¬ fr = true := fun z => by rw [z] at w1; cases w1
        exact ⟨3 * (lk - (i + 1)), by omega, c, i + 1, false, be, _, _, (lst false).symm, rfl, rfl, rfl, rfl, rfl, rfl, rfl, rfl, by omega, hc, hc2, fb_48_s hon ⟨fun z => (by cases z), fun z => (z.elim no1 (fun y => nf1 (hfr.mpr y.1))).elim⟩, hbe, rfl⟩
      have w1 : fr = true := wb_i_1.mp w1
      refine ⟨s, i, lk, lk, K, mv, kd, v, congrArg (fun z => [Value.ref 460, Value.int (Int32.ofNat s), Value.int (Int32.ofNat i), Value.int z]) h49, hT, hs, hT2, ho, by omega, Nat.le_refl _, hlk, fun k hk => ⟨h489 k hk, (hX.2.2.2.2.2.2 k hk).2⟩, ?_⟩
      have hlt := df_run_lt ho _ (kz_w (v := v) (i := i) (lk - i) (fun k k1 k2 => (hX.2.2.2.2.2.2 k (by omega)).2)) 0 ho.1
      have er := wi_on (n := df_run mv 0 (kz v i (lk - i))) (by omega)
      refine ⟨fun w2 => ?_, fun w2 => ?_⟩
      · rw [wi_eq, er, ec] at w2
        exact ⟨3 * (lk - (i + 1)), by omega, c, i + 1, false, be, _, _, (lst false).symm, rfl, rfl, rfl, rfl, rfl, rfl, rfl, rfl, by omega, hc, hc2, fb_48_s hon ⟨fun z => (by cases z), fun z => (z.elim no1 (fun y => by omega)).elim⟩, hbe, rfl⟩
      · rw [wi_eq, er, ec] at w2
        exact ⟨3 * (lk - (i + 1)), by omega, c, i + 1, true, be, _, _, (lst true).symm, rfl, rfl, rfl, rfl, rfl, rfl, rfl, rfl, by omega, hc, hc2, fb_48_s hon ⟨fun _ => Or.inr ⟨hfr.mp w1, by omega⟩, fun _ => rfl⟩, hbe, rfl⟩
    rw [if_neg p123] at hP
    cases hP
