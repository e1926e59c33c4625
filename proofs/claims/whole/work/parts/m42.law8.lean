/-! ===== the law: classes, classOf, classBehind, kind ===== -/
theorem rk_G_4 {p : Nat} {I I2 : Nat → Nat → Int32} {x : Int32} (h : rk_G p I I2) : rk_G p I (wv_u I2 460 0 x) := fun c j z1 z2 z3 z4 z5 z6 z7 z8 => by
  rw [wv_u_no _ _ (by omega)]
  exact h c j z1 z2 z3 z4 z5 z6 z7 z8
theorem kl_eq {a b : Nat} {x : Int32} (ha : a < 2147483648) (hb : b < 2147483648) (h1 : x = Int32.ofNat a) (h2 : x = Int32.ofNat b) : b = a := by
  have := wi_eq.mp (h1.symm.trans h2)
  rw [wi_on ha, wi_on hb] at this
  omega
def wL_8 (Rel : wv_T → Nat → (Nat → Nat → Int32) → (Nat → Nat → Int64) → (Nat → Nat → Option Nat) → Nat → Nat → Nat → Prop) : Prop := ∀ T N I L R nc ns i, i ≤ 2044 → Rel T N I L R nc ns i → kl_H Rel T N I L R nc ns i
set_option maxRecDepth 100000 in
set_option maxHeartbeats 4000000 in
theorem wL_case8 {Rel : wv_T → Nat → (Nat → Nat → Int32) → (Nat → Nat → Int64) → (Nat → Nat → Option Nat) → Nat → Nat → Nat → Prop} {xs : Nat → Int32} {Lg : Nat} {fv : Value} {q : wv_Q} {sp : wv_K} (hLg : Lg ≤ 2048) (H : wL_8 Rel)
    (s199 : ∀ as T N I L R q, wl_c199 as T N I L R q → sp 199 as T N I L R q) (s415 : ∀ as T N I L R q, rk_c415 as T N I L R q → sp 415 as T N I L R q) (s343 : ∀ as T N I L R q, wp_c343 as T N I L R q → sp 343 as T N I L R q) :
    ∀ m lv st T N I L R nc ns, wL_P Rel xs Lg (some 8) m lv st T N I L R nc ns → wv_S wm_fx fv none sp 0 7 false (some .boolean) zt_0 q (wv wm_fx fv none sp 0 7 false (some .boolean) zt_0 (wv_h2 (wL_hd Rel xs Lg) m) q 100) (zk_at zt_0 601) lv st T N I L R nc ns := by
  rintro m lv st T N I L R nc ns ⟨i, x5, x6, rfl, rfl, hT, hx, hR, hi, hm, hop⟩
  obtain ⟨C, A, w, g, S, m0, x, sq, lo, U, cl, Al, n, v, h537, hI, hK, hL, ⟨w16, w46, hn, hv⟩, r1, r2, r4⟩ := H T N I L R nc ns i (by omega) hR
  have e1 : I 1099511627776 (Int32.ofNat i + Int32.ofInt 1).toNatClampNeg = xs (i + 1) := (wL_x (k := 1) hx hLg hi (by omega)).1
  have b1 : 0 ≤ Int32.ofNat i + Int32.ofInt 1 ∧ (Int32.ofNat i + Int32.ofInt 1).toInt < Lg := (wL_x (k := 1) hx hLg hi (by omega)).2
  have e2 : I 1099511627776 (Int32.ofNat i + Int32.ofInt 2).toNatClampNeg = xs (i + 2) := (wL_x (k := 2) hx hLg hi (by omega)).1
  have b2 : 0 ≤ Int32.ofNat i + Int32.ofInt 2 ∧ (Int32.ofNat i + Int32.ofInt 2).toInt < Lg := (wL_x (k := 2) hx hLg hi (by omega)).2
  have n10 : ¬ (1 : Int32) = 0 := by decide
  have n20 : ¬ (2 : Int32) = 0 := by decide
  have n30 : ¬ (3 : Int32) = 0 := by decide
  have n40 : ¬ (4 : Int32) = 0 := by decide
  have hTm : wm_T T := (hK 0 (by omega)).1
  refine ⟨_, hT, b1, ?_⟩
  rw [e1]
  refine s199 _ _ _ _ _ _ _ ⟨_, C, A, w, g, rfl, h537, hI, fun hb => ?_, fun p hp e => ⟨fun h9 => ?_, fun h9 => ⟨fun hw6 => ?_, fun hw6 => ?_⟩⟩⟩
  · refine ⟨_, hT, b1, ?_⟩
    rw [e1]
    refine s415 _ _ _ _ _ _ _ ⟨_, S, m0, x, sq, lo, U, cl, Al, rfl, hK, fun _ => ?_, fun p hp e => (kl_bp hp e hb).elim⟩
    refine s343 _ _ _ _ _ _ _ ⟨rfl, ?_⟩
    refine ⟨fun _ => ?_, fun h => (h (wv_u_at _ _ _ _)).elim⟩
    refine ⟨fun _ => ?_, fun h => (h n10).elim⟩
    exact wL_fin hLg hi hm hx hT (fun j => wv_u_no _ _ (by omega)) (r1 _)
  · have hs : sq p = [] := by
      cases hq : sq p with
      | nil => rfl
      | cons y l => exact (((hL p hp).2 y l hq).1 h9).elim
    refine ⟨_, hT, b1, ?_⟩
    rw [e1]
    refine s415 _ _ _ _ _ _ _ ⟨_, S, m0, x, sq, lo, U, cl, Al, rfl, hK, fun z => (kl_bp hp e z).elim, fun p2 hp2 e2 => ?_⟩
    have ep := kl_p2 hp hp2 e e2
    subst ep
    refine ⟨fun _ I2 f1 f2 => ?_, fun y l hq => ?_⟩
    · refine s343 _ _ _ _ _ _ _ ⟨rfl, ?_⟩
      rw [f2]
      refine ⟨fun _ => ?_, fun h => (h rfl).elim⟩
      refine ⟨fun _ => ?_, fun h => (h n20).elim⟩
      exact wL_fin hLg hi hm hx hT (fun j => f1 _ _ (by omega) (by omega) (by omega) (by omega) (by omega) (by omega) (by omega) (by omega) ) (r2 p2 hp2 (by first | exact fun _ _ z => (by rw [hs] at z; cases z) | exact fun _ _ z => (by rw [hq] at z; cases z; exact hw)) I2 f1)
    · rw [hs] at hq
      cases hq
  · obtain ⟨y, l, hq⟩ : ∃ y l, sq p = y :: l := by
      cases hq : sq p with
      | nil => exact (h9 ((hL p hp).1 hq)).elim
      | cons y l => exact ⟨y, l, rfl⟩
    obtain ⟨_, y1, y2, y3⟩ := (hL p hp).2 y l hq
    have hw : ¬ rn_w (S p) y ≤ 6 := fun z => hw6 (y2.mpr z)
    refine ⟨_, hT, b1, ?_⟩
    rw [e1]
    refine s415 _ _ _ _ _ _ _ ⟨_, S, m0, x, sq, lo, U, cl, Al, rfl, hK, fun z => (kl_bp hp e z).elim, fun p2 hp2 e2 => ?_⟩
    have ep := kl_p2 hp hp2 e e2
    subst ep
    refine ⟨fun z => ?_, fun y2x l2 hq2 => ?_⟩
    · rw [hq] at z
      cases z
    have hq3 := hq.symm.trans hq2
    have ey : y = y2x := (List.cons.inj hq3).1
    subst ey
    refine ⟨y1, fun _ I2 f1 f2 => ?_, fun z => (hw z).elim⟩
    refine s343 _ _ _ _ _ _ _ ⟨rfl, ?_⟩
    rw [f2]
    refine ⟨fun _ => ?_, fun h => (h rfl).elim⟩
    refine ⟨fun _ => ?_, fun h => (h n30).elim⟩
    exact wL_fin hLg hi hm hx hT (fun j => f1 _ _ (by omega) (by omega) (by omega) (by omega) (by omega) (by omega) (by omega) (by omega) ) (r2 p2 hp2 (by first | exact fun _ _ z => (by rw [hs] at z; cases z) | exact fun _ _ z => (by rw [hq] at z; cases z; exact hw)) I2 f1)
  · obtain ⟨y, l, hq⟩ : ∃ y l, sq p = y :: l := by
      cases hq : sq p with
      | nil => exact (h9 ((hL p hp).1 hq)).elim
      | cons y l => exact ⟨y, l, rfl⟩
    obtain ⟨_, y1, y2, y3⟩ := (hL p hp).2 y l hq
    have hw : rn_w (S p) y ≤ 6 := y2.mp hw6
    obtain ⟨d1, d2, d3, d4, d5, d6, d7, d8⟩ := y3 hw
    refine ⟨d1, d2, d3, kc_S_of d4 (fun T1 N1 I1 L1 R1 n1 s1 hA => ?_)⟩
    obtain ⟨tm, fm⟩ := kc_A_f (by have := (hI.2 p hp).2.2; omega) hA
    have hT1 := tm _ _ hT
    have h537b := tm _ _ h537
    have fS : ∀ j, I1 1099511627776 j = I 1099511627776 j := fun j => (fm _ j (by omega) (Or.inr ⟨_, hT, fun z => by
      cases z
      omega⟩)).1
    have fR : ∀ c j, 460 ≤ c → c ≤ 535 → I1 c j = I c j := fun c j c1 c2 => (fm c j c1 (Or.inl c2)).1
    have hK1 : ∀ p, p < 2 → rk_I T1 I1 p (S p) (m0 p) (x p) (sq p) := fun p3 hp3 => rk_I_c (hK p3 hp3) tm (fun c j c1 c2 => fR c j (by omega) (by omega))
    have e1b : I1 1099511627776 (Int32.ofNat i + Int32.ofInt 1).toNatClampNeg = xs (i + 1) := (fS _).trans e1
    obtain ⟨B1, hB1, ⟨K1, mv1, kd1, hr1⟩, _⟩ := id hA
    have hr1 : kc_r (C p + 76 + 5 * 0) B1 (g p) (A p) I1 K1 mv1 kd1 := hr1
    refine ⟨_, hT1, b1, ?_⟩
    rw [e1b]
    refine s415 _ _ _ _ _ _ _ ⟨_, S, m0, x, sq, lo, U, cl, Al, rfl, hK1, fun z => (kl_bp hp e z).elim, fun p2 hp2 e2 => ?_⟩
    have ep := kl_p2 hp hp2 e e2
    subst ep
    refine ⟨fun z => ?_, fun y2x l2 hq2 => ?_⟩
    · rw [hq] at z
      cases z
    have hq3 := hq.symm.trans hq2
    have ey : y = y2x := (List.cons.inj hq3).1
    subst ey
    refine ⟨y1, fun z => (z hw).elim, fun _ => ⟨rk_P_c d5 (fun c j c1 c2 => fR c j (by omega) (by omega)), fun K mv kd I2 L2 k1 k2 k3 k4 e0 => ?_⟩⟩
    obtain ⟨sm1, sm2, sm3⟩ := rk_same hr1 k1 d6 d7 d8
    have hL3 : rk_L3 L1 L2 := fun c j c1 c2 => (k4 c j c1).trans (wv_u_no _ _ (by omega))
    have e537 : L2 536 0 = (I1 (C p2 + 76 + 5 * 0) 8).toInt64 := (k4 _ _ (by omega)).trans (wv_u_at _ _ _ _)
    have eqv : L2 536 0 = (Int32.ofNat K).toInt64 := by
      rw [e537, hr1.2.2.2.1, sm1]
    have fin := wL_fin (c1 := nc + n1) (s1 := ns + s1) (Rel := Rel) (I1 := I2) (L1 := L2) (y5 := some (.int 0)) (y6 := some (.int ((Int32.ofNat K)))) hLg hi hm hx hT1 (fun j => (k3 _ _ (by omega) (by omega) (by omega) (by omega) (by omega) (by omega) (by omega) (by omega) ).trans (fS j)) (r4 p2 hp2 y l hq hw T1 N1 I1 L1 R1 n1 s1 hA K mv kd I2 L2 k1 k2 k3 hL3 0 (by omega))
    refine s343 _ _ _ _ _ _ _ ⟨rfl, ?_⟩
    rw [e0]
    refine ⟨fun _ => ?_, fun h => (h rfl).elim⟩
    refine ⟨fun h => (h rfl).elim, fun _ => ?_⟩
    refine ⟨_, h537b, ⟨by decide, by decide⟩, ?_⟩
    exact ⟨fun _ => fin, fun h => (h (lg_cmp_0.mpr eqv)).elim⟩
def wL_9 (Rel : wv_T → Nat → (Nat → Nat → Int32) → (Nat → Nat → Int64) → (Nat → Nat → Option Nat) → Nat → Nat → Nat → Prop) : Prop := ∀ T N I L R nc ns i, i ≤ 2044 → Rel T N I L R nc ns i → kl_H Rel T N I L R nc ns i
set_option maxRecDepth 100000 in
set_option maxHeartbeats 4000000 in
theorem wL_case9 {Rel : wv_T → Nat → (Nat → Nat → Int32) → (Nat → Nat → Int64) → (Nat → Nat → Option Nat) → Nat → Nat → Nat → Prop} {xs : Nat → Int32} {Lg : Nat} {fv : Value} {q : wv_Q} {sp : wv_K} (hLg : Lg ≤ 2048) (H : wL_9 Rel)
    (s215 : ∀ as T N I L R q, wl_c215 as T N I L R q → sp 215 as T N I L R q) (s433 : ∀ as T N I L R q, rk_c433 as T N I L R q → sp 433 as T N I L R q) (s343 : ∀ as T N I L R q, wp_c343 as T N I L R q → sp 343 as T N I L R q) :
    ∀ m lv st T N I L R nc ns, wL_P Rel xs Lg (some 9) m lv st T N I L R nc ns → wv_S wm_fx fv none sp 0 7 false (some .boolean) zt_0 q (wv wm_fx fv none sp 0 7 false (some .boolean) zt_0 (wv_h2 (wL_hd Rel xs Lg) m) q 100) (zk_at zt_0 657) lv st T N I L R nc ns := by
  rintro m lv st T N I L R nc ns ⟨i, x5, x6, rfl, rfl, hT, hx, hR, hi, hm, hop⟩
  obtain ⟨C, A, w, g, S, m0, x, sq, lo, U, cl, Al, n, v, h537, hI, hK, hL, ⟨w16, w46, hn, hv⟩, r1, r2, r4⟩ := H T N I L R nc ns i (by omega) hR
  have e1 : I 1099511627776 (Int32.ofNat i + Int32.ofInt 1).toNatClampNeg = xs (i + 1) := (wL_x (k := 1) hx hLg hi (by omega)).1
  have b1 : 0 ≤ Int32.ofNat i + Int32.ofInt 1 ∧ (Int32.ofNat i + Int32.ofInt 1).toInt < Lg := (wL_x (k := 1) hx hLg hi (by omega)).2
  have e2 : I 1099511627776 (Int32.ofNat i + Int32.ofInt 2).toNatClampNeg = xs (i + 2) := (wL_x (k := 2) hx hLg hi (by omega)).1
  have b2 : 0 ≤ Int32.ofNat i + Int32.ofInt 2 ∧ (Int32.ofNat i + Int32.ofInt 2).toInt < Lg := (wL_x (k := 2) hx hLg hi (by omega)).2
  have e3 : I 1099511627776 (Int32.ofNat i + Int32.ofInt 3).toNatClampNeg = xs (i + 3) := (wL_x (k := 3) hx hLg hi (by omega)).1
  have b3 : 0 ≤ Int32.ofNat i + Int32.ofInt 3 ∧ (Int32.ofNat i + Int32.ofInt 3).toInt < Lg := (wL_x (k := 3) hx hLg hi (by omega)).2
  have n10 : ¬ (1 : Int32) = 0 := by decide
  have n20 : ¬ (2 : Int32) = 0 := by decide
  have n30 : ¬ (3 : Int32) = 0 := by decide
  have n40 : ¬ (4 : Int32) = 0 := by decide
  have hTm : wm_T T := (hK 0 (by omega)).1
  refine ⟨_, hT, b1, _, hT, b2, _, hT, b3, ?_⟩
  rw [e1, e2, e3]
  refine s215 _ _ _ _ _ _ _ ⟨_, _, _, n, v, C, A, w, g, rfl, h537, hTm, hI, w16, hn, fun k hk => ⟨(hv k hk).1, (hv k hk).2.2⟩, fun hb => ?_, fun hb hr => ?_, fun p hp e i1 j1 ij jn ei ej => ⟨fun h9 => ?_, fun h9 => ⟨fun hw6 => ?_, fun hw6 => ?_⟩⟩⟩
  · refine ⟨_, hT, b1, _, hT, b2, _, hT, b3, ?_⟩
    rw [e1, e2, e3]
    refine s433 _ _ _ _ _ _ _ ⟨_, _, _, n, v, S, m0, x, sq, lo, U, cl, Al, rfl, hK, w46, hn, fun k hk => (hv k hk).2, fun _ => ?_, fun z => (z hb).elim, fun p hp e _ _ _ _ _ _ => (kl_bp hp e hb).elim⟩
    refine s343 _ _ _ _ _ _ _ ⟨rfl, ?_⟩
    refine ⟨fun _ => ?_, fun h => (h (wv_u_at _ _ _ _)).elim⟩
    refine ⟨fun _ => ?_, fun h => (h n10).elim⟩
    exact wL_fin hLg hi hm hx hT (fun j => wv_u_no _ _ (by omega)) (r1 _)
  · refine ⟨_, hT, b1, _, hT, b2, _, hT, b3, ?_⟩
    rw [e1, e2, e3]
    refine s433 _ _ _ _ _ _ _ ⟨_, _, _, n, v, S, m0, x, sq, lo, U, cl, Al, rfl, hK, w46, hn, fun k hk => (hv k hk).2, fun z => (hb z).elim, fun _ _ => ?_, fun p hp e i1 j1 ij jn ei ej => (kl_br hn ij jn ei ej hr).elim⟩
    refine s343 _ _ _ _ _ _ _ ⟨rfl, ?_⟩
    refine ⟨fun _ => ?_, fun h => (h (wv_u_at _ _ _ _)).elim⟩
    refine ⟨fun _ => ?_, fun h => (h n20).elim⟩
    exact wL_fin hLg hi hm hx hT (fun j => wv_u_no _ _ (by omega)) (r1 _)
  · have hs : sq p = [] := by
      cases hq : sq p with
      | nil => rfl
      | cons y l => exact (((hL p hp).2 y l hq).1 h9).elim
    refine ⟨_, hT, b1, _, hT, b2, _, hT, b3, ?_⟩
    rw [e1, e2, e3]
    refine s433 _ _ _ _ _ _ _ ⟨_, _, _, n, v, S, m0, x, sq, lo, U, cl, Al, rfl, hK, w46, hn, fun k hk => (hv k hk).2, fun z => (kl_bp hp e z).elim, fun _ z => (kl_br hn ij jn ei ej z).elim, fun p2 hp2 e2 i2 j2 ij2 jn2 ei2 ej2 => ?_⟩
    have ep := kl_p2 hp hp2 e e2
    subst ep
    refine ⟨fun _ I2 f1 f2 => ?_, fun y l hq => ?_⟩
    · refine s343 _ _ _ _ _ _ _ ⟨rfl, ?_⟩
      rw [f2]
      refine ⟨fun _ => ?_, fun h => (h rfl).elim⟩
      refine ⟨fun _ => ?_, fun h => (h n30).elim⟩
      exact wL_fin hLg hi hm hx hT (fun j => f1 _ _ (by omega) (by omega) (by omega) (by omega) (by omega) (by omega) (by omega) (by omega) ) (r2 p2 hp2 (by first | exact fun _ _ z => (by rw [hs] at z; cases z) | exact fun _ _ z => (by rw [hq] at z; cases z; exact hw)) I2 f1)
    · rw [hs] at hq
      cases hq
  · obtain ⟨y, l, hq⟩ : ∃ y l, sq p = y :: l := by
      cases hq : sq p with
      | nil => exact (h9 ((hL p hp).1 hq)).elim
      | cons y l => exact ⟨y, l, rfl⟩
    obtain ⟨_, y1, y2, y3⟩ := (hL p hp).2 y l hq
    have hw : ¬ rn_w (S p) y ≤ 6 := fun z => hw6 (y2.mpr z)
    refine ⟨_, hT, b1, _, hT, b2, _, hT, b3, ?_⟩
    rw [e1, e2, e3]
    refine s433 _ _ _ _ _ _ _ ⟨_, _, _, n, v, S, m0, x, sq, lo, U, cl, Al, rfl, hK, w46, hn, fun k hk => (hv k hk).2, fun z => (kl_bp hp e z).elim, fun _ z => (kl_br hn ij jn ei ej z).elim, fun p2 hp2 e2 i2 j2 ij2 jn2 ei2 ej2 => ?_⟩
    have ep := kl_p2 hp hp2 e e2
    subst ep
    refine ⟨fun z => ?_, fun y2x l2 hq2 => ?_⟩
    · rw [hq] at z
      cases z
    have hq3 := hq.symm.trans hq2
    have ey : y = y2x := (List.cons.inj hq3).1
    subst ey
    refine ⟨y1, fun _ I2 f1 f2 => ?_, fun z => (hw z).elim⟩
    refine s343 _ _ _ _ _ _ _ ⟨rfl, ?_⟩
    rw [f2]
    refine ⟨fun _ => ?_, fun h => (h rfl).elim⟩
    refine ⟨fun _ => ?_, fun h => (h n40).elim⟩
    exact wL_fin hLg hi hm hx hT (fun j => f1 _ _ (by omega) (by omega) (by omega) (by omega) (by omega) (by omega) (by omega) (by omega) ) (r2 p2 hp2 (by first | exact fun _ _ z => (by rw [hs] at z; cases z) | exact fun _ _ z => (by rw [hq] at z; cases z; exact hw)) I2 f1)
  · obtain ⟨y, l, hq⟩ : ∃ y l, sq p = y :: l := by
      cases hq : sq p with
      | nil => exact (h9 ((hL p hp).1 hq)).elim
      | cons y l => exact ⟨y, l, rfl⟩
    obtain ⟨_, y1, y2, y3⟩ := (hL p hp).2 y l hq
    have hw : rn_w (S p) y ≤ 6 := y2.mp hw6
    obtain ⟨d1, d2, d3, d4, d5, d6, d7, d8⟩ := y3 hw
    refine ⟨d1, d2, d3, kc_S_of d4 (fun T1 N1 I1 L1 R1 n1 s1 hA => ?_)⟩
    obtain ⟨tm, fm⟩ := kc_A_f (by have := (hI.2 p hp).2.2; omega) hA
    have hT1 := tm _ _ hT
    have h537b := tm _ _ h537
    have fS : ∀ j, I1 1099511627776 j = I 1099511627776 j := fun j => (fm _ j (by omega) (Or.inr ⟨_, hT, fun z => by
      cases z
      omega⟩)).1
    have fR : ∀ c j, 460 ≤ c → c ≤ 535 → I1 c j = I c j := fun c j c1 c2 => (fm c j c1 (Or.inl c2)).1
    have hK1 : ∀ p, p < 2 → rk_I T1 I1 p (S p) (m0 p) (x p) (sq p) := fun p3 hp3 => rk_I_c (hK p3 hp3) tm (fun c j c1 c2 => fR c j (by omega) (by omega))
    have e1b : I1 1099511627776 (Int32.ofNat i + Int32.ofInt 1).toNatClampNeg = xs (i + 1) := (fS _).trans e1
    have e2b : I1 1099511627776 (Int32.ofNat i + Int32.ofInt 2).toNatClampNeg = xs (i + 2) := (fS _).trans e2
    have e3b : I1 1099511627776 (Int32.ofNat i + Int32.ofInt 3).toNatClampNeg = xs (i + 3) := (fS _).trans e3
    have w46b : I1 460 46 = Int32.ofNat n := (fR _ _ (by omega) (by omega)).trans w46
    have hvb : ∀ k, k < n → I1 489 k = Int32.ofNat (v k) ∧ v k < 64 := fun k hk => ⟨(fR _ _ (by omega) (by omega)).trans (hv k hk).2.1, (hv k hk).2.2⟩
    intro B1 K1 mv1 kd1 hr1
    refine ⟨_, hT1, b1, _, hT1, b2, _, hT1, b3, ?_⟩
    rw [e1b, e2b, e3b]
    refine s433 _ _ _ _ _ _ _ ⟨_, _, _, n, v, S, m0, x, sq, lo, U, cl, Al, rfl, hK1, w46b, hn, hvb, fun z => (kl_bp hp e z).elim, fun _ z => (kl_br hn ij jn ei ej z).elim, fun p2 hp2 e2 i2 j2 ij2 jn2 ei2 ej2 => ?_⟩
    have ep := kl_p2 hp hp2 e e2
    subst ep
    refine ⟨fun z => ?_, fun y2x l2 hq2 => ?_⟩
    · rw [hq] at z
      cases z
    have hq3 := hq.symm.trans hq2
    have ey : y = y2x := (List.cons.inj hq3).1
    subst ey
    refine ⟨y1, fun z => (z hw).elim, fun _ => ⟨rk_P_c d5 (fun c j c1 c2 => fR c j (by omega) (by omega)), fun K mv kd I2 L2 k1 k2 k3 k4 e0 => ?_⟩⟩
    obtain ⟨sm1, sm2, sm3⟩ := rk_same hr1 k1 d6 d7 d8
    have ei3 := kl_eq (by omega) (by omega) ei ei2
    have ej3 := kl_eq (by omega) (by omega) ej ej2
    subst ei3
    subst ej3
    have hL3 : rk_L3 L1 L2 := fun c j c1 c2 => (k4 c j c1).trans (wv_u_no _ _ (by omega))
    have e537 : L2 536 0 = (Int32.ofNat (df_run mv1 0 (kz v i2 (j2 - i2)))).toInt64 := (k4 _ _ (by omega)).trans (wv_u_at _ _ _ _)
    have eqv : L2 536 0 = (Int32.ofNat (df_run mv 0 (kz v i2 (j2 - i2)))).toInt64 := by
      rw [e537, sm3 _ (kz_w (j2 - i2) (fun k k1 k2 => (hv k (by omega)).2.2))]
    have fin := wL_fin (c1 := nc + n1) (s1 := ns + s1) (Rel := Rel) (I1 := I2) (L1 := L2) (y5 := some (.int 0)) (y6 := some (.int ((Int32.ofNat (df_run mv 0 (kz v i2 (j2 - i2))))))) hLg hi hm hx hT1 (fun j => (k3 _ _ (by omega) (by omega) (by omega) (by omega) (by omega) (by omega) (by omega) (by omega) ).trans (fS j)) (r4 p2 hp2 y l hq hw T1 N1 I1 L1 R1 n1 s1 hA K mv kd I2 L2 k1 k2 k3 hL3 0 (by omega))
    refine s343 _ _ _ _ _ _ _ ⟨rfl, ?_⟩
    rw [e0]
    refine ⟨fun _ => ?_, fun h => (h rfl).elim⟩
    refine ⟨fun h => (h rfl).elim, fun _ => ?_⟩
    refine ⟨_, h537b, ⟨by decide, by decide⟩, ?_⟩
    exact ⟨fun _ => fin, fun h => (h (lg_cmp_0.mpr eqv)).elim⟩
def wL_10 (Rel : wv_T → Nat → (Nat → Nat → Int32) → (Nat → Nat → Int64) → (Nat → Nat → Option Nat) → Nat → Nat → Nat → Prop) : Prop := ∀ T N I L R nc ns i, i ≤ 2044 → Rel T N I L R nc ns i → kl_H Rel T N I L R nc ns i
set_option maxRecDepth 100000 in
set_option maxHeartbeats 4000000 in
theorem wL_case10 {Rel : wv_T → Nat → (Nat → Nat → Int32) → (Nat → Nat → Int64) → (Nat → Nat → Option Nat) → Nat → Nat → Nat → Prop} {xs : Nat → Int32} {Lg : Nat} {fv : Value} {q : wv_Q} {sp : wv_K} (hLg : Lg ≤ 2048) (H : wL_10 Rel)
    (s219 : ∀ as T N I L R q, wl_c219 as T N I L R q → sp 219 as T N I L R q) (s435 : ∀ as T N I L R q, rk_c435 as T N I L R q → sp 435 as T N I L R q) (s343 : ∀ as T N I L R q, wp_c343 as T N I L R q → sp 343 as T N I L R q) :
    ∀ m lv st T N I L R nc ns, wL_P Rel xs Lg (some 10) m lv st T N I L R nc ns → wv_S wm_fx fv none sp 0 7 false (some .boolean) zt_0 q (wv wm_fx fv none sp 0 7 false (some .boolean) zt_0 (wv_h2 (wL_hd Rel xs Lg) m) q 100) (zk_at zt_0 737) lv st T N I L R nc ns := by
  rintro m lv st T N I L R nc ns ⟨i, x5, x6, rfl, rfl, hT, hx, hR, hi, hm, hop⟩
  obtain ⟨C, A, w, g, S, m0, x, sq, lo, U, cl, Al, n, v, h537, hI, hK, hL, ⟨w16, w46, hn, hv⟩, r1, r2, r4⟩ := H T N I L R nc ns i (by omega) hR
  have e1 : I 1099511627776 (Int32.ofNat i + Int32.ofInt 1).toNatClampNeg = xs (i + 1) := (wL_x (k := 1) hx hLg hi (by omega)).1
  have b1 : 0 ≤ Int32.ofNat i + Int32.ofInt 1 ∧ (Int32.ofNat i + Int32.ofInt 1).toInt < Lg := (wL_x (k := 1) hx hLg hi (by omega)).2
  have e2 : I 1099511627776 (Int32.ofNat i + Int32.ofInt 2).toNatClampNeg = xs (i + 2) := (wL_x (k := 2) hx hLg hi (by omega)).1
  have b2 : 0 ≤ Int32.ofNat i + Int32.ofInt 2 ∧ (Int32.ofNat i + Int32.ofInt 2).toInt < Lg := (wL_x (k := 2) hx hLg hi (by omega)).2
  have e3 : I 1099511627776 (Int32.ofNat i + Int32.ofInt 3).toNatClampNeg = xs (i + 3) := (wL_x (k := 3) hx hLg hi (by omega)).1
  have b3 : 0 ≤ Int32.ofNat i + Int32.ofInt 3 ∧ (Int32.ofNat i + Int32.ofInt 3).toInt < Lg := (wL_x (k := 3) hx hLg hi (by omega)).2
  have n10 : ¬ (1 : Int32) = 0 := by decide
  have n20 : ¬ (2 : Int32) = 0 := by decide
  have n30 : ¬ (3 : Int32) = 0 := by decide
  have n40 : ¬ (4 : Int32) = 0 := by decide
  have hTm : wm_T T := (hK 0 (by omega)).1
  refine ⟨_, hT, b1, _, hT, b2, _, hT, b3, ?_⟩
  rw [e1, e2, e3]
  refine s219 _ _ _ _ _ _ _ ⟨_, _, _, C, A, w, g, rfl, h537, hI, fun hb => ?_, fun p hp e => ⟨fun h9 => ?_, fun h9 => ⟨fun hw6 => ?_, fun hw6 => ?_⟩⟩⟩
  · refine ⟨_, hT, b1, _, hT, b2, _, hT, b3, ?_⟩
    rw [e1, e2, e3]
    refine s435 _ _ _ _ _ _ _ ⟨_, _, _, S, m0, x, sq, lo, U, cl, Al, rfl, hK, fun _ => ?_, fun p hp e => (kl_bp hp e hb).elim⟩
    refine s343 _ _ _ _ _ _ _ ⟨rfl, ?_⟩
    refine ⟨fun _ => ?_, fun h => (h (wv_u_at _ _ _ _)).elim⟩
    refine ⟨fun _ => ?_, fun h => (h n10).elim⟩
    exact wL_fin hLg hi hm hx hT (fun j => wv_u_no _ _ (by omega)) (r1 _)
  · have hs : sq p = [] := by
      cases hq : sq p with
      | nil => rfl
      | cons y l => exact (((hL p hp).2 y l hq).1 h9).elim
    refine ⟨_, hT, b1, _, hT, b2, _, hT, b3, ?_⟩
    rw [e1, e2, e3]
    refine s435 _ _ _ _ _ _ _ ⟨_, _, _, S, m0, x, sq, lo, U, cl, Al, rfl, hK, fun z => (kl_bp hp e z).elim, fun p2 hp2 e2 => ?_⟩
    have ep := kl_p2 hp hp2 e e2
    subst ep
    refine ⟨fun _ I2 f1 f2 => ?_, fun y l hq => ?_⟩
    · refine s343 _ _ _ _ _ _ _ ⟨rfl, ?_⟩
      rw [f2]
      refine ⟨fun _ => ?_, fun h => (h rfl).elim⟩
      refine ⟨fun _ => ?_, fun h => (h n20).elim⟩
      exact wL_fin hLg hi hm hx hT (fun j => f1 _ _ (by omega) (by omega) (by omega) (by omega) (by omega) (by omega) (by omega) (by omega) ) (r2 p2 hp2 (by first | exact fun _ _ z => (by rw [hs] at z; cases z) | exact fun _ _ z => (by rw [hq] at z; cases z; exact hw)) I2 f1)
    · rw [hs] at hq
      cases hq
  · obtain ⟨y, l, hq⟩ : ∃ y l, sq p = y :: l := by
      cases hq : sq p with
      | nil => exact (h9 ((hL p hp).1 hq)).elim
      | cons y l => exact ⟨y, l, rfl⟩
    obtain ⟨_, y1, y2, y3⟩ := (hL p hp).2 y l hq
    have hw : ¬ rn_w (S p) y ≤ 6 := fun z => hw6 (y2.mpr z)
    refine ⟨_, hT, b1, _, hT, b2, _, hT, b3, ?_⟩
    rw [e1, e2, e3]
    refine s435 _ _ _ _ _ _ _ ⟨_, _, _, S, m0, x, sq, lo, U, cl, Al, rfl, hK, fun z => (kl_bp hp e z).elim, fun p2 hp2 e2 => ?_⟩
    have ep := kl_p2 hp hp2 e e2
    subst ep
    refine ⟨fun z => ?_, fun y2x l2 hq2 => ?_⟩
    · rw [hq] at z
      cases z
    have hq3 := hq.symm.trans hq2
    have ey : y = y2x := (List.cons.inj hq3).1
    subst ey
    refine ⟨y1, fun _ I2 f1 f2 => ?_, fun z => (hw z).elim⟩
    refine s343 _ _ _ _ _ _ _ ⟨rfl, ?_⟩
    rw [f2]
    refine ⟨fun _ => ?_, fun h => (h rfl).elim⟩
    refine ⟨fun _ => ?_, fun h => (h n30).elim⟩
    exact wL_fin hLg hi hm hx hT (fun j => f1 _ _ (by omega) (by omega) (by omega) (by omega) (by omega) (by omega) (by omega) (by omega) ) (r2 p2 hp2 (by first | exact fun _ _ z => (by rw [hs] at z; cases z) | exact fun _ _ z => (by rw [hq] at z; cases z; exact hw)) I2 f1)
  · obtain ⟨y, l, hq⟩ : ∃ y l, sq p = y :: l := by
      cases hq : sq p with
      | nil => exact (h9 ((hL p hp).1 hq)).elim
      | cons y l => exact ⟨y, l, rfl⟩
    obtain ⟨_, y1, y2, y3⟩ := (hL p hp).2 y l hq
    have hw : rn_w (S p) y ≤ 6 := y2.mp hw6
    obtain ⟨d1, d2, d3, d4, d5, d6, d7, d8⟩ := y3 hw
    refine ⟨d1, d2, d3, kc_S_of d4 (fun T1 N1 I1 L1 R1 n1 s1 hA => ?_)⟩
    obtain ⟨tm, fm⟩ := kc_A_f (by have := (hI.2 p hp).2.2; omega) hA
    have hT1 := tm _ _ hT
    have h537b := tm _ _ h537
    have fS : ∀ j, I1 1099511627776 j = I 1099511627776 j := fun j => (fm _ j (by omega) (Or.inr ⟨_, hT, fun z => by
      cases z
      omega⟩)).1
    have fR : ∀ c j, 460 ≤ c → c ≤ 535 → I1 c j = I c j := fun c j c1 c2 => (fm c j c1 (Or.inl c2)).1
    have hK1 : ∀ p, p < 2 → rk_I T1 I1 p (S p) (m0 p) (x p) (sq p) := fun p3 hp3 => rk_I_c (hK p3 hp3) tm (fun c j c1 c2 => fR c j (by omega) (by omega))
    have e1b : I1 1099511627776 (Int32.ofNat i + Int32.ofInt 1).toNatClampNeg = xs (i + 1) := (fS _).trans e1
    have e2b : I1 1099511627776 (Int32.ofNat i + Int32.ofInt 2).toNatClampNeg = xs (i + 2) := (fS _).trans e2
    have e3b : I1 1099511627776 (Int32.ofNat i + Int32.ofInt 3).toNatClampNeg = xs (i + 3) := (fS _).trans e3
    intro B1 K1 mv1 kd1 hr1
    have hK1b := hr1.1
    refine ⟨fun hbad => ?_, fun c u hc ec hu eu => ?_⟩
    · refine ⟨_, hT1, b1, _, hT1, b2, _, hT1, b3, ?_⟩
      rw [e1b, e2b, e3b]
      refine s435 _ _ _ _ _ _ _ ⟨_, _, _, S, m0, x, sq, lo, U, cl, Al, rfl, hK1, fun z => (kl_bp hp e z).elim, fun p2 hp2 e2 => ?_⟩
      have ep := kl_p2 hp hp2 e e2
      subst ep
      refine ⟨fun z => ?_, fun y2x l2 hq2 => ?_⟩
      · rw [hq] at z
        cases z
      have hq3 := hq.symm.trans hq2
      have ey : y = y2x := (List.cons.inj hq3).1
      subst ey
      refine ⟨y1, fun z => (z hw).elim, fun _ => ⟨rk_P_c d5 (fun c j c1 c2 => fR c j (by omega) (by omega)), fun K mv kd I2 L2 k1 k2 k3 k4 e0 => ?_⟩⟩
      obtain ⟨sm1, sm2, sm3⟩ := rk_same hr1 k1 d6 d7 d8
      refine ⟨fun _ => ?_, fun c u hc ec hu eu => ?_⟩
      · have hL3 : rk_L3 L1 L2 := fun c j c1 c2 => k4 c j c1
        refine s343 _ _ _ _ _ _ _ ⟨rfl, ?_⟩
        refine ⟨fun _ => ?_, fun h => (h (wv_u_at _ _ _ _)).elim⟩
        refine ⟨fun _ => ?_, fun h => (h n40).elim⟩
        exact wL_fin hLg hi hm hx hT1 (fun j => (wv_u_no _ _ (by omega)).trans ((k3 _ _ (by omega) (by omega) (by omega) (by omega) (by omega) (by omega) (by omega) (by omega) ).trans (fS j))) (r4 p2 hp2 y l hq hw T1 N1 I1 L1 R1 n1 s1 hA K mv kd (wv_u I2 460 0 4) L2 k1 (rk_T_c k2 (fun c j _ _ => wv_u_no _ _ (by omega))) (rk_G_4 k3) hL3 1 (by omega))
      · exfalso
        rw [ec, eu, wi_lt, wi_le, wi_on (by omega), wi_on (by omega), wi_on (by omega), wi_0] at hbad
        omega
    · refine ⟨_, hT1, b1, _, hT1, b2, _, hT1, b3, ?_⟩
      rw [e1b, e2b, e3b]
      refine s435 _ _ _ _ _ _ _ ⟨_, _, _, S, m0, x, sq, lo, U, cl, Al, rfl, hK1, fun z => (kl_bp hp e z).elim, fun p2 hp2 e2 => ?_⟩
      have ep := kl_p2 hp hp2 e e2
      subst ep
      refine ⟨fun z => ?_, fun y2x l2 hq2 => ?_⟩
      · rw [hq] at z
        cases z
      have hq3 := hq.symm.trans hq2
      have ey : y = y2x := (List.cons.inj hq3).1
      subst ey
      refine ⟨y1, fun z => (z hw).elim, fun _ => ⟨rk_P_c d5 (fun c j c1 c2 => fR c j (by omega) (by omega)), fun K mv kd I2 L2 k1 k2 k3 k4 e0 => ?_⟩⟩
      obtain ⟨sm1, sm2, sm3⟩ := rk_same hr1 k1 d6 d7 d8
      refine ⟨fun hbad => ?_, fun c2 u2 hc2 ec2 hu2 eu2 => ?_⟩
      · exfalso
        rw [ec, eu, wi_lt, wi_le, wi_on (by omega), wi_on (by omega), wi_on (by omega), wi_0] at hbad
        omega
      have ec3 := kl_eq (by omega) (by omega) ec ec2
      have eu3 := kl_eq (by omega) (by omega) eu eu2
      subst ec3
      subst eu3
      have hL3 : rk_L3 L1 L2 := fun c j c1 c2 => (k4 c j c1).trans (wv_u_no _ _ (by omega))
      have e537 : L2 536 0 = (Int32.ofNat (mv1 c2 u2)).toInt64 := (k4 _ _ (by omega)).trans (wv_u_at _ _ _ _)
      have eqv : L2 536 0 = (Int32.ofNat (mv c2 u2)).toInt64 := by
        rw [e537, (sm2 c2 hc).2 u2 hu]
      have fin := wL_fin (c1 := nc + n1) (s1 := ns + s1) (Rel := Rel) (I1 := I2) (L1 := L2) (y5 := some (.int 0)) (y6 := some (.int ((Int32.ofNat (mv c2 u2))))) hLg hi hm hx hT1 (fun j => (k3 _ _ (by omega) (by omega) (by omega) (by omega) (by omega) (by omega) (by omega) (by omega) ).trans (fS j)) (r4 p2 hp2 y l hq hw T1 N1 I1 L1 R1 n1 s1 hA K mv kd I2 L2 k1 k2 k3 hL3 0 (by omega))
      refine s343 _ _ _ _ _ _ _ ⟨rfl, ?_⟩
      rw [e0]
      refine ⟨fun _ => ?_, fun h => (h rfl).elim⟩
      refine ⟨fun h => (h rfl).elim, fun _ => ?_⟩
      refine ⟨_, h537b, ⟨by decide, by decide⟩, ?_⟩
      exact ⟨fun _ => fin, fun h => (h (lg_cmp_0.mpr eqv)).elim⟩
def wL_11 (Rel : wv_T → Nat → (Nat → Nat → Int32) → (Nat → Nat → Int64) → (Nat → Nat → Option Nat) → Nat → Nat → Nat → Prop) : Prop := ∀ T N I L R nc ns i, i ≤ 2044 → Rel T N I L R nc ns i → kl_H Rel T N I L R nc ns i
set_option maxRecDepth 100000 in
set_option maxHeartbeats 4000000 in
theorem wL_case11 {Rel : wv_T → Nat → (Nat → Nat → Int32) → (Nat → Nat → Int64) → (Nat → Nat → Option Nat) → Nat → Nat → Nat → Prop} {xs : Nat → Int32} {Lg : Nat} {fv : Value} {q : wv_Q} {sp : wv_K} (hLg : Lg ≤ 2048) (H : wL_11 Rel)
    (s221 : ∀ as T N I L R q, wl_c221 as T N I L R q → sp 221 as T N I L R q) (s436 : ∀ as T N I L R q, rk_c436 as T N I L R q → sp 436 as T N I L R q) (s343 : ∀ as T N I L R q, wp_c343 as T N I L R q → sp 343 as T N I L R q) :
    ∀ m lv st T N I L R nc ns, wL_P Rel xs Lg (some 11) m lv st T N I L R nc ns → wv_S wm_fx fv none sp 0 7 false (some .boolean) zt_0 q (wv wm_fx fv none sp 0 7 false (some .boolean) zt_0 (wv_h2 (wL_hd Rel xs Lg) m) q 100) (zk_at zt_0 817) lv st T N I L R nc ns := by
  rintro m lv st T N I L R nc ns ⟨i, x5, x6, rfl, rfl, hT, hx, hR, hi, hm, hop⟩
  obtain ⟨C, A, w, g, S, m0, x, sq, lo, U, cl, Al, n, v, h537, hI, hK, hL, ⟨w16, w46, hn, hv⟩, r1, r2, r4⟩ := H T N I L R nc ns i (by omega) hR
  have e1 : I 1099511627776 (Int32.ofNat i + Int32.ofInt 1).toNatClampNeg = xs (i + 1) := (wL_x (k := 1) hx hLg hi (by omega)).1
  have b1 : 0 ≤ Int32.ofNat i + Int32.ofInt 1 ∧ (Int32.ofNat i + Int32.ofInt 1).toInt < Lg := (wL_x (k := 1) hx hLg hi (by omega)).2
  have e2 : I 1099511627776 (Int32.ofNat i + Int32.ofInt 2).toNatClampNeg = xs (i + 2) := (wL_x (k := 2) hx hLg hi (by omega)).1
  have b2 : 0 ≤ Int32.ofNat i + Int32.ofInt 2 ∧ (Int32.ofNat i + Int32.ofInt 2).toInt < Lg := (wL_x (k := 2) hx hLg hi (by omega)).2
  have n10 : ¬ (1 : Int32) = 0 := by decide
  have n20 : ¬ (2 : Int32) = 0 := by decide
  have n30 : ¬ (3 : Int32) = 0 := by decide
  have n40 : ¬ (4 : Int32) = 0 := by decide
  have hTm : wm_T T := (hK 0 (by omega)).1
  refine ⟨_, hT, b1, _, hT, b2, ?_⟩
  rw [e1, e2]
  refine s221 _ _ _ _ _ _ _ ⟨_, _, C, A, w, g, rfl, h537, hI, fun hb => ?_, fun p hp e => ⟨fun h9 => ?_, fun h9 => ⟨fun hw6 => ?_, fun hw6 => ?_⟩⟩⟩
  · refine ⟨_, hT, b1, _, hT, b2, ?_⟩
    rw [e1, e2]
    refine s436 _ _ _ _ _ _ _ ⟨_, _, S, m0, x, sq, lo, U, cl, Al, rfl, hK, fun _ => ?_, fun p hp e => (kl_bp hp e hb).elim⟩
    refine s343 _ _ _ _ _ _ _ ⟨rfl, ?_⟩
    refine ⟨fun _ => ?_, fun h => (h (wv_u_at _ _ _ _)).elim⟩
    refine ⟨fun _ => ?_, fun h => (h n10).elim⟩
    exact wL_fin hLg hi hm hx hT (fun j => wv_u_no _ _ (by omega)) (r1 _)
  · have hs : sq p = [] := by
      cases hq : sq p with
      | nil => rfl
      | cons y l => exact (((hL p hp).2 y l hq).1 h9).elim
    refine ⟨_, hT, b1, _, hT, b2, ?_⟩
    rw [e1, e2]
    refine s436 _ _ _ _ _ _ _ ⟨_, _, S, m0, x, sq, lo, U, cl, Al, rfl, hK, fun z => (kl_bp hp e z).elim, fun p2 hp2 e2 => ?_⟩
    have ep := kl_p2 hp hp2 e e2
    subst ep
    refine ⟨fun _ I2 f1 f2 => ?_, fun y l hq => ?_⟩
    · refine s343 _ _ _ _ _ _ _ ⟨rfl, ?_⟩
      rw [f2]
      refine ⟨fun _ => ?_, fun h => (h rfl).elim⟩
      refine ⟨fun _ => ?_, fun h => (h n20).elim⟩
      exact wL_fin hLg hi hm hx hT (fun j => f1 _ _ (by omega) (by omega) (by omega) (by omega) (by omega) (by omega) (by omega) (by omega) ) (r2 p2 hp2 (by first | exact fun _ _ z => (by rw [hs] at z; cases z) | exact fun _ _ z => (by rw [hq] at z; cases z; exact hw)) I2 f1)
    · rw [hs] at hq
      cases hq
  · obtain ⟨y, l, hq⟩ : ∃ y l, sq p = y :: l := by
      cases hq : sq p with
      | nil => exact (h9 ((hL p hp).1 hq)).elim
      | cons y l => exact ⟨y, l, rfl⟩
    obtain ⟨_, y1, y2, y3⟩ := (hL p hp).2 y l hq
    have hw : ¬ rn_w (S p) y ≤ 6 := fun z => hw6 (y2.mpr z)
    refine ⟨_, hT, b1, _, hT, b2, ?_⟩
    rw [e1, e2]
    refine s436 _ _ _ _ _ _ _ ⟨_, _, S, m0, x, sq, lo, U, cl, Al, rfl, hK, fun z => (kl_bp hp e z).elim, fun p2 hp2 e2 => ?_⟩
    have ep := kl_p2 hp hp2 e e2
    subst ep
    refine ⟨fun z => ?_, fun y2x l2 hq2 => ?_⟩
    · rw [hq] at z
      cases z
    have hq3 := hq.symm.trans hq2
    have ey : y = y2x := (List.cons.inj hq3).1
    subst ey
    refine ⟨y1, fun _ I2 f1 f2 => ?_, fun z => (hw z).elim⟩
    refine s343 _ _ _ _ _ _ _ ⟨rfl, ?_⟩
    rw [f2]
    refine ⟨fun _ => ?_, fun h => (h rfl).elim⟩
    refine ⟨fun _ => ?_, fun h => (h n30).elim⟩
    exact wL_fin hLg hi hm hx hT (fun j => f1 _ _ (by omega) (by omega) (by omega) (by omega) (by omega) (by omega) (by omega) (by omega) ) (r2 p2 hp2 (by first | exact fun _ _ z => (by rw [hs] at z; cases z) | exact fun _ _ z => (by rw [hq] at z; cases z; exact hw)) I2 f1)
  · obtain ⟨y, l, hq⟩ : ∃ y l, sq p = y :: l := by
      cases hq : sq p with
      | nil => exact (h9 ((hL p hp).1 hq)).elim
      | cons y l => exact ⟨y, l, rfl⟩
    obtain ⟨_, y1, y2, y3⟩ := (hL p hp).2 y l hq
    have hw : rn_w (S p) y ≤ 6 := y2.mp hw6
    obtain ⟨d1, d2, d3, d4, d5, d6, d7, d8⟩ := y3 hw
    refine ⟨d1, d2, d3, kc_S_of d4 (fun T1 N1 I1 L1 R1 n1 s1 hA => ?_)⟩
    obtain ⟨tm, fm⟩ := kc_A_f (by have := (hI.2 p hp).2.2; omega) hA
    have hT1 := tm _ _ hT
    have h537b := tm _ _ h537
    have fS : ∀ j, I1 1099511627776 j = I 1099511627776 j := fun j => (fm _ j (by omega) (Or.inr ⟨_, hT, fun z => by
      cases z
      omega⟩)).1
    have fR : ∀ c j, 460 ≤ c → c ≤ 535 → I1 c j = I c j := fun c j c1 c2 => (fm c j c1 (Or.inl c2)).1
    have hK1 : ∀ p, p < 2 → rk_I T1 I1 p (S p) (m0 p) (x p) (sq p) := fun p3 hp3 => rk_I_c (hK p3 hp3) tm (fun c j c1 c2 => fR c j (by omega) (by omega))
    have e1b : I1 1099511627776 (Int32.ofNat i + Int32.ofInt 1).toNatClampNeg = xs (i + 1) := (fS _).trans e1
    have e2b : I1 1099511627776 (Int32.ofNat i + Int32.ofInt 2).toNatClampNeg = xs (i + 2) := (fS _).trans e2
    intro B1 K1 mv1 kd1 hr1
    have hK1b := hr1.1
    refine ⟨fun hbad => ?_, fun c hc ec => ?_⟩
    · refine ⟨_, hT1, b1, _, hT1, b2, ?_⟩
      rw [e1b, e2b]
      refine s436 _ _ _ _ _ _ _ ⟨_, _, S, m0, x, sq, lo, U, cl, Al, rfl, hK1, fun z => (kl_bp hp e z).elim, fun p2 hp2 e2 => ?_⟩
      have ep := kl_p2 hp hp2 e e2
      subst ep
      refine ⟨fun z => ?_, fun y2x l2 hq2 => ?_⟩
      · rw [hq] at z
        cases z
      have hq3 := hq.symm.trans hq2
      have ey : y = y2x := (List.cons.inj hq3).1
      subst ey
      refine ⟨y1, fun z => (z hw).elim, fun _ => ⟨rk_P_c d5 (fun c j c1 c2 => fR c j (by omega) (by omega)), fun K mv kd I2 L2 k1 k2 k3 k4 e0 => ?_⟩⟩
      obtain ⟨sm1, sm2, sm3⟩ := rk_same hr1 k1 d6 d7 d8
      refine ⟨fun _ => ?_, fun c hc ec => ?_⟩
      · have hL3 : rk_L3 L1 L2 := fun c j c1 c2 => k4 c j c1
        refine s343 _ _ _ _ _ _ _ ⟨rfl, ?_⟩
        refine ⟨fun _ => ?_, fun h => (h (wv_u_at _ _ _ _)).elim⟩
        refine ⟨fun _ => ?_, fun h => (h n40).elim⟩
        exact wL_fin hLg hi hm hx hT1 (fun j => (wv_u_no _ _ (by omega)).trans ((k3 _ _ (by omega) (by omega) (by omega) (by omega) (by omega) (by omega) (by omega) (by omega) ).trans (fS j))) (r4 p2 hp2 y l hq hw T1 N1 I1 L1 R1 n1 s1 hA K mv kd (wv_u I2 460 0 4) L2 k1 (rk_T_c k2 (fun c j _ _ => wv_u_no _ _ (by omega))) (rk_G_4 k3) hL3 1 (by omega))
      · exfalso
        rw [ec, wi_lt, wi_le, wi_on (by omega), wi_on (by omega), wi_0] at hbad
        omega
    · refine ⟨_, hT1, b1, _, hT1, b2, ?_⟩
      rw [e1b, e2b]
      refine s436 _ _ _ _ _ _ _ ⟨_, _, S, m0, x, sq, lo, U, cl, Al, rfl, hK1, fun z => (kl_bp hp e z).elim, fun p2 hp2 e2 => ?_⟩
      have ep := kl_p2 hp hp2 e e2
      subst ep
      refine ⟨fun z => ?_, fun y2x l2 hq2 => ?_⟩
      · rw [hq] at z
        cases z
      have hq3 := hq.symm.trans hq2
      have ey : y = y2x := (List.cons.inj hq3).1
      subst ey
      refine ⟨y1, fun z => (z hw).elim, fun _ => ⟨rk_P_c d5 (fun c j c1 c2 => fR c j (by omega) (by omega)), fun K mv kd I2 L2 k1 k2 k3 k4 e0 => ?_⟩⟩
      obtain ⟨sm1, sm2, sm3⟩ := rk_same hr1 k1 d6 d7 d8
      refine ⟨fun hbad => ?_, fun c2 hc2 ec2 => ?_⟩
      · exfalso
        rw [ec, wi_lt, wi_le, wi_on (by omega), wi_on (by omega), wi_0] at hbad
        omega
      have ec3 := kl_eq (by omega) (by omega) ec ec2
      subst ec3
      have hL3 : rk_L3 L1 L2 := fun c j c1 c2 => (k4 c j c1).trans (wv_u_no _ _ (by omega))
      have e537 : L2 536 0 = (Int32.ofNat (kd1 c2)).toInt64 := (k4 _ _ (by omega)).trans (wv_u_at _ _ _ _)
      have eqv : L2 536 0 = (Int32.ofNat (kd c2)).toInt64 := by
        rw [e537, (sm2 c2 hc).1]
      have fin := wL_fin (c1 := nc + n1) (s1 := ns + s1) (Rel := Rel) (I1 := I2) (L1 := L2) (y5 := some (.int 0)) (y6 := some (.int ((Int32.ofNat (kd c2))))) hLg hi hm hx hT1 (fun j => (k3 _ _ (by omega) (by omega) (by omega) (by omega) (by omega) (by omega) (by omega) (by omega) ).trans (fS j)) (r4 p2 hp2 y l hq hw T1 N1 I1 L1 R1 n1 s1 hA K mv kd I2 L2 k1 k2 k3 hL3 0 (by omega))
      refine s343 _ _ _ _ _ _ _ ⟨rfl, ?_⟩
      rw [e0]
      refine ⟨fun _ => ?_, fun h => (h rfl).elim⟩
      refine ⟨fun h => (h rfl).elim, fun _ => ?_⟩
      refine ⟨_, h537b, ⟨by decide, by decide⟩, ?_⟩
      exact ⟨fun _ => fin, fun h => (h (lg_cmp_0.mpr eqv)).elim⟩
