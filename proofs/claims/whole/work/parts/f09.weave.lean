/-! ===== the class weaves: pairs of states ===== -/
theorem wi_41b : (Int8.ofInt 41).toInt32 = Int32.ofNat 41 := rfl
theorem wi_dv {x y : Nat} (hx : x < 41) (hy : y < 41) : Int32.ofNat (x * 41 + y) / (Int8.ofInt 41).toInt32 = Int32.ofNat x ∧ Int32.ofNat (x * 41 + y) - Int32.ofNat (x * 41 + y) / (Int8.ofInt 41).toInt32 * (Int8.ofInt 41).toInt32 = Int32.ofNat y := by
  rw [wi_41b, wi_dn (by omega) (by omega), ← Int32.ofNat_mul]
  rw [show (x * 41 + y) / 41 = x by omega, wi_sn (by omega) (by omega), show x * 41 + y - x * 41 = y by omega]
  exact ⟨rfl, rfl⟩
def ww_c158 : wv_c1 := fun as T N I L R q => ∃ s t x x2 y y2 : Nat, as = [.ref 10, .int (Int32.ofNat s), .int (Int32.ofNat t), .int (Int32.ofNat (x * 41 + x2)), .int (Int32.ofNat (y * 41 + y2))] ∧ wm_T T ∧ s < 41 ∧ t < 41 ∧ x < 41 ∧ x2 < 41 ∧ y < 41 ∧ y2 < 41 ∧ ((nb (L 11 x) x2 = true ∧ nb (L 11 y) y2 = true) → q (.inl none) T N I (ww_st L s t (L 12 (x * 41 + x2) &&& L 12 (y * 41 + y2))) R 0 0) ∧ (¬ (nb (L 11 x) x2 = true ∧ nb (L 11 y) y2 = true) → q (.inl none) T N I L R 0 0)
set_option maxRecDepth 100000 in
theorem wM_158 : ∃ cb ci np, pt_mt 158 = some (5, cb, 5, false, none, ci, np) := ⟨_, _, _, rfl⟩
set_option maxRecDepth 100000 in
set_option maxHeartbeats 4000000 in
theorem ww_addPair {sc : pt_Sc} {d : Nat} : wv_C wm_fx sc (d + 1 + 1) 158 ww_c158 := by
  rintro as T N I L R q ⟨s, t, x, x2, y, y2, rfl, hT, hs, ht, hx, hx2, hy, hy2, h1, h2⟩ w0 HR
  obtain ⟨cb, ci, np, hm⟩ := wM_158
  have hc141 : wv_C wm_fx sc (d + 1) 141 ww_c141 := wv_C_deep (by omega) (ww_isIn (d := d))
  have hc142 : wv_C wm_fx sc (d + 1) 142 ww_c142 := wv_C_deep (by omega) (ww_addStep (d := d))
  refine wv_meth (hh := none) rfl (sp := wv_sp [(141, ww_c141), (142, ww_c142)]) (hd := fun _ => none) (n := 0) (n1 := 300) hm zc_158 rfl (wv_sp_ok (fun q hq => by
    rcases List.mem_cons.mp hq with h | h
    · rw [h]; exact hc141
    rw [List.mem_singleton.mp h]; exact hc142)) ?_ (fun pc P h => by cases h) HR
  obtain ⟨d1, d2⟩ := wi_dv hx hx2
  obtain ⟨d3, d4⟩ := wi_dv hy hy2
  have ex := wi_on (n := x) (by omega)
  have exn := wi_onn (n := x) (by omega)
  have ey := wi_on (n := y) (by omega)
  have eyn := wi_onn (n := y) (by omega)
  have exx := wi_on (n := x * 41 + x2) (by omega)
  have exxn := wi_onn (n := x * 41 + x2) (by omega)
  have eyy := wi_on (n := y * 41 + y2) (by omega)
  have eyyn := wi_onn (n := y * 41 + y2) (by omega)
  refine ⟨by decide, _, wm_t hT rfl, by rw [d1, wi_le, ex, wi_0]; omega, by decide, ?_⟩
  rw [d2, d1, exn]
  refine ⟨_, _, rfl, by omega, ?_⟩
  refine ⟨fun g => ?_, fun g => ?_⟩
  · have g := wb_i_0.mp g
    exact h2 (fun z => by rw [g] at z; cases z.1)
  · have g := wb_i_1.mp g
    refine ⟨by decide, _, wm_t hT rfl, by rw [d3, wi_le, ey, wi_0]; omega, by decide, ?_⟩
    rw [d4, d3, eyn]
    refine ⟨_, _, rfl, by omega, ?_⟩
    refine ⟨fun k => ?_, fun k => ?_⟩
    · have k := wb_i_0.mp k
      exact h2 (fun z => by rw [k] at z; cases z.2)
    · have k := wb_i_1.mp k
      refine ⟨_, wm_t hT rfl, by rw [wi_le, exx, wi_0]; omega, _, wm_t hT rfl, by rw [wi_le, eyy, wi_0]; omega, ?_⟩
      rw [exxn, eyyn]
      exact ⟨s, t, _, rfl, hT, hs, ht, h1 ⟨g, k⟩⟩
/-- pairs: letters of a step, which are steps, heads, sets -/
def ww_bd (L : Nat → Nat → Int64) (lo a b s t : Nat) : Int64 := L 12 ((lo + (s - (lo + a + b)) / b) * 41 + (lo + (t - (lo + a + b)) / b)) &&& L 12 ((lo + a + (s - (lo + a + b)) % b) * 41 + (lo + a + (t - (lo + a + b)) % b))
def ww_bC (A B : nt_A) (lo s t : Nat) : Prop := (lo + nt_n A + nt_n B ≤ s ∧ s < lo + nt_n A + nt_n B + nt_n A * nt_n B) ∧ (lo + nt_n A + nt_n B ≤ t ∧ t < lo + nt_n A + nt_n B + nt_n A * nt_n B) ∧ nt_E A ((s - (lo + nt_n A + nt_n B)) / nt_n B) ((t - (lo + nt_n A + nt_n B)) / nt_n B) = true ∧ nt_E B ((s - (lo + nt_n A + nt_n B)) % nt_n B) ((t - (lo + nt_n A + nt_n B)) % nt_n B) = true
def ww_bH (L L1 : Nat → Nat → Int64) (lo a b k : Nat) : Prop := ∀ j, L1 13 j = if lo + a + b ≤ j ∧ j < lo + a + b + k then L 13 (lo + (j - (lo + a + b)) / b) &&& L 13 (lo + a + (j - (lo + a + b)) % b) else L 13 j
def ww_bP (A B : nt_A) (lo : Nat) (L L1 : Nat → Nat → Int64) (C : Nat → Nat → Prop) (k : Nat) : Prop := ∃ L2, ww_stp L L2 (fun s t => C s t ∧ ww_bC A B lo s t) (ww_bd L lo (nt_n A) (nt_n B)) ∧ (∀ c j, ¬ c = 13 → L1 c j = L2 c j) ∧ ww_bH L L1 lo (nt_n A) (nt_n B) k
def ww_bS (f g : Nat → Bool) (base b k : Nat) (x : Int64) : Prop := ∀ t, t < 64 → (nb x t = true ↔ ∃ i, i < k ∧ t = base + i ∧ f (i / b) = true ∧ g (i % b) = true)
theorem ww_bP_c {A B : nt_A} {lo k : Nat} {L L1 : Nat → Nat → Int64} {C C2 : Nat → Nat → Prop} (h : ww_bP A B lo L L1 C k) (hc : ∀ s t, s < 41 → t < 64 → ww_bC A B lo s t → (C2 s t ↔ C s t)) : ww_bP A B lo L L1 C2 k := by
  obtain ⟨L2, h1, h2, h3⟩ := h
  exact ⟨L2, ww_stp_c h1 (fun s t hs ht => ⟨fun z => ⟨(hc s t hs ht z.2).mp z.1, z.2⟩, fun z => ⟨(hc s t hs ht z.2).mpr z.1, z.2⟩⟩) (fun _ _ _ _ _ => rfl), h2, h3⟩
theorem ww_bS_1 {f g : Nat → Bool} {base b k : Nat} {x z : Int64} (h : ww_bS f g base b k x) (hz : ∀ t, t < 64 → (nb z t = true ↔ t = base + k ∧ f (k / b) = true ∧ g (k % b) = true)) : ww_bS f g base b (k + 1) (x ||| z) := by
  intro t ht
  rw [nb_or, nt_or_b, h t ht, hz t ht]
  constructor
  · rintro (⟨i, i1, i2, i3⟩ | ⟨e, i3⟩)
    · exact ⟨i, by omega, i2, i3⟩
    · exact ⟨k, by omega, e, i3⟩
  · rintro ⟨i, i1, i2, i3⟩
    by_cases e : i = k
    · subst e
      exact Or.inr ⟨i2, i3⟩
    · exact Or.inl ⟨i, by omega, i2, i3⟩
theorem ww_and_W {I : Nat → Nat → Int32} {L Lz L1 : Nat → Nat → Int64} {l : ww_s} {x y : Nat × nt_A} {w : Nat} {fp lp : Int64} (hW : ww_W false I L (y :: x :: l)) (hu : ww_sz (y :: x :: l) + nt_n x.2 * nt_n y.2 < 41) (hz : ww_zr L Lz (ww_sz (y :: x :: l)) (nt_n x.2 * nt_n y.2)) (hP : ww_bP x.2 y.2 (1 + ww_sz l) Lz L1 (fun _ _ => True) (nt_n x.2 * nt_n y.2))
    (hf : ww_bS (nt_F x.2) (nt_F y.2) (1 + ww_sz l + nt_n x.2 + nt_n y.2) (nt_n y.2) (nt_n x.2 * nt_n y.2) fp) (hl : ww_bS (nt_L x.2) (nt_L y.2) (1 + ww_sz l + nt_n x.2 + nt_n y.2) (nt_n y.2) (nt_n x.2 * nt_n y.2) lp) :
    ww_W false (wv_u (wv_u (ww_J I l w) 10 9 (Int32.ofNat (ww_sz (y :: x :: l) + nt_n x.2 * nt_n y.2))) 18 l.length (wb_i (nt_e x.2 && nt_e y.2))) (wv_u (wv_u L1 16 l.length fp) 17 l.length lp) ((min w 1000, nt_and x.2 y.2) :: l) := by
  obtain ⟨w1, w2, w3, w4, w5⟩ := id hW
  obtain ⟨v1, v2, v3, v4, v5⟩ := w5 rfl
  have esz : ww_sz (y :: x :: l) = nt_n y.2 + (nt_n x.2 + ww_sz l) := rfl
  have es1 : ww_sz (x :: l) = nt_n x.2 + ww_sz l := rfl
  rw [List.length_cons, List.length_cons] at w2
  rw [List.length_cons, es1, show 1 + (nt_n x.2 + ww_sz l) = 1 + ww_sz l + nt_n x.2 by omega] at v3
  rw [esz] at v2 hu hz
  have hx1 := v4.2.1
  have hy1 := v3.2.1
  obtain ⟨L2, hs, g1, g2⟩ := hP
  obtain ⟨z1, z2⟩ := hz
  have c16 : ∀ j, L1 16 j = L 16 j := fun j => by rw [g1 _ _ (by decide), hs.2.2 16 j (by decide) (by decide), z2 _ _ (by omega)]
  have c17 : ∀ j, L1 17 j = L 17 j := fun j => by rw [g1 _ _ (by decide), hs.2.2 17 j (by decide) (by decide), z2 _ _ (by omega)]
  have eN : nt_n (nt_and x.2 y.2) = nt_n x.2 + nt_n y.2 + nt_n x.2 * nt_n y.2 := rfl
  generalize hab : nt_n x.2 * nt_n y.2 = ab at *
  have e12 : ∀ s t, Lz 12 (s * 41 + t) = L 12 (s * 41 + t) := fun s t => z2 _ _ (by omega)
  -- rows of the two pieces
  have r0 : ∀ s t, 1 + ww_sz l ≤ s → s < 1 + ww_sz l + nt_n x.2 + nt_n y.2 → t < 64 → (nb (L1 11 s) t = true ↔ nb (L 11 s) t = true) := fun s t a b c => by
    rw [g1 _ _ (by decide), hs.1 s t (by omega) c, z2 _ _ (by omega)]
    exact ⟨fun z => z.elim id (fun z => by have := z.2.1; omega), Or.inl⟩
  have m0 : ∀ s t v, s < 1 + ww_sz l + nt_n x.2 + nt_n y.2 → t < 41 → v < 64 → nb (L1 12 (s * 41 + t)) v = nb (L 12 (s * 41 + t)) v := fun s t v b c d => by
    rw [g1 _ _ (by decide), (hs.2.1 s t v (by omega) c d).2 (fun z => by have := z.2.1; omega), e12]
  have h0 : ∀ s, s < 1 + ww_sz l + nt_n x.2 + nt_n y.2 → L1 13 s = L 13 s := fun s b => by
    rw [g2, if_neg (by omega), z2 _ _ (by omega)]
  have vx : ww_P I L1 l.length (1 + ww_sz l) x.2 := ww_P_eq v4 rfl rfl (c16 _) (c17 _) (fun s hs2 => ⟨fun t ht => r0 _ t (by omega) (by omega) ht, h0 _ (by omega)⟩) (fun s z a b v hv => m0 _ _ v (by omega) (by omega) hv)
  have vy : ww_P I L1 (l.length + 1) (1 + ww_sz l + nt_n x.2) y.2 := ww_P_eq v3 rfl rfl (c16 _) (c17 _) (fun s hs2 => ⟨fun t ht => r0 _ t (by omega) (by omega) ht, h0 _ (by omega)⟩) (fun s z a b v hv => m0 _ _ v (by omega) (by omega) hv)
  have hside := ww_side (X := fun _ _ => false) (Y := fun _ _ _ => false) vx vy (by omega) (ww_stp_0 L1 (fun _ _ => 0) (C := fun _ _ => False) (fun _ _ _ _ h => h)) (fun s t h1 h2 => ⟨fun h => h.elim, fun ⟨_, _, _, _, _, _, h⟩ => (by cases h)⟩) (fun a b v h1 h2 h3 h4 => (by cases h3))
  have hset : ∀ (f g : Nat → Bool) (z : Int64) (h : Nat → Bool), ww_bS f g (1 + ww_sz l + nt_n x.2 + nt_n y.2) (nt_n y.2) ab z → (∀ s, h s = if s < nt_n x.2 + nt_n y.2 then false else f ((s - (nt_n x.2 + nt_n y.2)) / nt_n y.2) && g ((s - (nt_n x.2 + nt_n y.2)) % nt_n y.2)) → ∀ t, t < 64 → (nb z t = true ↔ ∃ y1, y1 < nt_n x.2 + nt_n y.2 + ab ∧ t = 1 + ww_sz l + y1 ∧ h y1 = true) := by
    intro f g z h hb hh t ht
    rw [hb t ht]
    constructor
    · rintro ⟨i, i1, i2, i3, i4⟩
      refine ⟨nt_n x.2 + nt_n y.2 + i, by omega, by omega, ?_⟩
      rw [hh, if_neg (by omega), Nat.add_sub_cancel_left]
      exact nt_and_b.mpr ⟨i3, i4⟩
    · rintro ⟨s, s1, s2, s3⟩
      rw [hh] at s3
      by_cases hc : s < nt_n x.2 + nt_n y.2
      · rw [if_pos hc] at s3
        cases s3
      · rw [if_neg hc] at s3
        have := nt_and_b.mp s3
        exact ⟨s - (nt_n x.2 + nt_n y.2), by omega, by omega, this.1, this.2⟩
  refine ⟨by rw [wv_u_no _ _ (by omega), wv_u_no _ _ (by omega)]; exact ww_J_8, by rw [List.length_cons]; omega, by rw [wv_u_no _ _ (by omega), wv_u_no _ _ (by omega), ww_J_no (by omega) (by decide)]; exact w3, ww_J_ws _ hW (fun k => by rw [wv_u_no _ _ (by omega), wv_u_no _ _ (by omega)]), fun _ => ⟨?_, ?_, ?_, ?_⟩⟩
  · rw [wv_u_no _ _ (by omega), wv_u_at, esz]
    show Int32.ofNat _ = Int32.ofNat (nt_n (nt_and x.2 y.2) + ww_sz l)
    rw [eN]
    congr 1
    omega
  · show nt_n (nt_and x.2 y.2) + ww_sz l ≤ 40
    rw [eN]
    omega
  · refine ⟨by rw [wv_u_no _ _ (by omega), wv_u_no _ _ (by omega), ww_J_no (by omega) (by decide)]; exact v4.1, by show 1 ≤ nt_n (nt_and x.2 y.2); rw [eN]; omega, fun s t h1 h2 => ?_, fun s z v h1 h2 h3 h4 => ?_, fun s v h1 h2 => ?_, ?_, ?_, wv_u_at _ _ _ _⟩
    · have h1 : s < nt_n (nt_and x.2 y.2) := h1
      rw [wv_u_no _ _ (by omega), wv_u_no _ _ (by omega)]
      show _ ↔ ∃ y1, y1 < nt_n (nt_and x.2 y.2) ∧ _
      rw [eN] at h1 ⊢
      by_cases hc : s < nt_n x.2 + nt_n y.2
      · rw [hside.1 s t hc h2]
        constructor
        · rintro ⟨z, a, b, c⟩
          refine ⟨z, by omega, b, ?_⟩
          show (if s < nt_n x.2 + nt_n y.2 then (if z < nt_n x.2 + nt_n y.2 then nt_sE x.2 y.2 (fun _ _ => false) s z else false) else _) = true
          rw [if_pos hc, if_pos a]
          exact c
        · rintro ⟨z, a, b, c⟩
          have c : (if s < nt_n x.2 + nt_n y.2 then (if z < nt_n x.2 + nt_n y.2 then nt_sE x.2 y.2 (fun _ _ => false) s z else false) else _) = true := c
          rw [if_pos hc] at c
          by_cases hz : z < nt_n x.2 + nt_n y.2
          · rw [if_pos hz] at c
            exact ⟨z, hz, b, c⟩
          · rw [if_neg hz] at c
            cases c
      · rw [g1 _ _ (by decide), hs.1 _ t (by omega) h2, (z1 _ (by omega) (by omega)).1, nb_0]
        have es : 1 + ww_sz l + s - (1 + ww_sz l + nt_n x.2 + nt_n y.2) = s - (nt_n x.2 + nt_n y.2) := by omega
        constructor
        · rintro (z | ⟨_, b1, b2, b3, b4⟩)
          · cases z
          · rw [hab] at b2
            refine ⟨t - (1 + ww_sz l), by omega, by omega, ?_⟩
            show (if s < nt_n x.2 + nt_n y.2 then _ else if t - (1 + ww_sz l) < nt_n x.2 + nt_n y.2 then false else nt_E x.2 ((s - (nt_n x.2 + nt_n y.2)) / nt_n y.2) ((t - (1 + ww_sz l) - (nt_n x.2 + nt_n y.2)) / nt_n y.2) && nt_E y.2 ((s - (nt_n x.2 + nt_n y.2)) % nt_n y.2) ((t - (1 + ww_sz l) - (nt_n x.2 + nt_n y.2)) % nt_n y.2)) = true
            rw [if_neg hc, if_neg (by omega), show t - (1 + ww_sz l) - (nt_n x.2 + nt_n y.2) = t - (1 + ww_sz l + nt_n x.2 + nt_n y.2) by omega]
            rw [es] at b3 b4
            exact nt_and_b.mpr ⟨b3, b4⟩
        · rintro ⟨z, a, b, c⟩
          have c : (if s < nt_n x.2 + nt_n y.2 then _ else if z < nt_n x.2 + nt_n y.2 then false else nt_E x.2 ((s - (nt_n x.2 + nt_n y.2)) / nt_n y.2) ((z - (nt_n x.2 + nt_n y.2)) / nt_n y.2) && nt_E y.2 ((s - (nt_n x.2 + nt_n y.2)) % nt_n y.2) ((z - (nt_n x.2 + nt_n y.2)) % nt_n y.2)) = true := c
          rw [if_neg hc] at c
          by_cases hz : z < nt_n x.2 + nt_n y.2
          · rw [if_pos hz] at c
            cases c
          · rw [if_neg hz] at c
            have c2 := nt_and_b.mp c
            refine Or.inr ⟨trivial, by rw [hab]; omega, by rw [hab]; omega, ?_, ?_⟩
            · rw [es, show t - (1 + ww_sz l + nt_n x.2 + nt_n y.2) = z - (nt_n x.2 + nt_n y.2) by omega]
              exact c2.1
            · rw [es, show t - (1 + ww_sz l + nt_n x.2 + nt_n y.2) = z - (nt_n x.2 + nt_n y.2) by omega]
              exact c2.2
    · have h1 : s < nt_n (nt_and x.2 y.2) := h1
      have h2 : z < nt_n (nt_and x.2 y.2) := h2
      rw [eN] at h1 h2
      rw [wv_u_no _ _ (by omega), wv_u_no _ _ (by omega)]
      by_cases hc : s < nt_n x.2 + nt_n y.2
      · have h3 : (if s < nt_n x.2 + nt_n y.2 then (if z < nt_n x.2 + nt_n y.2 then nt_sE x.2 y.2 (fun _ _ => false) s z else false) else _) = true := h3
        rw [if_pos hc] at h3
        by_cases hz : z < nt_n x.2 + nt_n y.2
        · rw [if_pos hz] at h3
          rw [hside.2 s z v hc hz h3 h4]
          show _ = (if s < nt_n x.2 + nt_n y.2 then nt_sM x.2 y.2 (fun _ _ _ => false) s z else _) v
          rw [if_pos hc]
        · rw [if_neg hz] at h3
          cases h3
      · have h3 : (if s < nt_n x.2 + nt_n y.2 then _ else if z < nt_n x.2 + nt_n y.2 then false else nt_E x.2 ((s - (nt_n x.2 + nt_n y.2)) / nt_n y.2) ((z - (nt_n x.2 + nt_n y.2)) / nt_n y.2) && nt_E y.2 ((s - (nt_n x.2 + nt_n y.2)) % nt_n y.2) ((z - (nt_n x.2 + nt_n y.2)) % nt_n y.2)) = true := h3
        rw [if_neg hc] at h3
        by_cases hz : z < nt_n x.2 + nt_n y.2
        · rw [if_pos hz] at h3
          cases h3
        · rw [if_neg hz] at h3
          have h5 := nt_and_b.mp h3
          have es : 1 + ww_sz l + s - (1 + ww_sz l + nt_n x.2 + nt_n y.2) = s - (nt_n x.2 + nt_n y.2) := by omega
          have et : 1 + ww_sz l + z - (1 + ww_sz l + nt_n x.2 + nt_n y.2) = z - (nt_n x.2 + nt_n y.2) := by omega
          obtain ⟨d1, d2, d3⟩ := nt_div (n := nt_n y.2) (m := nt_n x.2) (z := s - (nt_n x.2 + nt_n y.2)) (by rw [hab]; omega)
          obtain ⟨f1, f2, f3⟩ := nt_div (n := nt_n y.2) (m := nt_n x.2) (z := z - (nt_n x.2 + nt_n y.2)) (by rw [hab]; omega)
          rw [g1 _ _ (by decide), (hs.2.1 (1 + ww_sz l + s) (1 + ww_sz l + z) v (by omega) (by omega) h4).1 ⟨trivial, by rw [hab]; omega, by rw [hab]; omega, by rw [es, et]; exact h5.1, by rw [es, et]; exact h5.2⟩, (z1 _ (by omega) (by omega)).1, nb_0]
          show (false || nb (ww_bd Lz (1 + ww_sz l) (nt_n x.2) (nt_n y.2) (1 + ww_sz l + s) (1 + ww_sz l + z)) v) = (if s < nt_n x.2 + nt_n y.2 then _ else fun v => nt_M x.2 ((s - (nt_n x.2 + nt_n y.2)) / nt_n y.2) ((z - (nt_n x.2 + nt_n y.2)) / nt_n y.2) v && nt_M y.2 ((s - (nt_n x.2 + nt_n y.2)) % nt_n y.2) ((z - (nt_n x.2 + nt_n y.2)) % nt_n y.2) v) v
          rw [if_neg hc, Bool.false_or]
          unfold ww_bd
          rw [es, et, nb_and, e12, e12, v4.2.2.2.1 _ _ v d2 f2 h5.1 h4, v3.2.2.2.1 _ _ v d3 f3 h5.2 h4]
    · have h1 : s < nt_n (nt_and x.2 y.2) := h1
      rw [eN] at h1
      rw [wv_u_no _ _ (by omega), wv_u_no _ _ (by omega)]
      by_cases hc : s < nt_n x.2 + nt_n y.2
      · show _ = (if s < nt_n x.2 + nt_n y.2 then nt_sH x.2 y.2 s else _) v
        rw [if_pos hc]
        exact ww_sideH vx vy s v hc h2
      · obtain ⟨d1, d2, d3⟩ := nt_div (n := nt_n y.2) (m := nt_n x.2) (z := s - (nt_n x.2 + nt_n y.2)) (by rw [hab]; omega)
        show _ = (if s < nt_n x.2 + nt_n y.2 then _ else fun v => nt_H x.2 ((s - (nt_n x.2 + nt_n y.2)) / nt_n y.2) v && nt_H y.2 ((s - (nt_n x.2 + nt_n y.2)) % nt_n y.2) v) v
        rw [if_neg hc, g2, if_pos (by omega), show 1 + ww_sz l + s - (1 + ww_sz l + nt_n x.2 + nt_n y.2) = s - (nt_n x.2 + nt_n y.2) by omega, nb_and, z2 _ _ (by omega), z2 _ _ (by omega), v4.2.2.2.2.1 _ v d2 h2, v3.2.2.2.2.1 _ v d3 h2]
    · rw [wv_u_no _ _ (by omega), wv_u_at]
      show ∀ t, t < 64 → (_ ↔ ∃ y1, y1 < nt_n (nt_and x.2 y.2) ∧ _)
      rw [eN]
      exact hset _ _ _ _ hf (fun s => rfl)
    · rw [wv_u_at]
      show ∀ t, t < 64 → (_ ↔ ∃ y1, y1 < nt_n (nt_and x.2 y.2) ∧ _)
      rw [eN]
      exact hset _ _ _ _ hl (fun s => rfl)
  · refine ww_ok_eq v5 (fun k hk => ⟨by rw [wv_u_no _ _ (by omega), wv_u_no _ _ (by omega), ww_J_no (by omega) (by decide)], by rw [wv_u_no _ _ (by omega), wv_u_no _ _ (by omega), ww_J_no (by omega) (by decide)], by rw [wv_u_no _ _ (by omega), wv_u_no _ _ (by omega), c16], by rw [wv_u_no _ _ (by omega), wv_u_no _ _ (by omega), c17]⟩) (fun s h1 h2 => ⟨fun t ht => ?_, ?_⟩) (fun s t h1 h2 h3 h4 v hv => ?_)
    · rw [wv_u_no _ _ (by omega), wv_u_no _ _ (by omega), g1 _ _ (by decide), hs.1 s t (by omega) ht, z2 _ _ (by omega)]
      exact ⟨fun z => z.elim id (fun z => by have := z.2.1; omega), Or.inl⟩
    · rw [wv_u_no _ _ (by omega), wv_u_no _ _ (by omega)]
      exact h0 s (by omega)
    · rw [wv_u_no _ _ (by omega), wv_u_no _ _ (by omega)]
      exact m0 s t v (by omega) (by omega) hv
