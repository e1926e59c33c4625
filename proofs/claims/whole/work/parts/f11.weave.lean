/-! ===== the class weaves: so many times ===== -/
/-- c copies of a piece, one behind the other -/
def ww_tI (A : nt_A) (lo u c : Nat) (L L1 : Nat → Nat → Int64) : Prop :=
  (∀ cc x t, cc < c → x < nt_n A → t < 64 → (nb (L1 11 (lo + x + nt_n A * cc)) t = true ↔ (∃ y, y < nt_n A ∧ t = lo + y + nt_n A * cc ∧ nt_E A x y = true) ∨ (cc + 1 < c ∧ ∃ y, y < nt_n A ∧ t = lo + y + nt_n A * (cc + 1) ∧ nt_L A x = true ∧ nt_F A y = true))) ∧
  (∀ cc x y v, cc < c → x < nt_n A → y < nt_n A → v < 64 → (nt_E A x y = true → nb (L1 12 ((lo + x + nt_n A * cc) * 41 + (lo + y + nt_n A * cc))) v = nt_M A x y v) ∧ (cc + 1 < c → nt_L A x = true → nt_F A y = true → nb (L1 12 ((lo + x + nt_n A * cc) * 41 + (lo + y + nt_n A * (cc + 1)))) v = nt_H A y v)) ∧
  (∀ cc x v, cc < c → x < nt_n A → v < 64 → nb (L1 13 (lo + x + nt_n A * cc)) v = nt_H A x v) ∧
  (∀ s, lo + nt_n A * c ≤ s → s ≤ u → L1 11 s = 0) ∧
  (∀ s, s < lo → (∀ t, t < 64 → (nb (L1 11 s) t = true ↔ nb (L 11 s) t = true)) ∧ L1 13 s = L 13 s ∧ ∀ t v, t < 41 → v < 64 → nb (L1 12 (s * 41 + t)) v = nb (L 12 (s * 41 + t)) v) ∧
  (∀ d j, ¬ (d = 11 ∨ d = 12 ∨ d = 13) → L1 d j = L d j)
theorem ww_tI_1 {A : nt_A} {lo u c : Nat} {L L1 L2 L3 : Nat → Nat → Int64} {en be : Int64} (hlo : 1 ≤ lo) (h : ww_tI A lo u c L L1) (hc : 1 ≤ c) (hn : 1 ≤ nt_n A) (hu : u ≤ 40) (hcu : lo + nt_n A * (c + 1) ≤ u + 1) (h2 : ww_cp L1 L2 (ww_cC L1 lo (nt_n A) (nt_n A * c)) lo (nt_n A) (nt_n A * c)) (h3 : ww_stp L2 L3 (ww_C u en be) (fun _ t => L2 13 t))
    (hen : ∀ t, t < 64 → (nb en t = true ↔ ∃ x, x < nt_n A ∧ t = lo + x + nt_n A * (c - 1) ∧ nt_L A x = true)) (hbe : ∀ t, t < 64 → (nb be t = true ↔ ∃ x, x < nt_n A ∧ t = lo + x + nt_n A * c ∧ nt_F A x = true)) : ww_tI A lo u (c + 1) L L3 := by
  obtain ⟨t1, t2, t3, t4, t5, t6⟩ := h
  obtain ⟨M2, a1, a2, a3⟩ := h2
  obtain ⟨b1, b2, b3⟩ := h3
  have emul : nt_n A * (c + 1) = nt_n A * c + nt_n A := by rw [Nat.mul_add, Nat.mul_one]
  have emul2 : nt_n A * c = nt_n A * (c - 1) + nt_n A := by
    conv => lhs; rw [show c = (c - 1) + 1 by omega, Nat.mul_add, Nat.mul_one]
  have hmono : ∀ d, d < c → nt_n A * d + nt_n A ≤ nt_n A * c := fun d hd => by
    have := Nat.mul_le_mul_left (nt_n A) (show d + 1 ≤ c from hd)
    rw [Nat.mul_add, Nat.mul_one] at this
    exact this
  have emd : ∀ d, nt_n A * (d + 1) = nt_n A * d + nt_n A := fun d => by rw [Nat.mul_add, Nat.mul_one]
  -- new links
  have hC : ∀ s t, s < 41 → t < 64 → (ww_C u en be s t ↔ ∃ x y, x < nt_n A ∧ y < nt_n A ∧ s = lo + x + nt_n A * (c - 1) ∧ t = lo + y + nt_n A * c ∧ nt_L A x = true ∧ nt_F A y = true) := by
    intro s t hs ht
    unfold ww_C
    constructor
    · rintro ⟨⟨c1, c2, c3⟩, d1, d2, d3⟩
      obtain ⟨x, x1, x2, x3⟩ := (hen s (by omega)).mp c3
      obtain ⟨y, y1, y2, y3⟩ := (hbe t ht).mp d3
      exact ⟨x, y, x1, y1, x2, y2, x3, y3⟩
    · rintro ⟨x, y, x1, y1, rfl, rfl, x3, y3⟩
      exact ⟨⟨by omega, by omega, (hen _ (by omega)).mpr ⟨x, x1, rfl, x3⟩⟩, by omega, by omega, (hbe _ ht).mpr ⟨y, y1, rfl, y3⟩⟩
  -- the copy
  have hcC : ∀ s t, ww_cC L1 lo (nt_n A) (nt_n A * c) s t ↔ ∃ x y, x < nt_n A ∧ y < nt_n A ∧ s = lo + x + nt_n A * c ∧ t = lo + y + nt_n A * c ∧ nb (L1 11 (lo + x)) (lo + y) = true := by
    intro s t
    unfold ww_cC
    constructor
    · rintro ⟨c1, c2, c3⟩
      refine ⟨s - nt_n A * c - lo, t - nt_n A * c - lo, by omega, by omega, by omega, by omega, ?_⟩
      rw [show lo + (s - nt_n A * c - lo) = s - nt_n A * c by omega, show lo + (t - nt_n A * c - lo) = t - nt_n A * c by omega]
      exact c3
    · rintro ⟨x, y, x1, y1, rfl, rfl, c3⟩
      refine ⟨by omega, by omega, ?_⟩
      rw [Nat.add_sub_cancel, Nat.add_sub_cancel]
      exact c3
  have hE0 : ∀ x y, x < nt_n A → y < nt_n A → (nb (L1 11 (lo + x)) (lo + y) = true ↔ nt_E A x y = true) := by
    intro x y hx hy
    have := t1 0 x (lo + y) (by omega) hx (by omega)
    rw [Nat.mul_zero, Nat.add_zero] at this
    rw [this]
    constructor
    · rintro (⟨z, z1, z2, z3⟩ | ⟨_, z, z1, z2, _⟩)
      · rw [Nat.add_zero] at z2
        rw [show y = z by omega]
        exact z3
      · rw [Nat.zero_add, Nat.mul_one] at z2
        omega
    · intro z
      exact Or.inl ⟨y, hy, by omega, z⟩
  have row : ∀ s t, s < 41 → t < 64 → (nb (L3 11 s) t = true ↔ nb (L1 11 s) t = true ∨ ww_cC L1 lo (nt_n A) (nt_n A * c) s t ∨ ww_C u en be s t) := by
    intro s t hs ht
    rw [b1 s t hs ht, a2 _ _ (by decide), a1.1 s t hs ht, or_assoc]
  have h13 : ∀ j, L3 13 j = if lo + nt_n A * c ≤ j ∧ j < lo + nt_n A + nt_n A * c then L1 13 (j - nt_n A * c) else L1 13 j := fun j => by
    rw [b3 _ _ (by decide) (by decide)]
    exact a3 j
  refine ⟨?_, ?_, ?_, ?_, ?_, ?_⟩
  · intro cc x t hcc hx ht
    have hb1 : nt_n A * cc ≤ nt_n A * c := Nat.mul_le_mul_left _ (by omega)
    rw [row _ t (by omega) ht, hcC, hC _ t (by omega) ht]
    by_cases e : cc = c
    · subst e
      rw [t4 _ (by omega) (by omega), nb_0]
      constructor
      · rintro (z | ⟨x2, y, x1, y1, e1, e2, e3⟩ | ⟨x2, y, x1, y1, e1, _⟩)
        · cases z
        · have : x2 = x := by omega
          subst this
          exact Or.inl ⟨y, y1, e2, (hE0 x2 y x1 y1).mp e3⟩
        · omega
      · rintro (⟨y, y1, y2, y3⟩ | ⟨z, _⟩)
        · exact Or.inr (Or.inl ⟨x, y, hx, y1, rfl, y2, (hE0 x y hx y1).mpr y3⟩)
        · omega
    · have hcc2 : cc < c := by omega
      have hm := hmono cc hcc2
      rw [t1 cc x t hcc2 hx ht]
      constructor
      · rintro ((z | ⟨z1, z2⟩) | ⟨x2, y, x1, y1, e1, _⟩ | ⟨x2, y, x1, y1, e1, e2, e3, e4⟩)
        · exact Or.inl z
        · exact Or.inr ⟨by omega, z2⟩
        · omega
        · obtain ⟨f1, f2⟩ := na_dec (a := lo) (by omega) (by omega) (by omega) (by omega) (show lo + x + nt_n A * cc = lo + x2 + nt_n A * (c - 1) from e1)
          have : x2 = x := by omega
          subst this
          refine Or.inr ⟨by omega, y, y1, ?_, e3, e4⟩
          rw [show cc + 1 = c by omega]
          exact e2
      · rintro (z | ⟨z1, y, y1, y2, y3, y4⟩)
        · exact Or.inl (Or.inl z)
        · by_cases e2 : cc + 1 < c
          · exact Or.inl (Or.inr ⟨e2, y, y1, y2, y3, y4⟩)
          · have e3 : cc + 1 = c := by omega
            rw [e3] at y2
            exact Or.inr (Or.inr ⟨x, y, hx, y1, by rw [show cc = c - 1 by omega], y2, y3, y4⟩)
  · intro cc x y v hcc hx hy hv
    have hb1 : nt_n A * cc ≤ nt_n A * c := Nat.mul_le_mul_left _ (by omega)
    have msk : ∀ s t, s < 41 → t < 41 → ¬ ww_C u en be s t → nb (L3 12 (s * 41 + t)) v = nb (M2 12 (s * 41 + t)) v := fun s t hs ht hn => by rw [(b2 s t v hs ht hv).2 hn, a2 _ _ (by decide)]
    constructor
    · intro hE
      rw [msk _ _ (by omega) (by omega) (fun z => by
        obtain ⟨x2, y2, x1, y1, e1, e2, _⟩ := (hC _ _ (by omega) (by omega)).mp z
        obtain ⟨f1, _⟩ := na_dec (a := lo) (by omega) (by omega) (by omega) (by omega) (show lo + x + nt_n A * cc = lo + x2 + nt_n A * (c - 1) from e1)
        obtain ⟨f3, _⟩ := na_dec (a := lo) (by omega) (by omega) (by omega) (by omega) (show lo + y + nt_n A * cc = lo + y2 + nt_n A * c from e2)
        omega)]
      by_cases e : cc = c
      · subst e
        rw [(a1.2.1 _ _ v (by omega) (by omega) hv).1 ((hcC _ _).mpr ⟨x, y, hx, hy, rfl, rfl, (hE0 x y hx hy).mpr hE⟩), t4 _ (by omega) (by omega), nb_0]
        dsimp only
        rw [Nat.add_sub_cancel, Nat.add_sub_cancel]
        have := (t2 0 x y v (by omega) hx hy hv).1 hE
        rw [Nat.mul_zero, Nat.add_zero, Nat.add_zero] at this
        rw [this]
        rfl
      · have hm := hmono cc (by omega)
        rw [(a1.2.1 _ _ v (by omega) (by omega) hv).2 (fun z => by
          obtain ⟨x2, y2, x1, y1, e1, _⟩ := (hcC _ _).mp z
          omega)]
        exact (t2 cc x y v (by omega) hx hy hv).1 hE
    · intro hcc2 hL hF
      have hm := hmono cc (by omega)
      rw [emd cc]
      by_cases e : cc + 1 = c
      · have ec : nt_n A * cc + nt_n A = nt_n A * c := by rw [← emd, e]
        have hCC : ww_C u en be (lo + x + nt_n A * cc) (lo + y + (nt_n A * cc + nt_n A)) := (hC _ _ (by omega) (by omega)).mpr ⟨x, y, hx, hy, by rw [show cc = c - 1 by omega], by rw [ec], hL, hF⟩
        rw [(b2 _ _ v (by omega) (by omega) hv).1 hCC]
        have hno : nb (L2 11 (lo + x + nt_n A * cc)) (lo + y + (nt_n A * cc + nt_n A)) = false := by
          cases hb : nb (L2 11 (lo + x + nt_n A * cc)) (lo + y + (nt_n A * cc + nt_n A))
          · rfl
          · rw [a2 _ _ (by decide), a1.1 _ _ (by omega) (by omega)] at hb
            rcases hb with z | z
            · rcases (t1 cc x _ (by omega) hx (by omega)).mp z with ⟨y2, y1, e2, _⟩ | ⟨z, _⟩
              · omega
              · omega
            · obtain ⟨x2, y2, x1, y1, e1, _⟩ := (hcC _ _).mp z
              omega
        rw [hno]
        show (false || nb (L2 13 _) v) = _
        rw [Bool.false_or, a3, if_pos (by omega), ec, Nat.add_sub_cancel]
        have := t3 0 y v (by omega) hy hv
        rw [Nat.mul_zero, Nat.add_zero] at this
        exact this
      · have hm2 := hmono (cc + 1) (by omega)
        rw [emd cc] at hm2
        rw [msk _ _ (by omega) (by omega) (fun z => by
          obtain ⟨x2, y2, x1, y1, e1, e2, _⟩ := (hC _ _ (by omega) (by omega)).mp z
          obtain ⟨f1, _⟩ := na_dec (a := lo) (by omega) (by omega) (by omega) (by omega) (show lo + x + nt_n A * cc = lo + x2 + nt_n A * (c - 1) from e1)
          omega), (a1.2.1 _ _ v (by omega) (by omega) hv).2 (fun z => by
          obtain ⟨x2, y2, x1, y1, e1, _⟩ := (hcC _ _).mp z
          omega)]
        have := (t2 cc x y v (by omega) hx hy hv).2 (by omega) hL hF
        rw [emd cc] at this
        exact this
  · intro cc x v hcc hx hv
    have hb1 : nt_n A * cc ≤ nt_n A * c := Nat.mul_le_mul_left _ (by omega)
    rw [h13]
    by_cases e : cc = c
    · subst e
      rw [if_pos (by omega), Nat.add_sub_cancel]
      have := t3 0 x v (by omega) hx hv
      rw [Nat.mul_zero, Nat.add_zero] at this
      exact this
    · have hm := hmono cc (by omega)
      rw [if_neg (by omega)]
      exact t3 cc x v (by omega) hx hv
  · intro s h1 h2
    rw [emul] at h1
    refine nb_z.mpr (fun t ht => ?_)
    cases hb : nb (L3 11 s) t
    · rfl
    · rcases (row s t (by omega) ht).mp hb with z | z | z
      · rw [t4 s (by omega) h2, nb_0] at z
        cases z
      · obtain ⟨x2, y2, x1, y1, e1, _⟩ := (hcC _ _).mp z
        omega
      · obtain ⟨x2, y2, x1, y1, e1, _⟩ := (hC _ _ (by omega) ht).mp z
        omega
  · intro s hs
    obtain ⟨k1, k2, k3⟩ := t5 s hs
    refine ⟨fun t ht => ?_, ?_, fun t v ht hv => ?_⟩
    · rw [row s t (by omega) ht, k1 t ht]
      constructor
      · rintro (z | z | z)
        · exact z
        · obtain ⟨x2, y2, x1, y1, e1, _⟩ := (hcC _ _).mp z
          omega
        · obtain ⟨x2, y2, x1, y1, e1, _⟩ := (hC _ _ (by omega) ht).mp z
          omega
      · exact Or.inl
    · rw [h13, if_neg (by omega)]
      exact k2
    · rw [(b2 s t v (by omega) ht hv).2 (fun z => by
        obtain ⟨x2, y2, x1, y1, e1, _⟩ := (hC _ _ (by omega) (by omega)).mp z
        omega), a2 _ _ (by decide), (a1.2.1 s t v (by omega) ht hv).2 (fun z => by
        obtain ⟨x2, y2, x1, y1, e1, _⟩ := (hcC _ _).mp z
        omega)]
      exact k3 t v ht hv
  · intro d j hd
    rw [b3 d j (by omega) (by omega), a2 d j (by omega), a1.2.2 d j (by omega) (by omega)]
    exact t6 d j hd
theorem ww_tI_0 {I : Nat → Nat → Int32} {L Lz : Nat → Nat → Int64} {k lo u : Nat} {A : nt_A} (hP : ww_P I L k lo A) (hlo : 1 ≤ lo) (m : Nat) (hz : ww_zr L Lz (lo + nt_n A - 1) m) (hu : u = lo + nt_n A - 1 + m) : ww_tI A lo u 1 L Lz := by
  obtain ⟨p1, p2, p3, p4, p5, p6, p7, p8⟩ := hP
  obtain ⟨z1, z2⟩ := hz
  have c0 : ∀ cc, cc < 1 → cc = 0 := fun cc h => by omega
  refine ⟨fun cc x t hcc hx ht => ?_, fun cc x y v hcc hx hy hv => ⟨fun hE => ?_, fun h => by omega⟩, fun cc x v hcc hx hv => ?_, fun s h1 h2 => ?_, fun s hs => ⟨fun t _ => by rw [z2 _ _ (by omega)], z2 _ _ (by omega), fun t v _ _ => by rw [z2 _ _ (by omega)]⟩, fun d j hd => z2 _ _ (by omega)⟩
  · have := c0 cc hcc
    subst this
    rw [Nat.mul_zero, Nat.add_zero, z2 _ _ (by omega), p3 x t hx ht]
    constructor
    · rintro ⟨y, y1, y2, y3⟩
      exact Or.inl ⟨y, y1, by omega, y3⟩
    · rintro (⟨y, y1, y2, y3⟩ | ⟨h, _⟩)
      · exact ⟨y, y1, by omega, y3⟩
      · omega
  · have := c0 cc hcc
    subst this
    rw [Nat.mul_zero, Nat.add_zero, Nat.add_zero, z2 _ _ (by omega)]
    exact p4 x y v hx hy hE hv
  · have := c0 cc hcc
    subst this
    rw [Nat.mul_zero, Nat.add_zero, z2 _ _ (by omega)]
    exact p5 x v hx hv
  · rw [Nat.mul_one] at h1
    exact (z1 s (by omega) (by omega)).1
/-- the weaver behind so many times -/
theorem ww_times_W {I : Nat → Nat → Int32} {L L1 : Nat → Nat → Int64} {l : ww_s} {x : Nat × nt_A} {w lo hi : Nat} {kp : Int64} (hhi : 0 < hi) (hw1 : w ≤ 1000) (hW : ww_W false I L (x :: l)) (hu : ww_sz (x :: l) + nt_n x.2 * (hi - 1) < 41) (hI : ww_tI x.2 (1 + ww_sz l) (ww_sz (x :: l) + nt_n x.2 * (hi - 1)) hi L L1)
    (hkp : ∀ t, t < 64 → (nb kp t = true ↔ ∃ c y, c < hi ∧ y < nt_n x.2 ∧ t = 1 + ww_sz l + y + nt_n x.2 * c ∧ nt_L x.2 y = true ∧ nt_ls x.2 lo ≤ c + 1)) :
    ww_W false (wv_u (wv_u (wv_u I 14 l.length (Int32.ofNat w)) 10 9 (Int32.ofNat (ww_sz (x :: l) + nt_n x.2 * (hi - 1)))) 18 l.length (wb_i (decide (nt_ls x.2 lo = 0)))) (wv_u L1 17 l.length kp) ((w, nt_times lo hi x.2) :: l) := by
  obtain ⟨w1, w2, w3, w4, w5⟩ := id hW
  obtain ⟨v1, v2, v4, v5⟩ := w5 rfl
  have esz : ww_sz (x :: l) = nt_n x.2 + ww_sz l := rfl
  obtain ⟨t1, t2, t3, t4, t5, t6⟩ := hI
  have hx1 := v4.2.1
  have h0 : ¬ hi = 0 := by omega
  have eN : nt_n (nt_times lo hi x.2) = nt_n x.2 * hi := by unfold nt_times; rw [if_neg h0]; rfl
  have eE : nt_E (nt_times lo hi x.2) = fun s t => if t / nt_n x.2 = s / nt_n x.2 then nt_E x.2 (s % nt_n x.2) (t % nt_n x.2) else if t / nt_n x.2 = s / nt_n x.2 + 1 then nt_L x.2 (s % nt_n x.2) && nt_F x.2 (t % nt_n x.2) else false := by unfold nt_times; rw [if_neg h0]; rfl
  have eM : nt_M (nt_times lo hi x.2) = fun s t => if t / nt_n x.2 = s / nt_n x.2 then nt_M x.2 (s % nt_n x.2) (t % nt_n x.2) else nt_H x.2 (t % nt_n x.2) := by unfold nt_times; rw [if_neg h0]; rfl
  have eH : nt_H (nt_times lo hi x.2) = fun s => nt_H x.2 (s % nt_n x.2) := by unfold nt_times; rw [if_neg h0]; rfl
  have eF : nt_F (nt_times lo hi x.2) = fun s => decide (s < nt_n x.2) && nt_F x.2 s := by unfold nt_times; rw [if_neg h0]; rfl
  have eL : nt_L (nt_times lo hi x.2) = fun s => nt_L x.2 (s % nt_n x.2) && decide (nt_ls x.2 lo ≤ s / nt_n x.2 + 1) := by unfold nt_times; rw [if_neg h0]; rfl
  have ee : nt_e (nt_times lo hi x.2) = decide (nt_ls x.2 lo = 0) := by unfold nt_times; rw [if_neg h0]; rfl
  have emh : nt_n x.2 * hi = nt_n x.2 * (hi - 1) + nt_n x.2 := by
    conv => lhs; rw [show hi = (hi - 1) + 1 by omega, Nat.mul_add, Nat.mul_one]
  rw [esz] at v2 hu
  have hdm : ∀ y c, y < nt_n x.2 → (y + nt_n x.2 * c) / nt_n x.2 = c ∧ (y + nt_n x.2 * c) % nt_n x.2 = y := by
    intro y c hy
    rw [Nat.add_mul_div_left _ _ (by omega), Nat.div_eq_of_lt hy, Nat.zero_add, Nat.add_mul_mod_self_left, Nat.mod_eq_of_lt hy]
    exact ⟨rfl, rfl⟩
  have hlt : ∀ y c, y < nt_n x.2 → c < hi → y + nt_n x.2 * c < nt_n x.2 * hi := by
    intro y c hy h
    have := Nat.mul_le_mul_left (nt_n x.2) (show c + 1 ≤ hi from h)
    rw [Nat.mul_add, Nat.mul_one] at this
    omega
  have hsp : ∀ t, t < nt_n x.2 * hi → t % nt_n x.2 < nt_n x.2 ∧ t / nt_n x.2 < hi ∧ t = t % nt_n x.2 + nt_n x.2 * (t / nt_n x.2) := by
    intro t ht
    obtain ⟨d1, d2, d3⟩ := nt_div (n := nt_n x.2) (m := hi) (z := t) (by rw [Nat.mul_comm]; exact ht)
    exact ⟨d3, d2, (Nat.mod_add_div t (nt_n x.2)).symm⟩
  refine ⟨?_, w2, ?_, ⟨⟨?_, hw1⟩, ww_ws_eq w4.2 (fun k hk => ?_)⟩, fun _ => ⟨?_, ?_, ?_, ?_⟩⟩
  · rw [wv_u_no _ _ (by omega), wv_u_no _ _ (by omega), wv_u_no _ _ (by omega)]
    exact w1
  · rw [wv_u_no _ _ (by omega), wv_u_no _ _ (by omega), wv_u_no _ _ (by omega)]
    exact w3
  · rw [wv_u_no _ _ (by omega), wv_u_no _ _ (by omega), wv_u_at]
  · rw [wv_u_no _ _ (by omega), wv_u_no _ _ (by omega), wv_u_no _ _ (by omega)]
  · rw [wv_u_no _ _ (by omega), wv_u_at]
    show _ = Int32.ofNat (nt_n (nt_times lo hi x.2) + ww_sz l)
    rw [eN, esz]
    congr 1
    omega
  · show nt_n (nt_times lo hi x.2) + ww_sz l ≤ 40
    rw [eN]
    omega
  · refine ⟨by rw [wv_u_no _ _ (by omega), wv_u_no _ _ (by omega), wv_u_no _ _ (by omega)]; exact v4.1, by show 1 ≤ nt_n (nt_times lo hi x.2); rw [eN]; omega, fun s t h1 h2 => ?_, fun s z v h1 h2 h3 h4 => ?_, fun s v h1 h2 => ?_, ?_, ?_, ?_⟩
    · have h1 : s < nt_n (nt_times lo hi x.2) := h1
      rw [eN] at h1
      show _ ↔ ∃ y, y < nt_n (nt_times lo hi x.2) ∧ t = 1 + ww_sz l + y ∧ nt_E (nt_times lo hi x.2) s y = true
      rw [wv_u_no _ _ (by omega), eN, eE]
      obtain ⟨q1, q2, q3⟩ := hsp s h1
      have := t1 (s / nt_n x.2) (s % nt_n x.2) t q2 q1 h2
      rw [show 1 + ww_sz l + s % nt_n x.2 + nt_n x.2 * (s / nt_n x.2) = 1 + ww_sz l + s by omega] at this
      rw [this]
      constructor
      · rintro (⟨y, y1, y2, y3⟩ | ⟨y0, y, y1, y2, y3, y4⟩)
        · obtain ⟨e1, e2⟩ := hdm y (s / nt_n x.2) y1
          refine ⟨y + nt_n x.2 * (s / nt_n x.2), hlt y _ y1 q2, by omega, ?_⟩
          dsimp only
          rw [e1, e2, if_pos rfl]
          exact y3
        · obtain ⟨e1, e2⟩ := hdm y (s / nt_n x.2 + 1) y1
          refine ⟨y + nt_n x.2 * (s / nt_n x.2 + 1), hlt y _ y1 y0, by omega, ?_⟩
          dsimp only
          rw [e1, e2, if_neg (by omega), if_pos rfl]
          exact nt_and_b.mpr ⟨y3, y4⟩
      · rintro ⟨z, z1, z2, z3⟩
        obtain ⟨r1, r2, r3⟩ := hsp z z1
        dsimp only at z3
        by_cases c1 : z / nt_n x.2 = s / nt_n x.2
        · rw [if_pos c1] at z3
          rw [c1] at r3
          exact Or.inl ⟨z % nt_n x.2, r1, by omega, z3⟩
        · rw [if_neg c1] at z3
          by_cases c2 : z / nt_n x.2 = s / nt_n x.2 + 1
          · rw [if_pos c2] at z3
            rw [c2] at r3
            have := nt_and_b.mp z3
            exact Or.inr ⟨by omega, z % nt_n x.2, r1, by omega, this.1, this.2⟩
          · rw [if_neg c2] at z3
            cases z3
    · have h1 : s < nt_n (nt_times lo hi x.2) := h1
      have h2 : z < nt_n (nt_times lo hi x.2) := h2
      have h3 : nt_E (nt_times lo hi x.2) s z = true := h3
      rw [eN] at h1 h2
      rw [eE] at h3
      show _ = nt_M (nt_times lo hi x.2) s z v
      rw [wv_u_no _ _ (by omega), eM]
      obtain ⟨q1, q2, q3⟩ := hsp s h1
      obtain ⟨r1, r2, r3⟩ := hsp z h2
      dsimp only at h3 ⊢
      by_cases c1 : z / nt_n x.2 = s / nt_n x.2
      · rw [if_pos c1] at h3 ⊢
        have := (t2 (s / nt_n x.2) (s % nt_n x.2) (z % nt_n x.2) v q2 q1 r1 h4).1 h3
        rw [show 1 + ww_sz l + s % nt_n x.2 + nt_n x.2 * (s / nt_n x.2) = 1 + ww_sz l + s by omega, show 1 + ww_sz l + z % nt_n x.2 + nt_n x.2 * (s / nt_n x.2) = 1 + ww_sz l + z by rw [← c1]; omega] at this
        exact this
      · rw [if_neg c1] at h3 ⊢
        by_cases c2 : z / nt_n x.2 = s / nt_n x.2 + 1
        · rw [if_pos c2] at h3
          have h5 := nt_and_b.mp h3
          have := (t2 (s / nt_n x.2) (s % nt_n x.2) (z % nt_n x.2) v q2 q1 r1 h4).2 (by omega) h5.1 h5.2
          rw [show 1 + ww_sz l + s % nt_n x.2 + nt_n x.2 * (s / nt_n x.2) = 1 + ww_sz l + s by omega, show 1 + ww_sz l + z % nt_n x.2 + nt_n x.2 * (s / nt_n x.2 + 1) = 1 + ww_sz l + z by rw [← c2]; omega] at this
          exact this
        · rw [if_neg c2] at h3
          cases h3
    · have h1 : s < nt_n (nt_times lo hi x.2) := h1
      rw [eN] at h1
      show _ = nt_H (nt_times lo hi x.2) s v
      rw [wv_u_no _ _ (by omega), eH]
      obtain ⟨q1, q2, q3⟩ := hsp s h1
      have := t3 (s / nt_n x.2) (s % nt_n x.2) v q2 q1 h2
      rw [show 1 + ww_sz l + s % nt_n x.2 + nt_n x.2 * (s / nt_n x.2) = 1 + ww_sz l + s by omega] at this
      exact this
    · intro t ht
      show _ ↔ ∃ y, y < nt_n (nt_times lo hi x.2) ∧ t = 1 + ww_sz l + y ∧ nt_F (nt_times lo hi x.2) y = true
      rw [wv_u_no _ _ (by omega), t6 _ _ (by omega), v4.2.2.2.2.2.1 t ht, eN, eF]
      constructor
      · rintro ⟨y, y1, y2, y3⟩
        have := hlt y 0 y1 (by omega)
        exact ⟨y, by omega, y2, nt_and_b.mpr ⟨decide_eq_true y1, y3⟩⟩
      · rintro ⟨y, y1, y2, y3⟩
        have := nt_and_b.mp y3
        exact ⟨y, of_decide_eq_true this.1, y2, this.2⟩
    · intro t ht
      show _ ↔ ∃ y, y < nt_n (nt_times lo hi x.2) ∧ t = 1 + ww_sz l + y ∧ nt_L (nt_times lo hi x.2) y = true
      rw [wv_u_at, hkp t ht, eN, eL]
      constructor
      · rintro ⟨c, y, c1, y1, y2, y3, y4⟩
        obtain ⟨e1, e2⟩ := hdm y c y1
        refine ⟨y + nt_n x.2 * c, hlt y c y1 c1, by omega, ?_⟩
        dsimp only
        rw [e1, e2]
        exact nt_and_b.mpr ⟨y3, decide_eq_true y4⟩
      · rintro ⟨z, z1, z2, z3⟩
        obtain ⟨r1, r2, r3⟩ := hsp z z1
        have := nt_and_b.mp z3
        exact ⟨z / nt_n x.2, z % nt_n x.2, r2, r1, by omega, this.1, of_decide_eq_true this.2⟩
    · show _ = wb_i (nt_e (nt_times lo hi x.2))
      rw [ee]
      exact wv_u_at _ _ _ _
  · refine ww_ok_eq v5 (fun k hk => ⟨by rw [wv_u_no _ _ (by omega), wv_u_no _ _ (by omega), wv_u_no _ _ (by omega)], by rw [wv_u_no _ _ (by omega), wv_u_no _ _ (by omega), wv_u_no _ _ (by omega)], by rw [wv_u_no _ _ (by omega), t6 _ _ (by omega)], by rw [wv_u_no _ _ (by omega), t6 _ _ (by omega)]⟩) (fun s h1 h2 => ?_) (fun s t h1 h2 h3 h4 v hv => ?_)
    · rw [wv_u_no _ _ (by omega), wv_u_no _ _ (by omega)]
      exact ⟨(t5 s (by omega)).1, (t5 s (by omega)).2.1⟩
    · rw [wv_u_no _ _ (by omega)]
      exact (t5 s (by omega)).2.2 t v (by omega) hv
