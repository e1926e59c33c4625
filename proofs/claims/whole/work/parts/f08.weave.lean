/-! ===== the class weaves: with a letter in common ===== -/
def ww_fX (A B : nt_A) (p q : Nat) : Bool := nt_any (nt_n A) (fun z => nt_E A p z && nt_L A z) && nt_F B q
def ww_fY (A B : nt_A) (p q v : Nat) : Bool := nt_any (nt_n A) (fun z => nt_E A p z && nt_L A z && nt_M A p z v) && nt_H B q v
def ww_fd (A B : nt_A) (lo s t : Nat) : Int64 := nb_mk (ww_fY A B (s - lo) (t - (lo + nt_n A))) 64
def ww_fC (A B : nt_A) (lo s t : Nat) : Prop := ∃ p q, p < nt_n A ∧ q < nt_n B ∧ s = lo + p ∧ t = lo + nt_n A + q ∧ ww_fX A B p q = true
/-- heads of the second piece, cut -/
def ww_fH (L L3 : Nat → Nat → Int64) (a k : Nat) (be en : Int64) : Prop := (∀ c j, ¬ c = 13 → L3 c j = L c j) ∧ (∀ j, ¬ (a ≤ j ∧ j < a + k) → L3 13 j = L 13 j) ∧ ∀ j v, a ≤ j → j < a + k → v < 64 → nb (L3 13 j) v = (nb (L 13 j) v && (! (nb be j) || nb en v))
def ww_l8 (r : Nat) (xs : List (Option Value)) : List (Option Value) := some (.ref 10) :: some (.int (Int32.ofNat r)) :: some (.int (Int32.ofNat (r + 1))) :: xs
def ww_h152 (fl : Bool) (A B : nt_A) (u r lo : Nat) (T : wv_T) (N : Nat) (J : Nat → Nat → Int32) (L : Nat → Nat → Int64) (R : Nat → Nat → Option Nat) : Nat → Option (Nat → wv_P) := fun pc =>
  if pc = 24 then some (fun mm lv st T1 N1 I1 L1 R1 nc ns => lv = ww_l8 r [none, none, none, none, none, none] ∧ st = [] ∧ T1 = T ∧ N1 = N ∧ I1 = J ∧ L1 = L ∧ R1 = R ∧ nc = 0 ∧ ns = 0 ∧ fl = false ∧ mm = 1000)
  else if pc = 31 then some (fun mm lv st T1 N1 I1 L1 R1 nc ns => ∃ (k : Nat) (x : Option Value), lv = ww_l8 r [some (.int (Int32.ofNat (lo + k))), x, none, none, none, none] ∧ st = [] ∧ T1 = T ∧ N1 = N ∧ I1 = J ∧ R1 = R ∧ nc = 0 ∧ ns = 0 ∧ fl = false ∧ k ≤ nt_n A ∧ mm = 500 + (nt_n A - k) ∧ ww_stp L L1 (fun s t => s < lo + k ∧ ww_fC A B lo s t) (ww_fd A B lo))
  else if pc = 116 then some (fun mm lv st T1 N1 I1 L1 R1 nc ns => ∃ (k : Nat) (en : Int64) (L2 : Nat → Nat → Int64), lv = ww_l8 r [some (.long (L 16 r &&& L 17 r)), none, some (.long en), none, some (.int (Int32.ofNat (lo + nt_n A + k))), none] ∧ st = [] ∧ T1 = T ∧ N1 = N ∧ I1 = J ∧ R1 = R ∧ nc = 0 ∧ ns = 0 ∧ fl = false ∧ k ≤ nt_n B ∧ mm = nt_n B - k ∧ ww_stp L L2 (ww_fC A B lo) (ww_fd A B lo) ∧ ww_hm L (L 16 r &&& L 17 r) en u ∧ ww_fH L2 L1 (lo + nt_n A) k (L 16 (r + 1)) en)
  else none
theorem nb_and3 {a b c : Bool} : (a && (! b || c)) = true ↔ a = true ∧ (b = true → c = true) := by cases a <;> cases b <;> cases c <;> decide
theorem ww_fuse_W {I : Nat → Nat → Int32} {L L2 L3 : Nat → Nat → Int64} {l : ww_s} {x y : Nat × nt_A} {w : Nat} {en sg : Int64} (hW : ww_W false I L (y :: x :: l)) (hs : ww_stp L L2 (ww_fC x.2 y.2 (1 + ww_sz l)) (ww_fd x.2 y.2 (1 + ww_sz l))) (hen : ww_hm L (L 16 l.length &&& L 17 l.length) en (ww_sz (y :: x :: l))) (hf : ww_fH L2 L3 (1 + ww_sz l + nt_n x.2) (nt_n y.2) (L 16 (l.length + 1)) en)
    (hsg : ∀ t, t < 64 → (nb sg t = true ↔ ¬ (L 16 l.length &&& L 17 l.length) = 0 ∧ nb (L 16 (l.length + 1)) t = true)) :
    ww_W false (wv_u (ww_J I l w) 18 l.length 0) (wv_u (wv_u L3 16 l.length (L3 16 l.length ||| sg)) 17 l.length (L3 17 (l.length + 1))) ((min w 1000, nt_fuse x.2 y.2) :: l) := by
  obtain ⟨w1, w2, w3, w4, w5⟩ := id hW
  obtain ⟨v1, v2, v3, v4, v5⟩ := w5 rfl
  have esz : ww_sz (y :: x :: l) = nt_n y.2 + (nt_n x.2 + ww_sz l) := rfl
  have es1 : ww_sz (x :: l) = nt_n x.2 + ww_sz l := rfl
  rw [List.length_cons, List.length_cons] at w2
  rw [List.length_cons, es1, show 1 + (nt_n x.2 + ww_sz l) = 1 + ww_sz l + nt_n x.2 by omega] at v3
  rw [esz] at v2 hen
  have hx1 := v4.2.1
  have hy1 := v3.2.1
  obtain ⟨g1, g2, g3⟩ := hf
  have e16 : ∀ j, L3 16 j = L 16 j := fun j => by rw [g1 _ _ (by decide)]; exact hs.2.2 16 j (by decide) (by decide)
  have e17 : ∀ j, L3 17 j = L 17 j := fun j => by rw [g1 _ _ (by decide)]; exact hs.2.2 17 j (by decide) (by decide)
  have e13 : ∀ j, L2 13 j = L 13 j := fun j => hs.2.2 13 j (by decide) (by decide)
  have f16 := v4.2.2.2.2.2.1
  have f17 := v4.2.2.2.2.2.2.1
  have h16 := v3.2.2.2.2.2.1
  have h17 := v3.2.2.2.2.2.2.1
  have hnx : ∀ v, v < 64 → (nb en v = true ↔ nt_any (nt_n x.2) (fun z => nt_F x.2 z && nt_L x.2 z && nt_H x.2 z v) = true) := by
    intro v hv
    rw [hen v hv, nt_any_iff]
    constructor
    · rintro ⟨e, a1, a2, a3, a4⟩
      rw [nb_and, nt_and_b] at a3
      obtain ⟨z, z1, z2, z3⟩ := (f16 e (by omega)).mp a3.1
      obtain ⟨z', y1, y2, y3⟩ := (f17 e (by omega)).mp a3.2
      have : z' = z := by omega
      subst this
      rw [z2, v4.2.2.2.2.1 z' v z1 hv] at a4
      exact ⟨z', z1, nt_and_b.mpr ⟨nt_and_b.mpr ⟨z3, y3⟩, a4⟩⟩
    · rintro ⟨z, z1, z2⟩
      have z3 := nt_and_b.mp z2
      have z4 := nt_and_b.mp z3.1
      refine ⟨1 + ww_sz l + z, by omega, by omega, ?_, ?_⟩
      · rw [nb_and, nt_and_b]
        exact ⟨(f16 _ (by omega)).mpr ⟨z, z1, rfl, z4.1⟩, (f17 _ (by omega)).mpr ⟨z, z1, rfl, z4.2⟩⟩
      · rw [v4.2.2.2.2.1 z v z1 hv]
        exact z3.2
  have hsn : ¬ (L 16 l.length &&& L 17 l.length) = 0 ↔ nt_any (nt_n x.2) (fun z => nt_F x.2 z && nt_L x.2 z) = true := by
    rw [nb_nz, nt_any_iff]
    constructor
    · rintro ⟨t, t1, t2⟩
      rw [nb_and, nt_and_b] at t2
      obtain ⟨z, z1, z2, z3⟩ := (f16 t t1).mp t2.1
      obtain ⟨z', y1, y2, y3⟩ := (f17 t t1).mp t2.2
      have : z' = z := by omega
      subst this
      exact ⟨z', z1, nt_and_b.mpr ⟨z3, y3⟩⟩
    · rintro ⟨z, z1, z2⟩
      have z4 := nt_and_b.mp z2
      refine ⟨1 + ww_sz l + z, by omega, ?_⟩
      rw [nb_and, nt_and_b]
      exact ⟨(f16 _ (by omega)).mpr ⟨z, z1, rfl, z4.1⟩, (f17 _ (by omega)).mpr ⟨z, z1, rfl, z4.2⟩⟩
  have hside := ww_side (X := ww_fX x.2 y.2) (Y := ww_fY x.2 y.2) v4 v3 (by omega) hs (fun s t h1 h2 => Iff.rfl) (fun a b v h1 h2 h3 h4 => by
    unfold ww_fd
    rw [nb_mk_64 _ h4, Nat.add_sub_cancel_left, Nat.add_sub_cancel_left])
  refine ⟨by rw [wv_u_no _ _ (by omega)]; exact ww_J_8, by rw [List.length_cons]; omega, by rw [wv_u_no _ _ (by omega), ww_J_no (by omega) (by decide)]; exact w3, ww_J_ws _ hW (fun k => wv_u_no _ _ (by omega)), fun _ => ⟨?_, ?_, ?_, ?_⟩⟩
  · rw [wv_u_no _ _ (by omega), ww_J_no (by omega) (by decide), v1, esz]
    show Int32.ofNat _ = Int32.ofNat (nt_n x.2 + nt_n y.2 + ww_sz l)
    congr 1
    omega
  · show nt_n x.2 + nt_n y.2 + ww_sz l ≤ 40
    omega
  · refine ⟨by rw [wv_u_no _ _ (by omega), ww_J_no (by omega) (by decide)]; exact v4.1, by show 1 ≤ nt_n x.2 + nt_n y.2; omega, fun s t h1 h2 => ?_, fun s z v h1 h2 h3 h4 => ?_, fun s v h1 h2 => ?_, ?_, ?_, wv_u_at _ _ _ _⟩
    · rw [wv_u_no _ _ (by omega), wv_u_no _ _ (by omega), g1 _ _ (by decide)]
      exact hside.1 s t h1 h2
    · rw [wv_u_no _ _ (by omega), wv_u_no _ _ (by omega), g1 _ _ (by decide)]
      exact hside.2 s z v h1 h2 h3 h4
    · rw [wv_u_no _ _ (by omega), wv_u_no _ _ (by omega)]
      have h1 : s < nt_n x.2 + nt_n y.2 := h1
      show _ = (if s < nt_n x.2 then nt_H x.2 s else if nt_F y.2 (s - nt_n x.2) = true then (fun v => nt_H y.2 (s - nt_n x.2) v && nt_any (nt_n x.2) (fun z => nt_F x.2 z && nt_L x.2 z && nt_H x.2 z v)) else nt_H y.2 (s - nt_n x.2)) v
      by_cases hc : s < nt_n x.2
      · rw [if_pos hc, g2 _ (by omega), e13]
        exact v4.2.2.2.2.1 s v hc h2
      · rw [if_neg hc, g3 _ v (by omega) (by omega) h2, e13]
        have hH := v3.2.2.2.2.1 (s - nt_n x.2) v (by omega) h2
        rw [show 1 + ww_sz l + nt_n x.2 + (s - nt_n x.2) = 1 + ww_sz l + s by omega] at hH
        have hF : nb (L 16 (l.length + 1)) (1 + ww_sz l + s) = nt_F y.2 (s - nt_n x.2) := nb_eq (by
          rw [h16 _ (by omega)]
          constructor
          · rintro ⟨z, z1, z2, z3⟩
            rw [show s - nt_n x.2 = z by omega]
            exact z3
          · exact fun z => ⟨s - nt_n x.2, by omega, by omega, z⟩)
        rw [hH, hF]
        by_cases hf2 : nt_F y.2 (s - nt_n x.2) = true
        · rw [if_pos hf2, hf2, nb_eq (hnx v h2)]
          rfl
        · rw [if_neg hf2, Bool.eq_false_iff.mpr hf2]
          simp
    · rw [wv_u_no _ _ (by omega), wv_u_at, e16]
      refine ww_set (bx := true) (b2 := nt_any (nt_n x.2) (fun z => nt_F x.2 z && nt_L x.2 z)) f16 h16 (fun t ht => ?_) (fun s hs => ?_) (fun s hs => ?_)
      · rw [nb_or, nt_or_b, hsg t ht, hsn]
        exact ⟨fun z => z.elim (fun z => Or.inl ⟨rfl, z⟩) Or.inr, fun z => z.elim (fun z => Or.inl z.2) Or.inr⟩
      · show (if s < nt_n x.2 then nt_F x.2 s else _) = true ↔ _
        rw [if_pos hs]
        exact ⟨fun z => ⟨rfl, z⟩, fun z => z.2⟩
      · show (if nt_n x.2 + s < nt_n x.2 then _ else nt_any (nt_n x.2) (fun z => nt_F x.2 z && nt_L x.2 z) && nt_F y.2 (nt_n x.2 + s - nt_n x.2)) = true ↔ _
        rw [if_neg (by omega), Nat.add_sub_cancel_left, nt_and_b]
    · rw [wv_u_at, e17]
      refine ww_set (bx := false) (b2 := true) f17 h17 (fun t _ => ?_) (fun s hs => ?_) (fun s hs => ?_)
      · exact ⟨fun z => Or.inr ⟨rfl, z⟩, fun z => z.elim (fun z => (by cases z.1)) (fun z => z.2)⟩
      · show (if s < nt_n x.2 then false else _) = true ↔ _
        rw [if_pos hs]
        exact ⟨fun z => (by cases z), fun z => (by cases z.1)⟩
      · show (if nt_n x.2 + s < nt_n x.2 then _ else nt_L y.2 (nt_n x.2 + s - nt_n x.2)) = true ↔ _
        rw [if_neg (by omega), Nat.add_sub_cancel_left]
        exact ⟨fun z => ⟨rfl, z⟩, fun z => z.2⟩
  · refine ww_ok_eq v5 (fun k hk => ⟨by rw [wv_u_no _ _ (by omega), ww_J_no (by omega) (by decide)], by rw [wv_u_no _ _ (by omega), ww_J_no (by omega) (by decide)], by rw [wv_u_no _ _ (by omega), wv_u_no _ _ (by omega), e16], by rw [wv_u_no _ _ (by omega), wv_u_no _ _ (by omega), e17]⟩) (fun s h1 h2 => ⟨fun t ht => ?_, ?_⟩) (fun s t h1 h2 h3 h4 v hv => ?_)
    · rw [wv_u_no _ _ (by omega), wv_u_no _ _ (by omega), g1 _ _ (by decide), hs.1 s t (by omega) ht]
      exact ⟨fun z => z.elim id (fun ⟨p, q, p1, q1, e, _⟩ => by omega), Or.inl⟩
    · rw [wv_u_no _ _ (by omega), wv_u_no _ _ (by omega), g2 _ (by omega), e13]
    · rw [wv_u_no _ _ (by omega), wv_u_no _ _ (by omega), g1 _ _ (by decide)]
      refine (hs.2.1 s t v (by omega) (by omega) hv).2 (fun ⟨p, q, p1, q1, e, _⟩ => by omega)
def ww_c152 : wv_c1 := fun as T N I L R q => ∃ (fl : Bool) (x y : Nat × nt_A) (l : ww_s), as = [.ref 10] ∧ wm_T T ∧ ww_W fl I L (y :: x :: l) ∧ ∀ I1 L1, ww_W fl I1 L1 ((min (y.1 + x.1) 1000, nt_fuse x.2 y.2) :: l) → ww_F I L I1 L1 → q (.inl none) T N I1 L1 R 0 0
set_option maxRecDepth 100000 in
theorem wM_152 : ∃ cb ci np, pt_mt 152 = some (5, cb, 8, false, none, ci, np) := ⟨_, _, _, rfl⟩
set_option maxRecDepth 100000 in
set_option maxHeartbeats 4000000 in
theorem ww_overlap {sc : pt_Sc} {d : Nat} : wv_C wm_fx sc (d + 1 + 1 + 1) 152 ww_c152 := by
  rintro as T N I L R q ⟨fl, x, y, l, rfl, hT, hW, h⟩ w0 HR
  obtain ⟨cb, ci, np, hm⟩ := wM_152
  have hc150 : wv_C wm_fx sc (d + 1 + 1) 150 ww_c150 := wv_C_deep (by omega) (ww_together (d := d))
  have hc151 : wv_C wm_fx sc (d + 1 + 1) 151 ww_c151 := wv_C_deep (by omega) (ww_mergeTwo (d := d))
  have hc153 : wv_C wm_fx sc (d + 1 + 1) 153 ww_c153 := wv_C_deep (by omega) (ww_stepMask (d := d))
  have hc154 : wv_C wm_fx sc (d + 1 + 1) 154 ww_c154 := wv_C_deep (by omega) (ww_shareSteps (d := d))
  have hc155 : wv_C wm_fx sc (d + 1 + 1) 155 ww_c155 := wv_C_deep (by omega) (ww_headMask (d := d))
  have hc141 : wv_C wm_fx sc (d + 1 + 1) 141 ww_c141 := wv_C_deep (by omega) (ww_isIn (d := d))
  refine wv_meth (hh := none) rfl (sp := wv_sp [(150, ww_c150), (151, ww_c151), (153, ww_c153), (154, ww_c154), (155, ww_c155), (141, ww_c141)]) (hd := ww_h152 fl x.2 y.2 (ww_sz (y :: x :: l)) l.length (1 + ww_sz l) T N (ww_J I l (y.1 + x.1)) L R) (n := 300) (n1 := 300) hm zc_152 rfl (wv_sp_ok (fun q hq => by
    rcases List.mem_cons.mp hq with h | h
    · rw [h]; exact hc150
    rcases List.mem_cons.mp h with h | h
    · rw [h]; exact hc151
    rcases List.mem_cons.mp h with h | h
    · rw [h]; exact hc153
    rcases List.mem_cons.mp h with h | h
    · rw [h]; exact hc154
    rcases List.mem_cons.mp h with h | h
    · rw [h]; exact hc155
    rw [List.mem_singleton.mp h]; exact hc141)) ?_ ?_ HR
  · have hw2 := hW.2.1
    rw [List.length_cons, List.length_cons] at hw2
    have hwx := hW.2.2.2.1.1.2
    have hwy := hW.2.2.2.1.2.1.2
    refine ⟨fl, x, y, l, rfl, hT, hW, ?_⟩
    refine ⟨fl, y.1 + x.1, x, y, l, rfl, hT, hW, by omega, ?_⟩
    refine ⟨fun h1 => ?_, fun h1 => ?_⟩
    · have hfl : fl = false := by
        have := wb_i_1.mp h1
        cases fl
        · rfl
        · cases this
      refine ⟨1000, ?_, rfl, rfl, rfl, rfl, rfl, rfl, rfl, rfl, hfl, rfl⟩
      have e8 : ww_J I l (y.1 + x.1) 10 8 = Int32.ofNat (l.length + 1) := ww_J_8
      have e8m := wi_s1 (a := l.length + 1) (by omega) (by omega)
      rw [Nat.add_sub_cancel] at e8m
      show _ = ww_l8 l.length _
      unfold ww_l8
      rw [← e8m, ← e8]
      rfl
    · have hfl : fl = true := by
        have := wb_i_2.mp h1
        cases fl
        · cases this
        · rfl
      subst hfl
      exact h _ L (ww_full _ hW) ww_J_F
  · intro pc P hP m lv st T1 N1 I1 L1 R1 nc ns hh
    have hw2 := hW.2.1
    rw [List.length_cons, List.length_cons] at hw2
    have er := wi_on (n := l.length) (by omega)
    have ern := wi_onn (n := l.length) (by omega)
    have es := wi_on (n := l.length + 1) (by omega)
    have esn := wi_onn (n := l.length + 1) (by omega)
    have br : 0 ≤ Int32.ofNat l.length ∧ (Int32.ofNat l.length).toInt < (201 : Nat) := by rw [wi_le, er, wi_0]; omega
    have bs : 0 ≤ Int32.ofNat (l.length + 1) ∧ (Int32.ofNat (l.length + 1)).toInt < (201 : Nat) := by rw [wi_le, es, wi_0]; omega

    have esz : ww_sz (y :: x :: l) = nt_n y.2 + (nt_n x.2 + ww_sz l) := rfl
    have es1 : ww_sz (x :: l) = nt_n x.2 + ww_sz l := rfl
    unfold ww_h152 at hP
    split at hP
    · cases hP
      rename_i hpc
      subst hpc
      obtain ⟨rfl, rfl, rfl, rfl, rfl, rfl, rfl, rfl, rfl, rfl, hmm⟩ := hh
      obtain ⟨v1, v2, v3, v4, v5⟩ := hW.2.2.2.2 rfl
      refine ⟨_, wm_t hT rfl, br, ?_⟩
      rw [ern, ww_J_no (by omega) (by decide), v4.1]
      exact ⟨500 + (nt_n x.2 - 0), by rw [esz] at v2; omega, 0, none, rfl, rfl, rfl, rfl, rfl, rfl, rfl, rfl, rfl, Nat.zero_le _, rfl, ww_stp_0 _ _ (fun s t _ _ z => by obtain ⟨h1, p, q, _, _, h2, _⟩ := z; omega)⟩
    · split at hP
      · cases hP
        rename_i hpc
        subst hpc
        obtain ⟨k, x4, rfl, rfl, rfl, rfl, rfl, rfl, rfl, rfl, rfl, hk, hmm, hs⟩ := hh
        obtain ⟨v1, v2, v3, v4, v5⟩ := hW.2.2.2.2 rfl
        rw [List.length_cons, es1, show 1 + (nt_n x.2 + ww_sz l) = 1 + ww_sz l + nt_n x.2 by omega] at v3
        rw [esz] at v2
        have hx1 := v4.2.1
        have hy1 := v3.2.1
        have e15 : ww_J I l (y.1 + x.1) 15 (l.length + 1) = Int32.ofNat (1 + ww_sz l + nt_n x.2) := by rw [ww_J_no (by omega) (by decide)]; exact v3.1
        have e16 : ∀ j, L1 16 j = L 16 j := fun j => hs.2.2 16 j (by decide) (by decide)
        have e17 : ∀ j, L1 17 j = L 17 j := fun j => hs.2.2 17 j (by decide) (by decide)
        have e13 : ∀ j, L1 13 j = L 13 j := fun j => hs.2.2 13 j (by decide) (by decide)
        have f16 := v4.2.2.2.2.2.1
        have f17 := v4.2.2.2.2.2.2.1
        have h16 := v3.2.2.2.2.2.1
        have ek := wi_on (n := 1 + ww_sz l + k) (by omega)
        have ekn := wi_onn (n := 1 + ww_sz l + k) (by omega)
        have ea := wi_on (n := 1 + ww_sz l + nt_n x.2) (by omega)
        have h9 : ww_J I l (y.1 + x.1) 10 9 = Int32.ofNat (ww_sz (y :: x :: l)) := by rw [ww_J_no (by omega) (by decide)]; exact v1
        refine ⟨_, wm_t hT rfl, bs, ?_, ?_⟩
        · rw [esn, e15]
          intro h1
          have e : k = nt_n x.2 := by rw [wi_le, ek, ea] at h1; omega
          subst e
          refine ⟨_, wm_t hT rfl, br, _, wm_t hT rfl, br, ?_⟩
          rw [ern, e16, e17]
          refine ⟨_, _, rfl, hT, h9, by rw [esz]; exact v2, fun en hen => ?_⟩
          refine ⟨_, wm_t hT rfl, bs, ?_⟩
          rw [esn, e15]
          refine ⟨nt_n y.2 - 0, by omega, 0, en, L1, rfl, rfl, rfl, rfl, rfl, rfl, rfl, rfl, rfl, Nat.zero_le _, rfl, ww_stp_c hs (fun s t _ _ => ⟨fun z => ⟨by obtain ⟨p, q, p1, q1, e1, _⟩ := z; omega, z⟩, fun z => z.2⟩) (fun _ _ _ _ _ => rfl), fun v hv => ?_, ⟨fun _ _ _ => rfl, fun _ _ => rfl, fun j v a b => by omega⟩⟩
          rw [hen v hv]
          constructor
          · rintro ⟨e, a, b, c, d⟩
            rw [e13] at d
            exact ⟨e, a, b, c, d⟩
          · rintro ⟨e, a, b, c, d⟩
            rw [← e13] at d
            exact ⟨e, a, b, c, d⟩
        · rw [esn, e15]
          intro h1
          have hlt : k < nt_n x.2 := by rw [wi_le, ek, ea] at h1; omega
          refine ⟨_, wm_t hT rfl, by rw [wi_le, ek, wi_0]; omega, _, wm_t hT rfl, br, ?_⟩
          rw [ern, ekn, e17]
          have hrow : ∀ t, t < 64 → (nb (L1 11 (1 + ww_sz l + k)) t = true ↔ nb (L 11 (1 + ww_sz l + k)) t = true) := fun t ht => by
            rw [hs.1 _ t (by omega) ht]
            exact ⟨fun z => z.elim id (fun z => by omega), Or.inl⟩
          have hen : ∀ t, t < 64 → (nb (L1 11 (1 + ww_sz l + k) &&& L 17 l.length) t = true ↔ ∃ z, z < nt_n x.2 ∧ t = 1 + ww_sz l + z ∧ nt_E x.2 k z = true ∧ nt_L x.2 z = true) := fun t ht => by
            rw [nb_and, nt_and_b, hrow t ht, v4.2.2.1 k t hlt ht, f17 t ht]
            constructor
            · rintro ⟨⟨z, z1, z2, z3⟩, z', y1, y2, y3⟩
              have : z' = z := by omega
              subst this
              exact ⟨z', z1, z2, z3, y3⟩
            · rintro ⟨z, z1, z2, z3, z4⟩
              exact ⟨⟨z, z1, z2, z3⟩, z, z1, z2, z4⟩
          obtain ⟨ens, hens⟩ : ∃ e, L1 11 (1 + ww_sz l + k) &&& L 17 l.length = e := ⟨_, rfl⟩
          rw [hens] at hen
          refine ⟨fun h2 => ?_, fun h2 => ?_⟩
          · have h2z : L1 11 (1 + ww_sz l + k) &&& L 17 l.length = 0 := lg_cmp_0.mp h2
            rw [hens] at h2z
            clear h2
            refine ⟨500 + (nt_n x.2 - (k + 1)), by omega, k + 1, _, by rw [← wi_ad1]; rfl, rfl, rfl, rfl, rfl, rfl, rfl, rfl, rfl, by omega, rfl, ww_stp_c hs (fun s t hs41 _ => ⟨fun z => ⟨?_, z.2⟩, fun z => ⟨by omega, z.2⟩⟩) (fun _ _ _ _ _ => rfl)⟩
            by_cases e : s = 1 + ww_sz l + k
            · obtain ⟨_, p, q, p1, q1, e1, e2, e3⟩ := z
              have : p = k := by omega
              subst this
              obtain ⟨z, z1, z2⟩ := nt_any_iff.mp (nt_and_b.mp e3).1
              have := (hen (1 + ww_sz l + z) (by omega)).mpr ⟨z, z1, rfl, (nt_and_b.mp z2).1, (nt_and_b.mp z2).2⟩
              rw [h2z, nb_0] at this
              cases this
            · omega
          · have h2 : ¬ L1 11 (1 + ww_sz l + k) &&& L 17 l.length = 0 := fun z => h2 (lg_cmp_0.mpr z)
            rw [hens] at h2
            refine ⟨_, _, _, rfl, hT, h9, by rw [esz]; exact v2, by omega, fun ms hms => ?_⟩
            have hms : ww_sm L1 (1 + ww_sz l + k) ens ms (ww_sz (y :: x :: l)) := by rw [← hens]; exact hms
            refine ⟨_, wm_t hT rfl, bs, ?_⟩
            rw [esn, e16]
            refine ⟨_, _, _, _, rfl, hT, h9, by rw [esz]; exact v2, by omega, fun L2 hs2 => ?_⟩
            refine ⟨500 + (nt_n x.2 - (k + 1)), by omega, k + 1, _, by rw [← wi_ad1]; rfl, rfl, rfl, rfl, rfl, rfl, rfl, rfl, rfl, by omega, rfl, ?_⟩
            have hany : nt_any (nt_n x.2) (fun z => nt_E x.2 k z && nt_L x.2 z) = true := by
              obtain ⟨t, t1, t2⟩ := nb_nz.mp h2
              obtain ⟨z, z1, _, z3, z4⟩ := (hen t t1).mp t2
              exact nt_any_iff.mpr ⟨z, z1, nt_and_b.mpr ⟨z3, z4⟩⟩
            refine ww_stp_tr hs hs2 (fun s t _ _ a b => by omega) (fun s t s41 t64 => ⟨fun z => ?_, fun z => ?_⟩) (fun s t v s41 t41 hv hc => ?_)
            · by_cases e : s = 1 + ww_sz l + k
              · obtain ⟨_, p, q, p1, q1, e1, e2, e3⟩ := z
                refine Or.inr ⟨e, by omega, by rw [esz]; omega, (h16 t t64).mpr ⟨q, q1, e2, (nt_and_b.mp e3).2⟩⟩
              · exact Or.inl ⟨by omega, z.2⟩
            · rcases z with z | ⟨e, a, b, c⟩
              · exact ⟨by omega, z.2⟩
              · obtain ⟨q, q1, q2, q3⟩ := (h16 t t64).mp c
                exact ⟨by omega, k, q, hlt, q1, e, q2, nt_and_b.mpr ⟨hany, q3⟩⟩
            · obtain ⟨e, a, b, c⟩ := hc
              obtain ⟨q, q1, q2, q3⟩ := (h16 t (by omega)).mp c
              subst e q2
              unfold ww_fd
              rw [nb_mk_64 _ hv, Nat.add_sub_cancel_left, Nat.add_sub_cancel_left]
              refine nb_eq ?_
              unfold ww_fY
              rw [nb_and, nt_and_b, nt_and_b, e13, v3.2.2.2.2.1 q v q1 hv, hms v hv, nt_any_iff]
              constructor
              · rintro ⟨⟨e, e1, e2, e3, e4⟩, g⟩
                obtain ⟨z, z1, z2, z3, z4⟩ := (hen e (by rw [esz] at e2; omega)).mp e3
                subst z2
                rw [(hs.2.1 _ _ v (by omega) (by omega) hv).2 (fun w => by omega), v4.2.2.2.1 k z v hlt z1 z3 hv] at e4
                exact ⟨⟨z, z1, nt_and_b.mpr ⟨nt_and_b.mpr ⟨z3, z4⟩, e4⟩⟩, g⟩
              · rintro ⟨⟨z, z1, z2⟩, g⟩
                have z3 := nt_and_b.mp z2
                have z4 := nt_and_b.mp z3.1
                refine ⟨⟨1 + ww_sz l + z, by omega, by rw [esz]; omega, (hen _ (by omega)).mpr ⟨z, z1, rfl, z4.1, z4.2⟩, ?_⟩, g⟩
                rw [(hs.2.1 _ _ v (by omega) (by omega) hv).2 (fun w => by omega), v4.2.2.2.1 k z v hlt z1 z4.1 hv]
                exact z3.2
      · split at hP
        · cases hP
          rename_i hpc
          subst hpc
          obtain ⟨k, en, L2, rfl, rfl, rfl, rfl, rfl, rfl, rfl, rfl, rfl, hk, hmm, hs, hen, hf⟩ := hh
          obtain ⟨v1, v2, v3, v4, v5⟩ := hW.2.2.2.2 rfl
          rw [esz] at v2
          have hx1 := v4.2.1
          have e16 : ∀ j, L1 16 j = L 16 j := fun j => by rw [hf.1 _ _ (by decide)]; exact hs.2.2 16 j (by decide) (by decide)
          have e17 : ∀ j, L1 17 j = L 17 j := fun j => by rw [hf.1 _ _ (by decide)]; exact hs.2.2 17 j (by decide) (by decide)
          have ek := wi_on (n := 1 + ww_sz l + nt_n x.2 + k) (by omega)
          have ekn := wi_onn (n := 1 + ww_sz l + nt_n x.2 + k) (by omega)
          have eu := wi_on (n := ww_sz (y :: x :: l)) (by rw [esz]; omega)
          have h9 : ww_J I l (y.1 + x.1) 10 9 = Int32.ofNat (ww_sz (y :: x :: l)) := by rw [ww_J_no (by omega) (by decide)]; exact v1
          refine ⟨fun h1 => ?_, fun h1 => ?_⟩
          · have e : k = nt_n y.2 := by rw [h9, wi_lt, ek, eu, esz] at h1; omega
            subst e
            have fin : ∀ sg, (∀ t, t < 64 → (nb sg t = true ↔ ¬ (L 16 l.length &&& L 17 l.length) = 0 ∧ nb (L 16 (l.length + 1)) t = true)) → q (.inl none) T1 N1 (wv_u (ww_J I l (y.1 + x.1)) 18 l.length 0) (wv_u (wv_u L1 16 l.length (L1 16 l.length ||| sg)) 17 l.length (L1 17 (l.length + 1))) R1 0 0 := fun sg hsg =>
              h _ _ (ww_fuse_W hW hs hen hf hsg) (ww_F_tr (ww_F_tr (ww_F_tr (ww_F_tr (ww_F_tr ww_J_F (ww_F_st hs)) ⟨fun _ _ _ _ => rfl, fun c j a => hf.1 c j (by omega)⟩) (ww_F_u (by omega))) (ww_F_u (by omega))) (ww_F_i (by omega)))
            refine ⟨_, wm_t hT rfl, br, ?_, ?_⟩
            · intro h2
              have h2 := lg_cmp_0.mp h2
              refine ⟨_, wm_t hT rfl, br, by decide, _, wm_t hT rfl, bs, _, wm_t hT rfl, br, by decide, _, wm_t hT rfl, br, by decide, ?_⟩
              rw [ern, esn, wv_u_no _ _ (by omega)]
              exact fin (Int64.ofNat 0) (fun t _ => ⟨fun z => (nb_00 z).elim, fun z => (z.1 h2).elim⟩)
            · intro h2
              have h2 : ¬ (L 16 l.length &&& L 17 l.length) = 0 := fun z => h2 (lg_cmp_0.mpr z)
              refine ⟨_, wm_t hT rfl, bs, _, wm_t hT rfl, br, by decide, _, wm_t hT rfl, bs, _, wm_t hT rfl, br, by decide, _, wm_t hT rfl, br, by decide, ?_⟩
              rw [ern, esn, wv_u_no _ _ (by omega)]
              exact fin (L1 16 (l.length + 1)) (fun t _ => by rw [e16]; exact ⟨fun z => ⟨h2, z⟩, fun z => z.2⟩)
          · have hlt : k < nt_n y.2 := by rw [h9, wi_lt, ek, eu, esz] at h1; omega
            have bk : 0 ≤ Int32.ofNat (1 + ww_sz l + nt_n x.2 + k) ∧ (Int32.ofNat (1 + ww_sz l + nt_n x.2 + k)).toInt < (41 : Nat) := by rw [wi_le, ek, wi_0]; omega
            have fin : ∀ z : Int64, (∀ v, v < 64 → nb z v = (nb (L1 13 (1 + ww_sz l + nt_n x.2 + k)) v && (! (nb (L 16 (l.length + 1)) (1 + ww_sz l + nt_n x.2 + k)) || nb en v))) → ww_fH L2 (wv_u L1 13 (1 + ww_sz l + nt_n x.2 + k) z) (1 + ww_sz l + nt_n x.2) (k + 1) (L 16 (l.length + 1)) en := by
              intro z hz
              obtain ⟨g1, g2, g3⟩ := hf
              refine ⟨fun c j a => by rw [wv_u_no _ _ (by omega)]; exact g1 c j a, fun j a => by rw [wv_u_no _ _ (by omega)]; exact g2 j (by omega), fun j v a b c => ?_⟩
              by_cases e : j = 1 + ww_sz l + nt_n x.2 + k
              · subst e
                rw [wv_u_at, hz v c, g2 _ (by omega)]
              · rw [wv_u_no _ _ (by omega)]
                exact g3 j v a (by omega) c
            refine ⟨_, wm_t hT rfl, bk, _, wm_t hT rfl, bs, ?_⟩
            rw [ekn, esn, e16]
            refine ⟨_, _, rfl, by omega, ?_⟩
            refine ⟨fun h2 => ?_, fun h2 => ?_⟩
            · have hb := wb_i_0.mp h2
              refine ⟨_, wm_t hT rfl, bk, by decide, ?_⟩
              rw [ekn]
              refine ⟨nt_n y.2 - (k + 1), by omega, k + 1, en, L2, by rw [← wi_ad1]; rfl, rfl, rfl, rfl, rfl, rfl, rfl, rfl, rfl, by omega, rfl, hs, hen, fin _ (fun v hv => ?_)⟩
              rw [nb_and, hb, show nb (-1) v = true from nb_m1 hv]
              rfl
            · have hb := wb_i_1.mp h2
              refine ⟨_, wm_t hT rfl, bk, by decide, ?_⟩
              rw [ekn]
              refine ⟨nt_n y.2 - (k + 1), by omega, k + 1, en, L2, by rw [← wi_ad1]; rfl, rfl, rfl, rfl, rfl, rfl, rfl, rfl, rfl, by omega, rfl, hs, hen, fin _ (fun v hv => ?_)⟩
              rw [nb_and, hb]
              rfl
        · cases hP
