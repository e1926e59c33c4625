/-! ===== the class weaves: one of two, some, a condition ===== -/
def ww_h156 (fl : Bool) (r : Nat) (ex ey : Bool) (T : wv_T) (N : Nat) (J : Nat → Nat → Int32) (L : Nat → Nat → Int64) (R : Nat → Nat → Option Nat) : Nat → Option (Nat → wv_P) := fun pc =>
  if pc = 24 then some (fun mm lv st T1 N1 I1 L1 R1 nc ns => lv = ww_l3 r ∧ st = [] ∧ T1 = T ∧ N1 = N ∧ I1 = J ∧ L1 = L ∧ R1 = R ∧ nc = 0 ∧ ns = 0 ∧ fl = false ∧ mm = 4)
  else if pc = 82 then some (fun mm lv st T1 N1 I1 L1 R1 nc ns => lv = ww_l3 r ∧ st = [.int (wb_i (ex || ey)), .int (Int32.ofNat r), .ref 18] ∧ T1 = T ∧ N1 = N ∧ I1 = J ∧ L1 = wv_u (wv_u L 16 r (L 16 r ||| L 16 (r + 1))) 17 r (L 17 r ||| L 17 (r + 1)) ∧ R1 = R ∧ nc = 0 ∧ ns = 0 ∧ fl = false ∧ mm = 1)
  else none
theorem ww_or_W {I : Nat → Nat → Int32} {L : Nat → Nat → Int64} {l : ww_s} {x y : Nat × nt_A} {w : Nat} (hW : ww_W false I L (y :: x :: l)) :
    ww_W false (wv_u (ww_J I l w) 18 l.length (wb_i (nt_e x.2 || nt_e y.2))) (wv_u (wv_u L 16 l.length (L 16 l.length ||| L 16 (l.length + 1))) 17 l.length (L 17 l.length ||| L 17 (l.length + 1))) ((min w 1000, nt_or x.2 y.2) :: l) := by
  obtain ⟨w1, w2, w3, w4, w5⟩ := id hW
  obtain ⟨v1, v2, v3, v4, v5⟩ := w5 rfl
  have esz : ww_sz (y :: x :: l) = nt_n y.2 + (nt_n x.2 + ww_sz l) := rfl
  have es1 : ww_sz (x :: l) = nt_n x.2 + ww_sz l := rfl
  rw [List.length_cons, List.length_cons] at w2
  rw [List.length_cons, es1, show 1 + (nt_n x.2 + ww_sz l) = 1 + ww_sz l + nt_n x.2 by omega] at v3
  rw [esz] at v2
  have hx1 := v4.2.1
  have hy1 := v3.2.1
  refine ⟨by rw [wv_u_no _ _ (by omega)]; exact ww_J_8, by rw [List.length_cons]; omega, by rw [wv_u_no _ _ (by omega), ww_J_no (by omega) (by decide)]; exact w3, ww_J_ws _ hW (fun k => wv_u_no _ _ (by omega)), fun _ => ⟨?_, ?_, ?_, ?_⟩⟩
  · rw [wv_u_no _ _ (by omega), ww_J_no (by omega) (by decide), v1, esz]
    show Int32.ofNat _ = Int32.ofNat (nt_n x.2 + nt_n y.2 + ww_sz l)
    congr 1
    omega
  · show nt_n x.2 + nt_n y.2 + ww_sz l ≤ 40
    omega
  · have f16 := v4.2.2.2.2.2.1
    have f17 := v4.2.2.2.2.2.2.1
    have g16 := v3.2.2.2.2.2.1
    have g17 := v3.2.2.2.2.2.2.1
    have hside := ww_side (X := fun _ _ => false) (Y := fun _ _ _ => false) v4 v3 (by omega) (ww_stp_0 L (fun _ _ => 0) (C := fun _ _ => False) (fun _ _ _ _ h => h)) (fun s t h1 h2 => ⟨fun h => h.elim, fun ⟨_, _, _, _, _, _, h⟩ => (by cases h)⟩) (fun a b v h1 h2 h3 h4 => (by cases h3))
    refine ⟨by rw [wv_u_no _ _ (by omega), ww_J_no (by omega) (by decide)]; exact v4.1, by show 1 ≤ nt_n x.2 + nt_n y.2; omega, fun s t h1 h2 => ?_, fun s z v h1 h2 h3 h4 => ?_, fun s v h1 h2 => ?_, ?_, ?_, wv_u_at _ _ _ _⟩
    · rw [wv_u_no _ _ (by omega), wv_u_no _ _ (by omega)]
      exact hside.1 s t h1 h2
    · rw [wv_u_no _ _ (by omega), wv_u_no _ _ (by omega)]
      exact hside.2 s z v h1 h2 h3 h4
    · rw [wv_u_no _ _ (by omega), wv_u_no _ _ (by omega)]
      exact ww_sideH v4 v3 s v h1 h2
    · rw [wv_u_no _ _ (by omega), wv_u_at]
      refine ww_set (bx := true) (b2 := true) f16 g16 (fun t _ => ?_) (fun s hs => ?_) (fun s hs => ?_)
      · rw [nb_or, nt_or_b]
        exact ⟨fun z => z.elim (fun z => Or.inl ⟨rfl, z⟩) (fun z => Or.inr ⟨rfl, z⟩), fun z => z.elim (fun z => Or.inl z.2) (fun z => Or.inr z.2)⟩
      · show (if s < nt_n x.2 then nt_F x.2 s else _) = true ↔ _
        rw [if_pos hs]
        exact ⟨fun z => ⟨rfl, z⟩, fun z => z.2⟩
      · show (if nt_n x.2 + s < nt_n x.2 then _ else nt_F y.2 (nt_n x.2 + s - nt_n x.2)) = true ↔ _
        rw [if_neg (by omega), Nat.add_sub_cancel_left]
        exact ⟨fun z => ⟨rfl, z⟩, fun z => z.2⟩
    · rw [wv_u_at]
      refine ww_set (bx := true) (b2 := true) f17 g17 (fun t _ => ?_) (fun s hs => ?_) (fun s hs => ?_)
      · rw [nb_or, nt_or_b]
        exact ⟨fun z => z.elim (fun z => Or.inl ⟨rfl, z⟩) (fun z => Or.inr ⟨rfl, z⟩), fun z => z.elim (fun z => Or.inl z.2) (fun z => Or.inr z.2)⟩
      · show (if s < nt_n x.2 then nt_L x.2 s else _) = true ↔ _
        rw [if_pos hs]
        exact ⟨fun z => ⟨rfl, z⟩, fun z => z.2⟩
      · show (if nt_n x.2 + s < nt_n x.2 then _ else nt_L y.2 (nt_n x.2 + s - nt_n x.2)) = true ↔ _
        rw [if_neg (by omega), Nat.add_sub_cancel_left]
        exact ⟨fun z => ⟨rfl, z⟩, fun z => z.2⟩
  · refine ww_ok_eq v5 (fun k hk => ⟨by rw [wv_u_no _ _ (by omega), ww_J_no (by omega) (by decide)], by rw [wv_u_no _ _ (by omega), ww_J_no (by omega) (by decide)], by rw [wv_u_no _ _ (by omega), wv_u_no _ _ (by omega)], by rw [wv_u_no _ _ (by omega), wv_u_no _ _ (by omega)]⟩) (fun s h1 h2 => ⟨fun t ht => ?_, ?_⟩) (fun s t h1 h2 h3 h4 v hv => ?_)
    · rw [wv_u_no _ _ (by omega), wv_u_no _ _ (by omega)]
    · rw [wv_u_no _ _ (by omega), wv_u_no _ _ (by omega)]
    · rw [wv_u_no _ _ (by omega), wv_u_no _ _ (by omega)]
def ww_c156 : wv_c1 := fun as T N I L R q => ∃ (fl : Bool) (x y : Nat × nt_A) (l : ww_s), as = [.ref 10] ∧ wm_T T ∧ ww_W fl I L (y :: x :: l) ∧ ∀ I1 L1, ww_W fl I1 L1 ((min (y.1 + x.1) 1000, nt_or x.2 y.2) :: l) → ww_F I L I1 L1 → q (.inl none) T N I1 L1 R 0 0
set_option maxRecDepth 100000 in
theorem wM_156 : ∃ cb ci np, pt_mt 156 = some (5, cb, 3, false, none, ci, np) := ⟨_, _, _, rfl⟩
set_option maxRecDepth 100000 in
set_option maxHeartbeats 4000000 in
theorem ww_either {sc : pt_Sc} {d : Nat} : wv_C wm_fx sc (d + 1 + 1) 156 ww_c156 := by
  rintro as T N I L R q ⟨fl, x, y, l, rfl, hT, hW, h⟩ w0 HR
  obtain ⟨cb, ci, np, hm⟩ := wM_156
  have hc150 : wv_C wm_fx sc (d + 1) 150 ww_c150 := wv_C_deep (by omega) (ww_together (d := d))
  have hc151 : wv_C wm_fx sc (d + 1) 151 ww_c151 := wv_C_deep (by omega) (ww_mergeTwo (d := d))
  refine wv_meth (hh := none) rfl (sp := wv_sp [(150, ww_c150), (151, ww_c151)]) (hd := ww_h156 fl l.length (nt_e x.2) (nt_e y.2) T N (ww_J I l (y.1 + x.1)) L R) (n := 300) (n1 := 300) hm zc_156 rfl (wv_sp_ok (fun q hq => by
    rcases List.mem_cons.mp hq with h | h
    · rw [h]; exact hc150
    rw [List.mem_singleton.mp h]; exact hc151)) ?_ ?_ HR
  · have hw2 := hW.2.1
    rw [List.length_cons, List.length_cons] at hw2
    have hwx := hW.2.2.2.1.1.2
    have hwy := hW.2.2.2.1.2.1.2
    refine ⟨fl, x, y, l, rfl, hT, hW, ?_⟩
    refine ⟨fl, y.1 + x.1, x, y, l, rfl, hT, hW, by omega, ?_⟩
    refine ⟨fun h1 => ?_, fun h1 => ?_⟩
    · have hfl : fl = false := by
        have := wb_i_1.mp h1
        cases fl
        · rfl
        · cases this
      refine ⟨4, ?_, rfl, rfl, rfl, rfl, rfl, rfl, rfl, rfl, hfl, rfl⟩
      have e8 : ww_J I l (y.1 + x.1) 10 8 = Int32.ofNat (l.length + 1) := ww_J_8
      have e8m := wi_s1 (a := l.length + 1) (by omega) (by omega)
      rw [Nat.add_sub_cancel] at e8m
      show _ = ww_l3 l.length
      unfold ww_l3
      rw [← e8m, ← e8]
      rfl
    · have hfl : fl = true := by
        have := wb_i_2.mp h1
        cases fl
        · cases this
        · rfl
      subst hfl
      exact h _ L (ww_full _ hW) ww_J_F
  · intro pc P hP m lv st T1 N1 I1 L1 R1 nc ns hh
    have hw2 := hW.2.1
    rw [List.length_cons, List.length_cons] at hw2
    have er := wi_on (n := l.length) (by omega)
    have ern := wi_onn (n := l.length) (by omega)
    have es := wi_on (n := l.length + 1) (by omega)
    have esn := wi_onn (n := l.length + 1) (by omega)
    have br : 0 ≤ Int32.ofNat l.length ∧ (Int32.ofNat l.length).toInt < (201 : Nat) := by rw [wi_le, er, wi_0]; omega
    have bs : 0 ≤ Int32.ofNat (l.length + 1) ∧ (Int32.ofNat (l.length + 1)).toInt < (201 : Nat) := by rw [wi_le, es, wi_0]; omega

    unfold ww_h156 at hP
    split at hP
    · cases hP
      rename_i hpc
      subst hpc
      obtain ⟨rfl, rfl, rfl, rfl, rfl, rfl, rfl, rfl, rfl, rfl, hmm⟩ := hh
      have j18 : ww_J I l (y.1 + x.1) 18 l.length = wb_i (nt_e x.2) := by rw [ww_J_no (by omega) (by decide)]; exact (hW.2.2.2.2 rfl).2.2.2.1.2.2.2.2.2.2.2
      have k18 : ww_J I l (y.1 + x.1) 18 (l.length + 1) = wb_i (nt_e y.2) := by rw [ww_J_no (by omega) (by decide)]; exact (hW.2.2.2.2 rfl).2.2.1.2.2.2.2.2.2.2
      refine ⟨_, wm_t hT rfl, br, _, wm_t hT rfl, bs, _, wm_t hT rfl, br, by decide, ?_⟩
      rw [ern, esn]
      refine ⟨_, wm_t hT rfl, br, _, wm_t hT rfl, bs, _, wm_t hT rfl, br, by decide, ?_⟩
      rw [ern, esn, wv_u_no _ _ (show ¬ (17 = 16 ∧ l.length = l.length) by omega), wv_u_no _ _ (show ¬ (17 = 16 ∧ l.length + 1 = l.length) by omega)]
      refine ⟨2, _, Or.inl rfl, wm_t hT rfl, br, ?_, ?_⟩
      · rw [ern, j18]
        intro h1
        refine ⟨1, by omega, rfl, ?_, rfl, rfl, rfl, rfl, rfl, rfl, rfl, rfl, rfl⟩
        rw [wb_i_1.mp h1]
        rfl
      · rw [ern, j18]
        intro h1
        refine ⟨2, _, Or.inl rfl, wm_t hT rfl, bs, ?_, ?_⟩
        · rw [esn, k18]
          intro h2
          refine ⟨1, by omega, rfl, ?_, rfl, rfl, rfl, rfl, rfl, rfl, rfl, rfl, rfl⟩
          rw [wb_i_2.mp h1, wb_i_0.mp h2]
          rfl
        · rw [esn, k18]
          intro h2
          refine ⟨1, by omega, rfl, ?_, rfl, rfl, rfl, rfl, rfl, rfl, rfl, rfl, rfl⟩
          rw [wb_i_1.mp h2, Bool.or_true]
          rfl
    · split at hP
      · cases hP
        rename_i hpc
        subst hpc
        obtain ⟨rfl, rfl, rfl, rfl, rfl, rfl, rfl, rfl, rfl, rfl, hmm⟩ := hh
        refine ⟨_, wm_t hT rfl, br, by decide, ?_⟩
        rw [ern, vp_nar_b]
        exact h _ _ (ww_or_W hW) (ww_F_tr (ww_F_tr (ww_F_tr ww_J_F (ww_F_u (by omega))) (ww_F_u (by omega))) (ww_F_i (by omega)))
      · cases hP
theorem ww_star_W {I : Nat → Nat → Int32} {L L2 : Nat → Nat → Int64} {l : ww_s} {x : Nat × nt_A} {b : Bool} (hW : ww_W false I L (x :: l)) (hs : ww_stp L L2 (ww_C (ww_sz (x :: l)) (L 17 l.length) (L 16 l.length)) (fun _ t => L 13 t)) : ww_W false (wv_u I 18 l.length (wb_i (nt_e x.2 || b))) L2 ((x.1, nt_star b x.2) :: l) := by
  obtain ⟨w1, w2, w3, w4, w5⟩ := id hW
  obtain ⟨v1, v2, v4, v5⟩ := w5 rfl
  have esz : ww_sz (x :: l) = nt_n x.2 + ww_sz l := rfl
  rw [esz] at v2
  have hx1 := v4.2.1
  have f16 := v4.2.2.2.2.2.1
  have f17 := v4.2.2.2.2.2.2.1
  have e16 : L2 16 = L 16 := funext (fun j => hs.2.2 16 j (by decide) (by decide))
  have e17 : L2 17 = L 17 := funext (fun j => hs.2.2 17 j (by decide) (by decide))
  have e13 : L2 13 = L 13 := funext (fun j => hs.2.2 13 j (by decide) (by decide))
  have hC : ∀ s t, s < 41 → t < 64 → (ww_C (ww_sz (x :: l)) (L 17 l.length) (L 16 l.length) s t ↔ ∃ p q, p < nt_n x.2 ∧ q < nt_n x.2 ∧ s = 1 + ww_sz l + p ∧ t = 1 + ww_sz l + q ∧ nt_L x.2 p = true ∧ nt_F x.2 q = true) := by
    intro s t h1 h2
    unfold ww_C
    rw [esz]
    constructor
    · rintro ⟨⟨a1, a2, a3⟩, b1, b2, b3⟩
      obtain ⟨p, p1, p2, p3⟩ := (f17 s (by omega)).mp a3
      obtain ⟨q, q1, q2, q3⟩ := (f16 t h2).mp b3
      exact ⟨p, q, p1, q1, p2, q2, p3, q3⟩
    · rintro ⟨p, q, p1, q1, rfl, rfl, p3, q3⟩
      exact ⟨⟨by omega, by omega, (f17 _ (by omega)).mpr ⟨p, p1, rfl, p3⟩⟩, by omega, by omega, (f16 _ h2).mpr ⟨q, q1, rfl, q3⟩⟩
  refine ⟨by rw [wv_u_no _ _ (by omega)]; exact w1, w2, by rw [wv_u_no _ _ (by omega)]; exact w3, ⟨⟨by rw [wv_u_no _ _ (by omega)]; exact w4.1.1, w4.1.2⟩, ww_ws_eq w4.2 (fun k hk => wv_u_no _ _ (by omega))⟩, fun _ => ⟨by rw [wv_u_no _ _ (by omega)]; exact v1, v2, ?_, ?_⟩⟩
  · obtain ⟨p1, p2, p3, p4, p5, p6, p7, p8⟩ := v4
    refine ⟨by rw [wv_u_no _ _ (by omega)]; exact p1, p2, fun s t h1 h2 => ?_, fun s z v h1 h2 h3 h4 => ?_, fun s v h1 h2 => ?_, ?_, ?_, wv_u_at _ _ _ _⟩
    · rw [hs.1 _ t (by have : s < nt_n x.2 := h1; omega) h2, hC _ t (by have : s < nt_n x.2 := h1; omega) h2, p3 s t h1 h2]
      constructor
      · rintro (⟨z, z1, z2, z3⟩ | ⟨p, q, a1, a2, a3, a4, a5, a6⟩)
        · exact ⟨z, z1, z2, nt_or_b.mpr (Or.inl z3)⟩
        · have : p = s := by omega
          subst this
          exact ⟨q, a2, a4, nt_or_b.mpr (Or.inr (nt_and_b.mpr ⟨a5, a6⟩))⟩
      · rintro ⟨z, z1, z2, z3⟩
        rcases nt_or_b.mp z3 with z3 | z3
        · exact Or.inl ⟨z, z1, z2, z3⟩
        · exact Or.inr ⟨s, z, h1, z1, rfl, z2, (nt_and_b.mp z3).1, (nt_and_b.mp z3).2⟩
    · have h1 : s < nt_n x.2 := h1
      have h2 : z < nt_n x.2 := h2
      have m := hs.2.1 (1 + ww_sz l + s) (1 + ww_sz l + z) v (by omega) (by omega) h4
      have hc := hC (1 + ww_sz l + s) (1 + ww_sz l + z) (by omega) (by omega)
      have hE : nb (L 11 (1 + ww_sz l + s)) (1 + ww_sz l + z) = nt_E x.2 s z := nb_eq (by
        rw [p3 s _ h1 (by omega)]
        constructor
        · rintro ⟨z2, a, b, c⟩
          have : z2 = z := by omega
          subst this
          exact c
        · exact fun c => ⟨z, h2, rfl, c⟩)
      show _ = ((nt_E x.2 s z && nt_M x.2 s z v) || (nt_L x.2 s && nt_F x.2 z && nt_H x.2 z v))
      by_cases hlf : (nt_L x.2 s && nt_F x.2 z) = true
      · rw [m.1 (hc.mpr ⟨s, z, h1, h2, rfl, rfl, (nt_and_b.mp hlf).1, (nt_and_b.mp hlf).2⟩), hlf, hE, p5 z v h2 h4]
        by_cases he : nt_E x.2 s z = true
        · rw [p4 s z v h1 h2 he h4]
          rfl
        · rw [Bool.eq_false_iff.mpr he]
          rfl
      · rw [m.2 (fun y => by
          obtain ⟨p, q, a1, a2, a3, a4, a5, a6⟩ := hc.mp y
          have e1 : p = s := by omega
          have e2 : q = z := by omega
          subst e1 e2
          exact hlf (nt_and_b.mpr ⟨a5, a6⟩))]
        have he : nt_E x.2 s z = true := (nt_or_b.mp h3).resolve_right hlf
        rw [p4 s z v h1 h2 he h4, he, Bool.eq_false_iff.mpr hlf]
        simp
    · rw [e13]
      exact p5 s v h1 h2
    · rw [e16]
      exact p6
    · rw [e17]
      exact p7
  · refine ww_ok_eq v5 (fun k hk => ⟨wv_u_no _ _ (by omega), wv_u_no _ _ (by omega), by rw [e16], by rw [e17]⟩) (fun s h1 h2 => ⟨fun t ht => ?_, by rw [e13]⟩) (fun s t h1 h2 h3 h4 v hv => ?_)
    · rw [hs.1 s t (by omega) ht, hC s t (by omega) ht]
      exact ⟨fun z => z.elim id (fun ⟨p, q, a1, a2, a3, _⟩ => by omega), Or.inl⟩
    · refine (hs.2.1 s t v (by omega) (by omega) hv).2 (fun z => ?_)
      obtain ⟨p, q, a1, a2, a3, _⟩ := (hC s t (by omega) (by omega)).mp z
      omega
def ww_h139 (fl b : Bool) (u r : Nat) (ex : Bool) (T : wv_T) (N : Nat) (J : Nat → Nat → Int32) (L : Nat → Nat → Int64) (R : Nat → Nat → Option Nat) : Nat → Option (Nat → wv_P) := fun pc =>
  if pc = 75 then some (fun mm lv st T1 N1 I1 L1 R1 nc ns => lv = [some (.ref 10), some (.int (wb_i b)), none, none] ∧ st = [.int (wb_i (ex || b)), .int (Int32.ofNat r), .ref 18] ∧ T1 = T ∧ N1 = N ∧ I1 = J ∧ R1 = R ∧ nc = 0 ∧ ns = 0 ∧ fl = false ∧ mm = 1 ∧ ww_stp L L1 (ww_C u (L 17 r) (L 16 r)) (fun _ t => L 13 t))
  else none
def ww_c139 : wv_c1 := fun as T N I L R q => ∃ (fl b : Bool) (x : Nat × nt_A) (l : ww_s), as = [.ref 10, .int (wb_i b)] ∧ wm_T T ∧ ww_W fl I L (x :: l) ∧ ∀ I1 L1, ww_W fl I1 L1 ((x.1, nt_star b x.2) :: l) → ww_F I L I1 L1 → q (.inl none) T N I1 L1 R 0 0
set_option maxRecDepth 100000 in
theorem wM_139 : ∃ cb ci np, pt_mt 139 = some (5, cb, 2, false, none, ci, np) := ⟨_, _, _, rfl⟩
set_option maxRecDepth 100000 in
set_option maxHeartbeats 4000000 in
theorem ww_star {sc : pt_Sc} {d : Nat} : wv_C wm_fx sc (d + 1 + 1 + 1) 139 ww_c139 := by
  rintro as T N I L R q ⟨fl, b, x, l, rfl, hT, hW, h⟩ w0 HR
  obtain ⟨cb, ci, np, hm⟩ := wM_139
  have hc140 : wv_C wm_fx sc (d + 1 + 1) 140 ww_c140 := wv_C_deep (by omega) (ww_addSteps (d := d))
  refine wv_meth (hh := none) rfl (sp := wv_sp [(140, ww_c140)]) (hd := ww_h139 fl b (ww_sz (x :: l)) l.length (nt_e x.2) T N I L R) (n := 300) (n1 := 300) hm zc_139 rfl (wv_sp_ok (fun q hq => by rw [List.mem_singleton.mp hq]; exact hc140)) ?_ ?_ HR
  · obtain ⟨w1, w2, w3, w4, w5⟩ := id hW
    rw [List.length_cons] at w1 w2
    have el := wi_on (n := l.length + 1) (by omega)
    have e1 := wi_s1 (a := l.length + 1) (by omega) (by omega)
    rw [Nat.add_sub_cancel] at e1
    have er := wi_on (n := l.length) (by omega)
    have ern := wi_onn (n := l.length) (by omega)
    refine ⟨fun h1 => ?_, fun h1 => ?_⟩
    · rw [w3, wb_i_1] at h1
      subst h1
      exact h I L ⟨by rw [List.length_cons]; exact w1, by rw [List.length_cons]; exact w2, w3, w4, fun z => (by cases z)⟩ ⟨fun _ _ _ _ => rfl, fun _ _ _ => rfl⟩
    · rw [w3, wb_i_2] at h1
      subst h1
      obtain ⟨v1, v2, v4, v5⟩ := w5 rfl
      refine ⟨fun h2 => ?_, fun h2 => ?_⟩
      · have br : 0 ≤ I 10 8 - Int32.ofInt 1 ∧ (I 10 8 - Int32.ofInt 1).toInt < (201 : Nat) := by rw [w1, e1, wi_le, er, wi_0]; omega
        refine ⟨_, wm_t hT rfl, br, _, wm_t hT rfl, br, ?_⟩
        rw [w1, e1, ern]
        refine ⟨_, _, _, rfl, hT, v1, v2, fun L2 hs => ?_⟩
        refine ⟨2, _, Or.inl rfl, wm_t hT rfl, br, ?_, ?_⟩
        · rw [w1, e1, ern, v4.2.2.2.2.2.2.2]
          intro h3
          refine ⟨1, rfl, ?_, rfl, rfl, rfl, rfl, rfl, rfl, rfl, rfl, hs⟩
          rw [wb_i_1.mp h3]
          rfl
        · rw [w1, e1, ern, v4.2.2.2.2.2.2.2]
          intro h3
          refine ⟨fun h4 => ?_, fun h4 => ?_⟩
          · refine ⟨1, rfl, ?_, rfl, rfl, rfl, rfl, rfl, rfl, rfl, rfl, hs⟩
            rw [wb_i_2.mp h3, wb_i_0.mp h4]
            rfl
          · refine ⟨1, rfl, ?_, rfl, rfl, rfl, rfl, rfl, rfl, rfl, rfl, hs⟩
            rw [wb_i_1.mp h4, Bool.or_true]
            rfl
      · rw [w1, wi_le, el, show (Int32.ofInt 1).toInt = 1 from rfl] at h2
        omega
  · intro pc P hP m lv st T1 N1 I1 L1 R1 nc ns hh
    have hw2 := hW.2.1
    rw [List.length_cons] at hw2
    have er := wi_on (n := l.length) (by omega)
    have ern := wi_onn (n := l.length) (by omega)
    unfold ww_h139 at hP
    split at hP
    · cases hP
      rename_i hpc
      subst hpc
      obtain ⟨rfl, rfl, rfl, rfl, rfl, rfl, rfl, rfl, rfl, hmm, hs⟩ := hh
      refine ⟨_, wm_t hT rfl, by rw [wi_le, er, wi_0]; omega, by decide, ?_⟩
      rw [ern, vp_nar_b]
      exact h _ _ (ww_star_W hW hs) (ww_F_tr (ww_F_st hs) (ww_F_i (by omega)))
    · cases hP
