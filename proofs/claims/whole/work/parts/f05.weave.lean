/-! ===== the class weaves: one behind the other, one of two ===== -/
theorem vp_nar_b (b : Bool) : vp_nar .boolean (wb_i b) = wb_i b := by cases b <;> rfl
/-- the pieces' numbers behind a merge -/
def ww_J (I : Nat → Nat → Int32) (l : ww_s) (w : Nat) : Nat → Nat → Int32 := wv_u (wv_u I 10 8 (Int32.ofNat (l.length + 1))) 14 l.length (Int32.ofNat (min w 1000))
theorem ww_J_no {I : Nat → Nat → Int32} {l : ww_s} {w c j : Nat} (h : ¬ (c = 10 ∧ j = 8)) (h2 : ¬ c = 14) : ww_J I l w c j = I c j := by
  unfold ww_J
  rw [wv_u_no _ _ (fun z => h2 z.1), wv_u_no _ _ h]
theorem ww_J_8 {I : Nat → Nat → Int32} {l : ww_s} {w : Nat} : ww_J I l w 10 8 = Int32.ofNat (l.length + 1) := by
  unfold ww_J
  rw [wv_u_no _ _ (by omega), wv_u_at]
theorem ww_J_F {I : Nat → Nat → Int32} {L : Nat → Nat → Int64} {l : ww_s} {w : Nat} : ww_F I L (ww_J I l w) L := ⟨fun c j a b => ww_J_no (by omega) (by omega), fun _ _ _ => rfl⟩
theorem ww_J_ws {I I1 : Nat → Nat → Int32} {L : Nat → Nat → Int64} {fl : Bool} {l : ww_s} {x y : Nat × nt_A} {w : Nat} (A : nt_A) (hW : ww_W fl I L (y :: x :: l)) (h14 : ∀ k, I1 14 k = ww_J I l w 14 k) : ww_ws I1 ((min w 1000, A) :: l) := by
  refine ⟨⟨by rw [h14]; exact wv_u_at _ _ _ _, Nat.min_le_right _ _⟩, ww_ws_eq hW.2.2.2.1.2.2 (fun k hk => ?_)⟩
  rw [h14]
  unfold ww_J
  rw [wv_u_no _ _ (by omega), wv_u_no _ _ (by omega)]
/-- a full weaver merges weights alone -/
theorem ww_full {I : Nat → Nat → Int32} {L : Nat → Nat → Int64} {l : ww_s} {x y : Nat × nt_A} {w : Nat} (A : nt_A) (hW : ww_W true I L (y :: x :: l)) : ww_W true (ww_J I l w) L ((min w 1000, A) :: l) := by
  have h2 := hW.2.1
  rw [List.length_cons, List.length_cons] at h2
  refine ⟨ww_J_8, by rw [List.length_cons]; omega, ?_, ww_J_ws A hW (fun _ => rfl), fun h => by cases h⟩
  rw [ww_J_no (by omega) (by decide)]
  exact hW.2.2.1
theorem ww_F_tr {I J K : Nat → Nat → Int32} {L M P : Nat → Nat → Int64} (h : ww_F I L J M) (h2 : ww_F J M K P) : ww_F I L K P := ⟨fun c j a b => by rw [h2.1 c j a b, h.1 c j a b], fun c j a => by rw [h2.2 c j a, h.2 c j a]⟩
theorem ww_F_st {I : Nat → Nat → Int32} {L L1 : Nat → Nat → Int64} {C : Nat → Nat → Prop} {hd : Nat → Nat → Int64} (h : ww_stp L L1 C hd) : ww_F I L I L1 := ⟨fun _ _ _ _ => rfl, fun c j a => h.2.2 c j (by omega) (by omega)⟩
theorem ww_F_u {I : Nat → Nat → Int32} {L : Nat → Nat → Int64} {c k : Nat} {x : Int64} (h : c = 13 ∨ c = 16 ∨ c = 17) : ww_F I L I (wv_u L c k x) := ⟨fun _ _ _ _ => rfl, fun c2 j a => wv_u_no _ _ (by omega)⟩
theorem ww_F_i {I : Nat → Nat → Int32} {L : Nat → Nat → Int64} {c k : Nat} {x : Int32} (h : c = 14 ∨ c = 15 ∨ c = 18 ∨ (c = 10 ∧ 8 ≤ k ∧ k ≤ 10)) : ww_F I L (wv_u I c k x) L := ⟨fun c2 j a b => wv_u_no _ _ (by omega), fun _ _ _ => rfl⟩
theorem nb_ite {b : Bool} {x : Int64} {t : Nat} : nb (if b = true then x else 0) t = true ↔ b = true ∧ nb x t = true := by
  cases b
  · rw [if_neg (by decide), nb_0]
    exact ⟨fun h => (by cases h), fun h => (by cases h.1)⟩
  · rw [if_pos rfl]
    exact ⟨fun h => ⟨rfl, h⟩, fun h => h.2⟩
def ww_l3 (r : Nat) : List (Option Value) := [some (.ref 10), some (.int (Int32.ofNat r)), some (.int (Int32.ofNat (r + 1))), none]
def ww_h149 (fl : Bool) (u r : Nat) (ex ey : Bool) (T : wv_T) (N : Nat) (J : Nat → Nat → Int32) (L : Nat → Nat → Int64) (R : Nat → Nat → Option Nat) : Nat → Option (Nat → wv_P) := fun pc =>
  if pc = 24 then some (fun mm lv st T1 N1 I1 L1 R1 nc ns => lv = ww_l3 r ∧ st = [] ∧ T1 = T ∧ N1 = N ∧ I1 = J ∧ L1 = L ∧ R1 = R ∧ nc = 0 ∧ ns = 0 ∧ fl = false ∧ mm = 4)
  else if pc = 66 then some (fun mm lv st T1 N1 I1 L1 R1 nc ns => lv = ww_l3 r ∧ st = [.long (if ex = true then L1 16 (r + 1) else 0), .long (L1 16 r), .int (Int32.ofNat r), .ref 16] ∧ T1 = T ∧ N1 = N ∧ I1 = J ∧ R1 = R ∧ nc = 0 ∧ ns = 0 ∧ fl = false ∧ mm = 3 ∧ ww_stp L L1 (ww_C u (L 17 r) (L 16 (r + 1))) (fun _ t => L 13 t))
  else if pc = 98 then some (fun mm lv st T1 N1 I1 L1 R1 nc ns => ∃ L2, lv = ww_l3 r ∧ st = [.long (if ey = true then L2 17 r else 0), .long (L2 17 (r + 1)), .int (Int32.ofNat r), .ref 17] ∧ T1 = T ∧ N1 = N ∧ I1 = J ∧ L1 = wv_u L2 16 r (L2 16 r ||| (if ex = true then L2 16 (r + 1) else 0)) ∧ R1 = R ∧ nc = 0 ∧ ns = 0 ∧ fl = false ∧ mm = 2 ∧ ww_stp L L2 (ww_C u (L 17 r) (L 16 (r + 1))) (fun _ t => L 13 t))
  else if pc = 128 then some (fun mm lv st T1 N1 I1 L1 R1 nc ns => ∃ L2, lv = ww_l3 r ∧ st = [.int (wb_i (ex && ey)), .int (Int32.ofNat r), .ref 18] ∧ T1 = T ∧ N1 = N ∧ I1 = J ∧ L1 = wv_u (wv_u L2 16 r (L2 16 r ||| (if ex = true then L2 16 (r + 1) else 0))) 17 r (L2 17 (r + 1) ||| (if ey = true then L2 17 r else 0)) ∧ R1 = R ∧ nc = 0 ∧ ns = 0 ∧ fl = false ∧ mm = 1 ∧ ww_stp L L2 (ww_C u (L 17 r) (L 16 (r + 1))) (fun _ t => L 13 t))
  else none
/-- the piece that comes of two -/
theorem ww_chain_W {I : Nat → Nat → Int32} {L L2 : Nat → Nat → Int64} {l : ww_s} {x y : Nat × nt_A} {w : Nat} (hW : ww_W false I L (y :: x :: l)) (hs : ww_stp L L2 (ww_C (ww_sz (y :: x :: l)) (L 17 l.length) (L 16 (l.length + 1))) (fun _ t => L 13 t)) :
    ww_W false (wv_u (ww_J I l w) 18 l.length (wb_i (nt_e x.2 && nt_e y.2))) (wv_u (wv_u L2 16 l.length (L2 16 l.length ||| (if nt_e x.2 = true then L2 16 (l.length + 1) else 0))) 17 l.length (L2 17 (l.length + 1) ||| (if nt_e y.2 = true then L2 17 l.length else 0))) ((min w 1000, nt_chain x.2 y.2) :: l) := by
  obtain ⟨w1, w2, w3, w4, w5⟩ := id hW
  obtain ⟨v1, v2, v3, v4, v5⟩ := w5 rfl
  have esz : ww_sz (y :: x :: l) = nt_n y.2 + (nt_n x.2 + ww_sz l) := rfl
  have es1 : ww_sz (x :: l) = nt_n x.2 + ww_sz l := rfl
  rw [List.length_cons, List.length_cons] at w2
  rw [List.length_cons, es1, show 1 + (nt_n x.2 + ww_sz l) = 1 + ww_sz l + nt_n x.2 by omega] at v3
  rw [esz] at v2
  have hx1 := v4.2.1
  have hy1 := v3.2.1
  have e16 : L2 16 = L 16 := funext (fun j => hs.2.2 16 j (by decide) (by decide))
  have e17 : L2 17 = L 17 := funext (fun j => hs.2.2 17 j (by decide) (by decide))
  have e13 : L2 13 = L 13 := funext (fun j => hs.2.2 13 j (by decide) (by decide))
  refine ⟨by rw [wv_u_no _ _ (by omega)]; exact ww_J_8, by rw [List.length_cons]; omega, by rw [wv_u_no _ _ (by omega), ww_J_no (by omega) (by decide)]; exact w3, ww_J_ws _ hW (fun k => wv_u_no _ _ (by omega)), fun _ => ⟨?_, ?_, ?_, ?_⟩⟩
  · rw [wv_u_no _ _ (by omega), ww_J_no (by omega) (by decide), v1, esz]
    show Int32.ofNat _ = Int32.ofNat (nt_n x.2 + nt_n y.2 + ww_sz l)
    congr 1
    omega
  · show nt_n x.2 + nt_n y.2 + ww_sz l ≤ 40
    omega
  · -- the piece
    have f16 := v4.2.2.2.2.2.1
    have f17 := v4.2.2.2.2.2.2.1
    have g16 := v3.2.2.2.2.2.1
    have g17 := v3.2.2.2.2.2.2.1
    have hside := ww_side (X := fun s t => nt_L x.2 s && nt_F y.2 t) (Y := fun _ t v => nt_H y.2 t v) v4 v3 (by omega) hs (fun s t h1 h2 => ?_) (fun a b v h1 h2 h3 h4 => ?_)
    · refine ⟨by rw [wv_u_no _ _ (by omega), ww_J_no (by omega) (by decide)]; exact v4.1, by show 1 ≤ nt_n x.2 + nt_n y.2; omega, fun s t h1 h2 => ?_, fun s z v h1 h2 h3 h4 => ?_, fun s v h1 h2 => ?_, ?_, ?_, wv_u_at _ _ _ _⟩
      · rw [wv_u_no _ _ (by omega), wv_u_no _ _ (by omega)]
        exact hside.1 s t h1 h2
      · rw [wv_u_no _ _ (by omega), wv_u_no _ _ (by omega)]
        exact hside.2 s z v h1 h2 h3 h4
      · rw [wv_u_no _ _ (by omega), wv_u_no _ _ (by omega), e13]
        exact ww_sideH v4 v3 s v h1 h2
      · rw [wv_u_no _ _ (by omega), wv_u_at, e16]
        refine ww_set (bx := true) (b2 := nt_e x.2) f16 g16 (fun t _ => ?_) (fun s hs => ?_) (fun s hs => ?_)
        · rw [nb_or, nt_or_b, nb_ite]
          exact ⟨fun z => z.elim (fun z => Or.inl ⟨rfl, z⟩) Or.inr, fun z => z.elim (fun z => Or.inl z.2) Or.inr⟩
        · show (if s < nt_n x.2 then nt_F x.2 s else _) = true ↔ _
          rw [if_pos hs]
          exact ⟨fun z => ⟨rfl, z⟩, fun z => z.2⟩
        · show (if nt_n x.2 + s < nt_n x.2 then _ else nt_e x.2 && nt_F y.2 (nt_n x.2 + s - nt_n x.2)) = true ↔ _
          rw [if_neg (by omega), Nat.add_sub_cancel_left, nt_and_b]
      · rw [wv_u_at, e17]
        refine ww_set (bx := nt_e y.2) (b2 := true) f17 g17 (fun t _ => ?_) (fun s hs => ?_) (fun s hs => ?_)
        · rw [nb_or, nt_or_b, nb_ite]
          exact ⟨fun z => z.elim (fun z => Or.inr ⟨rfl, z⟩) Or.inl, fun z => z.elim Or.inr (fun z => Or.inl z.2)⟩
        · show (if s < nt_n x.2 then nt_e y.2 && nt_L x.2 s else _) = true ↔ _
          rw [if_pos hs, nt_and_b]
        · show (if nt_n x.2 + s < nt_n x.2 then _ else nt_L y.2 (nt_n x.2 + s - nt_n x.2)) = true ↔ _
          rw [if_neg (by omega), Nat.add_sub_cancel_left]
          exact ⟨fun z => ⟨rfl, z⟩, fun z => z.2⟩
    · unfold ww_C
      rw [esz]
      constructor
      · rintro ⟨⟨a1, a2, a3⟩, b1, b2, b3⟩
        obtain ⟨p, p1, p2, p3⟩ := (f17 s (by omega)).mp a3
        obtain ⟨q, q1, q2, q3⟩ := (g16 t h2).mp b3
        exact ⟨p, q, p1, q1, p2, q2, nt_and_b.mpr ⟨p3, q3⟩⟩
      · rintro ⟨p, q, p1, q1, rfl, rfl, p3⟩
        have := nt_and_b.mp p3
        exact ⟨⟨by omega, by omega, (f17 _ (by omega)).mpr ⟨p, p1, rfl, this.1⟩⟩, by omega, by omega, (g16 _ h2).mpr ⟨q, q1, rfl, this.2⟩⟩
    · exact v3.2.2.2.2.1 b v h2 h4
  · refine ww_ok_eq v5 (fun k hk => ⟨by rw [wv_u_no _ _ (by omega), ww_J_no (by omega) (by decide)], by rw [wv_u_no _ _ (by omega), ww_J_no (by omega) (by decide)], by rw [wv_u_no _ _ (by omega), wv_u_no _ _ (by omega), e16], by rw [wv_u_no _ _ (by omega), wv_u_no _ _ (by omega), e17]⟩) (fun s h1 h2 => ⟨fun t ht => ?_, ?_⟩) (fun s t h1 h2 h3 h4 v hv => ?_)
    · rw [wv_u_no _ _ (by omega), wv_u_no _ _ (by omega), hs.1 s t (by omega) ht]
      exact ⟨fun z => z.elim id (fun z => by
        obtain ⟨p, p1, p2, _⟩ := (v4.2.2.2.2.2.2.1 s (by omega)).mp z.1.2.2
        omega), Or.inl⟩
    · rw [wv_u_no _ _ (by omega), wv_u_no _ _ (by omega), e13]
    · rw [wv_u_no _ _ (by omega), wv_u_no _ _ (by omega)]
      refine (hs.2.1 s t v (by omega) (by omega) hv).2 (fun z => ?_)
      obtain ⟨p, p1, p2, _⟩ := (v4.2.2.2.2.2.2.1 s (by omega)).mp z.1.2.2
      omega
def ww_c149 : wv_c1 := fun as T N I L R q => ∃ (fl : Bool) (x y : Nat × nt_A) (l : ww_s), as = [.ref 10] ∧ wm_T T ∧ ww_W fl I L (y :: x :: l) ∧ ∀ I1 L1, ww_W fl I1 L1 ((min (y.1 + x.1) 1000, nt_chain x.2 y.2) :: l) → ww_F I L I1 L1 → q (.inl none) T N I1 L1 R 0 0
set_option maxRecDepth 100000 in
theorem wM_149 : ∃ cb ci np, pt_mt 149 = some (5, cb, 3, false, none, ci, np) := ⟨_, _, _, rfl⟩
set_option maxRecDepth 100000 in
set_option maxHeartbeats 4000000 in
theorem ww_chain {sc : pt_Sc} {d : Nat} : wv_C wm_fx sc (d + 1 + 1 + 1) 149 ww_c149 := by
  rintro as T N I L R q ⟨fl, x, y, l, rfl, hT, hW, h⟩ w0 HR
  obtain ⟨cb, ci, np, hm⟩ := wM_149
  have hc150 : wv_C wm_fx sc (d + 1 + 1) 150 ww_c150 := wv_C_deep (by omega) (ww_together (d := d))
  have hc151 : wv_C wm_fx sc (d + 1 + 1) 151 ww_c151 := wv_C_deep (by omega) (ww_mergeTwo (d := d))
  have hc140 : wv_C wm_fx sc (d + 1 + 1) 140 ww_c140 := wv_C_deep (by omega) (ww_addSteps (d := d))
  refine wv_meth (hh := none) rfl (sp := wv_sp [(150, ww_c150), (151, ww_c151), (140, ww_c140)]) (hd := ww_h149 fl (ww_sz (y :: x :: l)) l.length (nt_e x.2) (nt_e y.2) T N (ww_J I l (y.1 + x.1)) L R) (n := 300) (n1 := 300) hm zc_149 rfl (wv_sp_ok (fun q hq => by
    rcases List.mem_cons.mp hq with h | h
    · rw [h]; exact hc150
    rcases List.mem_cons.mp h with h | h
    · rw [h]; exact hc151
    rw [List.mem_singleton.mp h]; exact hc140)) ?_ ?_ HR
  · have hw2 := hW.2.1
    rw [List.length_cons, List.length_cons] at hw2
    have hwx := hW.2.2.2.1.1.2
    have hwy := hW.2.2.2.1.2.1.2
    refine ⟨fl, x, y, l, rfl, hT, hW, ?_⟩
    refine ⟨fl, y.1 + x.1, x, y, l, rfl, hT, hW, by omega, ?_⟩
    refine ⟨fun h1 => ?_, fun h1 => ?_⟩
    · have hfl : fl = false := by
        have := wb_i_1.mp h1
        cases fl
        · rfl
        · cases this
      refine ⟨4, ?_, rfl, rfl, rfl, rfl, rfl, rfl, rfl, rfl, hfl, rfl⟩
      have e8 : ww_J I l (y.1 + x.1) 10 8 = Int32.ofNat (l.length + 1) := ww_J_8
      have e8m := wi_s1 (a := l.length + 1) (by omega) (by omega)
      rw [Nat.add_sub_cancel] at e8m
      show _ = ww_l3 l.length
      unfold ww_l3
      rw [← e8m, ← e8]
      rfl
    · have hfl : fl = true := by
        have := wb_i_2.mp h1
        cases fl
        · cases this
        · rfl
      subst hfl
      exact h _ L (ww_full _ hW) ww_J_F
  · intro pc P hP m lv st T1 N1 I1 L1 R1 nc ns hh
    have hw2 := hW.2.1
    rw [List.length_cons, List.length_cons] at hw2
    have er := wi_on (n := l.length) (by omega)
    have ern := wi_onn (n := l.length) (by omega)
    have es := wi_on (n := l.length + 1) (by omega)
    have esn := wi_onn (n := l.length + 1) (by omega)
    have br : 0 ≤ Int32.ofNat l.length ∧ (Int32.ofNat l.length).toInt < (201 : Nat) := by rw [wi_le, er, wi_0]; omega
    have bs : 0 ≤ Int32.ofNat (l.length + 1) ∧ (Int32.ofNat (l.length + 1)).toInt < (201 : Nat) := by rw [wi_le, es, wi_0]; omega
    unfold ww_h149 at hP
    split at hP
    · cases hP
      rename_i hpc
      subst hpc
      obtain ⟨rfl, rfl, rfl, rfl, rfl, rfl, rfl, rfl, rfl, rfl, hmm⟩ := hh
      have j18 : ww_J I l (y.1 + x.1) 18 l.length = wb_i (nt_e x.2) := by rw [ww_J_no (by omega) (by decide)]; exact (hW.2.2.2.2 rfl).2.2.2.1.2.2.2.2.2.2.2
      refine ⟨_, wm_t hT rfl, br, _, wm_t hT rfl, bs, ?_⟩
      rw [ern, esn]
      refine ⟨_, _, _, rfl, hT, by rw [ww_J_no (by omega) (by decide)]; exact (hW.2.2.2.2 rfl).1, (hW.2.2.2.2 rfl).2.1, fun L2 hs => ?_⟩
      refine ⟨_, wm_t hT rfl, br, 2, _, Or.inl rfl, wm_t hT rfl, br, ?_, ?_⟩
      · rw [ern, j18]
        intro h1
        refine ⟨3, by omega, rfl, ?_, rfl, rfl, rfl, rfl, rfl, rfl, rfl, rfl, hs⟩
        rw [wb_i_0.mp h1]
        rfl
      · rw [ern, j18]
        intro h1
        refine ⟨_, wm_t hT rfl, bs, 3, by omega, rfl, ?_, rfl, rfl, rfl, rfl, rfl, rfl, rfl, rfl, hs⟩
        rw [wb_i_1.mp h1, esn]
        rfl
    · split at hP
      · cases hP
        rename_i hpc
        subst hpc
        obtain ⟨rfl, rfl, rfl, rfl, rfl, rfl, rfl, rfl, rfl, hmm, hs⟩ := hh
        have j18 : ww_J I l (y.1 + x.1) 18 (l.length + 1) = wb_i (nt_e y.2) := by rw [ww_J_no (by omega) (by decide)]; exact (hW.2.2.2.2 rfl).2.2.1.2.2.2.2.2.2.2
        refine ⟨_, wm_t hT rfl, br, by decide, ?_⟩
        rw [ern]
        refine ⟨_, wm_t hT rfl, bs, 2, _, Or.inl rfl, wm_t hT rfl, bs, ?_, ?_⟩
        · rw [esn, j18]
          intro h1
          refine ⟨2, by omega, L1, rfl, ?_, rfl, rfl, rfl, rfl, rfl, rfl, rfl, rfl, rfl, hs⟩
          rw [wb_i_0.mp h1, wv_u_no _ _ (by omega)]
          rfl
        · rw [esn, j18]
          intro h1
          refine ⟨_, wm_t hT rfl, br, 2, by omega, L1, rfl, ?_, rfl, rfl, rfl, rfl, rfl, rfl, rfl, rfl, rfl, hs⟩
          rw [wb_i_1.mp h1, ern, wv_u_no _ _ (by omega), wv_u_no _ _ (by omega)]
          rfl
      · split at hP
        · cases hP
          rename_i hpc
          subst hpc
          obtain ⟨L2, rfl, rfl, rfl, rfl, rfl, rfl, rfl, rfl, rfl, rfl, hmm, hs⟩ := hh
          have j18 : ww_J I l (y.1 + x.1) 18 l.length = wb_i (nt_e x.2) := by rw [ww_J_no (by omega) (by decide)]; exact (hW.2.2.2.2 rfl).2.2.2.1.2.2.2.2.2.2.2
          have k18 : ww_J I l (y.1 + x.1) 18 (l.length + 1) = wb_i (nt_e y.2) := by rw [ww_J_no (by omega) (by decide)]; exact (hW.2.2.2.2 rfl).2.2.1.2.2.2.2.2.2.2
          refine ⟨_, wm_t hT rfl, br, by decide, ?_⟩
          rw [ern]
          refine ⟨2, _, Or.inl rfl, wm_t hT rfl, br, ?_, ?_⟩
          · rw [ern, j18]
            intro h1
            refine ⟨1, by omega, L2, rfl, ?_, rfl, rfl, rfl, rfl, rfl, rfl, rfl, rfl, rfl, hs⟩
            rw [wb_i_0.mp h1]
            rfl
          · rw [ern, j18]
            intro h1
            refine ⟨2, _, Or.inl rfl, wm_t hT rfl, bs, ?_, ?_⟩
            · rw [esn, k18]
              intro h2
              refine ⟨1, by omega, L2, rfl, ?_, rfl, rfl, rfl, rfl, rfl, rfl, rfl, rfl, rfl, hs⟩
              rw [wb_i_0.mp h2, Bool.and_false]
              rfl
            · rw [esn, k18]
              intro h2
              refine ⟨1, by omega, L2, rfl, ?_, rfl, rfl, rfl, rfl, rfl, rfl, rfl, rfl, rfl, hs⟩
              rw [wb_i_1.mp h1, wb_i_1.mp h2]
              rfl
        · split at hP
          · cases hP
            rename_i hpc
            subst hpc
            obtain ⟨L2, rfl, rfl, rfl, rfl, rfl, rfl, rfl, rfl, rfl, rfl, hmm, hs⟩ := hh
            refine ⟨_, wm_t hT rfl, br, by decide, ?_⟩
            rw [ern, vp_nar_b]
            exact h _ _ (ww_chain_W hW hs) (ww_F_tr (ww_F_tr (ww_F_tr (ww_F_tr ww_J_F (ww_F_st hs)) (ww_F_u (by omega))) (ww_F_u (by omega))) (ww_F_i (by omega)))
          · cases hP
