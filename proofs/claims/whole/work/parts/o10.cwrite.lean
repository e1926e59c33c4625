/-! ===== the class: a design is written ===== -/
/-- the class holds a design's numbers -/
def tw_N (C : Nat) (a b g : Nat) (nx : Nat → Nat) (fi : Nat → Bool) (sg on tw : Nat → Nat) (I : Nat → Nat → Int32) : Prop := I C 8 = Int32.ofNat a ∧ I C 9 = Int32.ofNat b ∧ I C 10 = Int32.ofNat g ∧ (∀ i, i < b → I (C + 3) i = Int32.ofNat (nx i) ∧ I (C + 4) i = wb_i (fi i)) ∧ (∀ i, i < 6 → I (C + 5) i = Int32.ofNat (sg i)) ∧ ∀ i, i < g → I (C + 1) i = Int32.ofNat (on i) ∧ I (C + 2) i = Int32.ofNat (tw i)
def wr_P (C B V : Nat) (T : wv_T) (N : Nat) (I : Nat → Nat → Int32) (R : Nat → Nat → Option Nat) : Prop := wd_D T R C ∧ R C 6 = some B ∧ C + 6 < N ∧ N + 20000 < 1000000000 ∧ bu_T T I ∧ (∀ k, k ≤ 6 → ¬ C + k = B ∧ ¬ C + k = V) ∧ B < 1099511627776 ∧ V < 1099511627776
def wr_F (C B : Nat) (a b g : Nat) (nx : Nat → Nat) (fi : Nat → Bool) (sg on tw : Nat → Nat) (T : wv_T) (N : Nat) (I : Nat → Nat → Int32) (R : Nat → Nat → Option Nat) : Prop := wd_D T R C ∧ R C 6 = some B ∧ C < N ∧ ¬ C = B ∧ N + 6000 < 1000000000 ∧ bu_T T I ∧ tw_N C a b g nx fi sg on tw I
theorem wr_now {C B V cap V1 cap1 n1 s1 : Nat} {a b g : Nat} {nx : Nat → Nat} {fi : Nat → Bool} {sg on tw : Nat → Nat} {T : wv_T} {N : Nat} {I : Nat → Nat → Int32} {L : Nat → Nat → Int64} {R : Nat → Nat → Option Nat} {T1 : wv_T} {N1 : Nat} {I1 : Nat → Nat → Int32} {L1 : Nat → Nat → Int64} {R1 : Nat → Nat → Option Nat} {z : List Nat} (hP : wr_P C B V T N I R) (hN : tw_N C a b g nx fi sg on tw I) (hD : bu_D T1 I1 R1 B V1 cap1 z) (hG : bu_G B V cap T N I L R V1 cap1 T1 N1 I1 L1 R1 n1 s1) : wr_F C B a b g nx fi sg on tw T1 N1 I1 R1 := by
  have hn := bu_nb hG hD.1.2.2.2.2.2.1
  obtain ⟨⟨d1, d2, d3, d4, d5, d6, d7, d8⟩, p2, p3, p4, p5, p6, p7, p8⟩ := hP
  have hT := bu_T_G hG p7 p8 (by omega) p5
  obtain ⟨g1, g2, _, _, _, g6, _, _, g9⟩ := hG
  have c0 := p6 0 (by omega)
  have c1 := p6 1 (by omega)
  have c2 := p6 2 (by omega)
  have c3 := p6 3 (by omega)
  have c4 := p6 4 (by omega)
  have c5 := p6 5 (by omega)
  obtain ⟨n1, n2, n3, n4, n5, n6⟩ := hN
  refine ⟨⟨g1 _ _ d1, fun k hk => (g9 _ _ (by omega) (by omega)).trans (d2 k hk), g1 _ _ d3, g1 _ _ d4, g1 _ _ d5, g1 _ _ d6, g1 _ _ d7, g1 _ _ d8⟩, (g9 _ _ (by omega) (by omega)).trans p2, by omega, by omega, by omega, hT, (g6 _ _ (by omega) (by omega) (by omega)).trans n1, (g6 _ _ (by omega) (by omega) (by omega)).trans n2, (g6 _ _ (by omega) (by omega) (by omega)).trans n3, fun i hi => ⟨(g6 _ _ (by omega) (by omega) (by omega)).trans (n4 i hi).1, (g6 _ _ (by omega) (by omega) (by omega)).trans (n4 i hi).2⟩, fun i hi => (g6 _ _ (by omega) (by omega) (by omega)).trans (n5 i hi), fun i hi => ⟨(g6 _ _ (by omega) (by omega) (by omega)).trans (n6 i hi).1, (g6 _ _ (by omega) (by omega) (by omega)).trans (n6 i hi).2⟩⟩
theorem bu_G_e {B V cap V1 cap1 n1 s1 n2 s2 : Nat} {T : wv_T} {N : Nat} {I : Nat → Nat → Int32} {L : Nat → Nat → Int64} {R : Nat → Nat → Option Nat} {T1 : wv_T} {N1 : Nat} {I1 : Nat → Nat → Int32} {L1 : Nat → Nat → Int64} {R1 : Nat → Nat → Option Nat} (h : bu_G B V cap T N I L R V1 cap1 T1 N1 I1 L1 R1 n1 s1) (e1 : n1 = n2) (e2 : s1 = s2) : bu_G B V cap T N I L R V1 cap1 T1 N1 I1 L1 R1 n2 s2 := by
  rw [← e1, ← e2]
  exact h
/-- under way: the signs z are written -/
def wr_W (B V cap : Nat) (T : wv_T) (N : Nat) (I : Nat → Nat → Int32) (L : Nat → Nat → Int64) (R : Nat → Nat → Option Nat) (z : List Nat) (T1 : wv_T) (N1 : Nat) (I1 : Nat → Nat → Int32) (L1 : Nat → Nat → Int64) (R1 : Nat → Nat → Option Nat) (n1 s1 : Nat) : Prop := ∃ V1 cap1, bu_D T1 I1 R1 B V1 cap1 z ∧ bu_G B V cap T N I L R V1 cap1 T1 N1 I1 L1 R1 n1 s1
def wr_l (C i : Nat) : List (Option Value) := [some (.ref C), some (.int (Int32.ofNat i)), none]
def wr_h243 (C B V cap : Nat) (a b g : Nat) (nx : Nat → Nat) (fi : Nat → Bool) (sg on tw : Nat → Nat) (T : wv_T) (N : Nat) (I : Nat → Nat → Int32) (L : Nat → Nat → Int64) (R : Nat → Nat → Option Nat) : Nat → Option (Nat → wv_P) := fun pc =>
  if pc = 68 then some (fun mm lv st T1 N1 I1 L1 R1 nc ns => ∃ i : Nat, lv = wr_l C i ∧ st = [] ∧ i ≤ a ∧ wr_W B V cap T N I L R (tw_h a b g ++ tw_f tw_i i) T1 N1 I1 L1 R1 nc ns ∧ mm = 400 - i)
  else if pc = 93 then some (fun mm lv st T1 N1 I1 L1 R1 nc ns => ∃ i : Nat, lv = wr_l C i ∧ st = [] ∧ i ≤ b ∧ wr_W B V cap T N I L R (tw_h a b g ++ tw_f tw_i a ++ tw_f (tw_la a nx fi) i) T1 N1 I1 L1 R1 nc ns ∧ mm = 300 - i)
  else if pc = 146 then some (fun mm lv st T1 N1 I1 L1 R1 nc ns => ∃ i : Nat, lv = wr_l C i ∧ st = [] ∧ i ≤ 6 ∧ wr_W B V cap T N I L R (tw_h a b g ++ tw_f tw_i a ++ tw_f (tw_la a nx fi) b ++ tw_f (tw_sg sg) i) T1 N1 I1 L1 R1 nc ns ∧ mm = 200 - i)
  else if pc = 170 then some (fun mm lv st T1 N1 I1 L1 R1 nc ns => ∃ i : Nat, lv = wr_l C i ∧ st = [] ∧ i ≤ g ∧ wr_W B V cap T N I L R (tw_h a b g ++ tw_f tw_i a ++ tw_f (tw_la a nx fi) b ++ tw_f (tw_sg sg) 6 ++ tw_f (tw_ga a b on tw) i) T1 N1 I1 L1 R1 nc ns ∧ mm = 100 - i)
  else none
def wr_c243 : wv_c1 := fun as T N I L R q => ∃ (C B V cap : Nat) (z : List Nat) (a b g : Nat) (nx : Nat → Nat) (fi : Nat → Bool) (sg on tw : Nat → Nat), as = [.ref C] ∧ wr_P C B V T N I R ∧ tw_V a b g nx fi sg on tw ∧ tw_N C a b g nx fi sg on tw I ∧ wt_s T I R 1099511627796 1099511627797 [97, 97, 103] ∧ bu_D T I R B V cap z ∧ ∀ V1 cap1 T1 N1 I1 L1 R1 n1 s1, bu_D T1 I1 R1 B V1 cap1 (tw_T a b g nx fi sg on tw) → bu_G B V cap T N I L R V1 cap1 T1 N1 I1 L1 R1 n1 s1 → q (.inl none) T1 N1 I1 L1 R1 n1 s1
set_option maxRecDepth 100000 in
theorem wM_243 : ∃ cb ci np, pt_mt 243 = some (11, cb, 2, false, none, ci, np) := ⟨_, _, _, rfl⟩
set_option maxRecDepth 100000 in
set_option maxHeartbeats 4000000 in
theorem wr_write {sc : pt_Sc} {d : Nat} : wv_C wm_fx sc (d + 1 + 1 + 1 + 1 + 1 + 1 + 1) 243 wr_c243 := by
  rintro as T N I L R q ⟨C, B, V, cap, z, a, b, g, nx, fi, sg, on, tw, rfl, hP, hV, hN0, hS, hD, hok⟩ w0 HR
  obtain ⟨cb, ci, np, hm⟩ := wM_243
  have hc244 : wv_C wm_fx sc (d + 1 + 1 + 1 + 1 + 1 + 1) 244 bu_c245 := wv_C_deep (by omega) (bu_setLength2 (d := d))
  have hc247 : wv_C wm_fx sc (d + 1 + 1 + 1 + 1 + 1 + 1) 247 bu_c248 := wv_C_deep (by omega) (bu_appendS2 (d := d))
  have hc298 : wv_C wm_fx sc (d + 1 + 1 + 1 + 1 + 1 + 1) 298 bu_c298 := wv_C_deep (by omega) (bu_writeNumber (d := d))
  have hc59 : wv_C wm_fx sc (d + 1 + 1 + 1 + 1 + 1 + 1) 59 wd_c59 := wv_C_deep (by omega) (wd_latchLiteral (d := d))
  have hc72 : wv_C wm_fx sc (d + 1 + 1 + 1 + 1 + 1 + 1) 72 wd_c72 := wv_C_deep (by omega) (wd_gateLiteral (d := d))
  refine wv_meth (hh := none) rfl (sp := wv_sp [(244, bu_c245), (247, bu_c248), (298, bu_c298), (59, wd_c59), (72, wd_c72)]) (hd := wr_h243 C B V cap a b g nx fi sg on tw T N I L R) (n := 300) (n1 := 300) hm zc_243 rfl (wv_sp_ok (fun q hq => by
    rcases List.mem_cons.mp hq with h | h
    · rw [h]; exact hc244
    rcases List.mem_cons.mp h with h | h
    · rw [h]; exact hc247
    rcases List.mem_cons.mp h with h | h
    · rw [h]; exact hc298
    rcases List.mem_cons.mp h with h | h
    · rw [h]; exact hc59
    rw [List.mem_singleton.mp h]; exact hc72)) ?_ ?_ HR
  · obtain ⟨va, vb, vg, vn, vs, vw⟩ := hV
    have hD0 := hP.1
    refine ⟨hD0.1, B, hP.2.1, hD.1.1, B, V, cap, z, rfl, hD, by have := hP.2.2.2.1; omega, fun V1 cap1 T1 N1 I1 L1 R1 n1 s1 D1 G1 => ?_⟩
    have F1 := wr_now hP hN0 D1 G1
    refine ⟨F1.1.1, B, F1.2.1, D1.1.1, B, V1, cap1, 1099511627796, 1099511627797, [], [97, 97, 103], rfl, D1, bu_s_G G1 hP.2.2.2.2.2.2.1 hP.2.2.2.2.2.2.2 (by have := F1.2.2.2.2.1; omega) (by omega) (by omega) hS, by omega, by omega, by simp, by have := F1.2.2.2.2.1; omega, fun V2 cap2 T2 N2 I2 L2 R2 n2 s2 D2 g2 => ?_⟩
    have G2 := bu_G_t G1 g2
    have F2 := wr_now hP hN0 D2 G2
    refine ⟨F2.1.1, F2.1.1, F2.1.1, F2.1.1, C, B, V2, cap2, a + b + g, _, (by first | rfl | exact congrArg (fun y => [Value.ref C, Value.int y]) (by rw [F2.2.2.2.2.2.2.1, F2.2.2.2.2.2.2.2.1, F2.2.2.2.2.2.2.2.2.1, wi_ona, wi_ona])), F2.1.1, F2.2.1, F2.2.2.1, F2.2.2.2.1, D2, F2.2.2.2.2.2.1, by omega, by simp, F2.2.2.2.2.1, fun V3 cap3 T3 N3 I3 L3 R3 n3 s3 D3 g3 => ?_⟩
    have G3 := bu_G_t G2 g3
    have F3 := wr_now hP hN0 D3 G3
    refine ⟨F3.1.1, F3.1.1, C, B, V3, cap3, a, _, (by first | rfl | exact congrArg (fun y => [Value.ref C, Value.int y]) (F3.2.2.2.2.2.2.1)), F3.1.1, F3.2.1, F3.2.2.1, F3.2.2.2.1, D3, F3.2.2.2.2.2.1, by omega, (by simp only [List.length_append, List.length_cons, List.length_nil]; have := tw_n_l (a + b + g); have := tw_n_l a; have := tw_n_l b; have := tw_n_l 6; omega), F3.2.2.2.2.1, fun V4 cap4 T4 N4 I4 L4 R4 n4 s4 D4 g4 => ?_⟩
    have G4 := bu_G_t G3 g4
    have F4 := wr_now hP hN0 D4 G4
    refine ⟨F4.1.1, F4.1.1, C, B, V4, cap4, b, _, (by first | rfl | exact congrArg (fun y => [Value.ref C, Value.int y]) (F4.2.2.2.2.2.2.2.1)), F4.1.1, F4.2.1, F4.2.2.1, F4.2.2.2.1, D4, F4.2.2.2.2.2.1, by omega, (by simp only [List.length_append, List.length_cons, List.length_nil]; have := tw_n_l (a + b + g); have := tw_n_l a; have := tw_n_l b; have := tw_n_l 6; omega), F4.2.2.2.2.1, fun V5 cap5 T5 N5 I5 L5 R5 n5 s5 D5 g5 => ?_⟩
    have G5 := bu_G_t G4 g5
    have F5 := wr_now hP hN0 D5 G5
    refine ⟨F5.1.1, C, B, V5, cap5, 6, _, (by first | rfl | exact congrArg (fun y => [Value.ref C, Value.int y]) (rfl)), F5.1.1, F5.2.1, F5.2.2.1, F5.2.2.2.1, D5, F5.2.2.2.2.2.1, by omega, (by simp only [List.length_append, List.length_cons, List.length_nil]; have := tw_n_l (a + b + g); have := tw_n_l a; have := tw_n_l b; have := tw_n_l 6; omega), F5.2.2.2.2.1, fun V6 cap6 T6 N6 I6 L6 R6 n6 s6 D6 g6 => ?_⟩
    have G6 := bu_G_t G5 g6
    have F6 := wr_now hP hN0 D6 G6
    refine ⟨F6.1.1, F6.1.1, C, B, V6, cap6, g, _, (by first | rfl | exact congrArg (fun y => [Value.ref C, Value.int y]) (F6.2.2.2.2.2.2.2.2.1)), F6.1.1, F6.2.1, F6.2.2.1, F6.2.2.2.1, D6, F6.2.2.2.2.2.1, by omega, (by simp only [List.length_append, List.length_cons, List.length_nil]; have := tw_n_l (a + b + g); have := tw_n_l a; have := tw_n_l b; have := tw_n_l 6; omega), F6.2.2.2.2.1, fun V7 cap7 T7 N7 I7 L7 R7 n7 s7 D7 g7 => ?_⟩
    have G7 := bu_G_t G6 g7
    have F7 := wr_now hP hN0 D7 G7
    refine ⟨400 - 0, 0, rfl, rfl, Nat.zero_le _, ⟨V7, cap7, ?_, bu_G_e G7 (by omega) (by omega)⟩, rfl⟩
    rw [show tw_f tw_i 0 = [] from rfl, List.append_nil]
    exact D7
  · intro pc P hP2 m lv st T1 N1 I1 L1 R1 nc ns hh
    obtain ⟨va, vb, vg, vn, vs, vw⟩ := hV
    unfold wr_h243 at hP2
    by_cases p68 : pc = 68
    · rw [if_pos p68] at hP2
      cases hP2
      subst p68
      obtain ⟨i, rfl, rfl, hi, ⟨V1, cap1, D1, G1⟩, rfl⟩ := hh
      have F1 := wr_now hP hN0 D1 G1
      have ei := wi_on (n := i) (by omega)
      have ein := wi_onn (n := i) (by omega)
      have hl := tw_l1 (a := a) (b := b) (g := g) (i := i) (by omega)
      have ea := wi_on (n := a) (by omega)
      refine ⟨F1.1.1, fun w1 => ?_, fun w1 => ?_⟩
      · have w1 : I1 C 8 ≤ Int32.ofNat i := w1
        rw [F1.2.2.2.2.2.2.1, wi_le, ea, ei] at w1
        have e : i = a := by omega
        subst e
        refine ⟨300 - 0, by omega, 0, rfl, rfl, Nat.zero_le _, ⟨V1, cap1, ?_, G1⟩, rfl⟩
        rw [show tw_f (tw_la i nx fi) 0 = [] from rfl, List.append_nil]
        exact D1
      · have w1 : ¬ I1 C 8 ≤ Int32.ofNat i := w1
        rw [F1.2.2.2.2.2.2.1, wi_le, ea, ei] at w1
        refine ⟨F1.1.1, C, B, V1, cap1, 2 + 2 * i, _, (by first | rfl | exact congrArg (fun y => [Value.ref C, Value.int y]) (by rw [show Int32.ofInt 1 = Int32.ofNat 1 from rfl, wi_ona, tw_2, show 2 * (1 + i) = 2 + 2 * i by omega])), F1.1.1, F1.2.1, F1.2.2.1, F1.2.2.2.1, D1, F1.2.2.2.2.2.1, by omega, by omega, F1.2.2.2.2.1, fun V2 cap2 T2 N2 I2 L2 R2 n2 s2 D2 g2 => ?_⟩
        have G2 := bu_G_t G1 g2
        have F2 := wr_now hP hN0 D2 G2
        refine ⟨400 - (i + 1), by omega, i + 1, ?_, rfl, by omega, ⟨V2, cap2, ?_, bu_G_e G2 (by omega) (by omega)⟩, rfl⟩
        · unfold wr_l
          rw [← wq_4s]
          rfl
        · rw [List.append_assoc] at D2
          exact D2
    rw [if_neg p68] at hP2
    by_cases p93 : pc = 93
    · rw [if_pos p93] at hP2
      cases hP2
      subst p93
      obtain ⟨i, rfl, rfl, hi, ⟨V1, cap1, D1, G1⟩, rfl⟩ := hh
      have F1 := wr_now hP hN0 D1 G1
      have ei := wi_on (n := i) (by omega)
      have ein := wi_onn (n := i) (by omega)
      have hl := tw_l2 (a := a) (b := b) (g := g) (i := i) (nx := nx) (fi := fi) va (by omega)
      have ea := wi_on (n := b) (by omega)
      refine ⟨F1.1.1, fun w1 => ?_, fun w1 => ?_⟩
      · have w1 : I1 C 9 ≤ Int32.ofNat i := w1
        rw [F1.2.2.2.2.2.2.2.1, wi_le, ea, ei] at w1
        have e : i = b := by omega
        subst e
        refine ⟨200 - 0, by omega, 0, rfl, rfl, Nat.zero_le _, ⟨V1, cap1, ?_, G1⟩, rfl⟩
        rw [show tw_f (tw_sg sg) 0 = [] from rfl, List.append_nil]
        exact D1
      · have w1 : ¬ I1 C 9 ≤ Int32.ofNat i := w1
        rw [F1.2.2.2.2.2.2.2.1, wi_le, ea, ei] at w1
        have hib : i < b := by omega
        have q1 := tw_n_l (2 * (1 + a + i))
        have q2 := tw_n_l (nx i)
        have q3 := vn i hib
        refine ⟨F1.1.1, C, Int32.ofNat i, rfl, F1.1.1, ?_⟩
        refine ⟨F1.1.1, C, B, V1, cap1, 2 * (1 + a + i), _, (by first | rfl | exact congrArg (fun y => [Value.ref C, Value.int y]) (by rw [F1.2.2.2.2.2.2.1, show Int32.ofInt 1 = Int32.ofNat 1 from rfl, wi_ona, wi_ona, tw_2])), F1.1.1, F1.2.1, F1.2.2.1, F1.2.2.2.1, D1, F1.2.2.2.2.2.1, by omega, by omega, F1.2.2.2.2.1, fun V2 cap2 T2 N2 I2 L2 R2 n2 s2 D2 g2 => ?_⟩
        have G2 := bu_G_t G1 g2
        have F2 := wr_now hP hN0 D2 G2
        refine ⟨F2.1.1, C + 3, F2.1.2.1 2 (by omega), _, F2.1.2.2.2.2.1, pp_b (c := 5) (by omega) (by omega), ?_⟩
        refine ⟨F2.1.1, C, B, V2, cap2, nx i, _, (by first | rfl | exact congrArg (fun y => [Value.ref C, Value.int y]) (by rw [ein]; exact (F2.2.2.2.2.2.2.2.2.2.1 i hib).1)), F2.1.1, F2.2.1, F2.2.2.1, F2.2.2.2.1, D2, F2.2.2.2.2.2.1, by omega, by simp only [List.length_append] at hl ⊢; omega, F2.2.2.2.2.1, fun V3 cap3 T3 N3 I3 L3 R3 n3 s3 D3 g3 => ?_⟩
        have G3 := bu_G_t G2 g3
        have F3 := wr_now hP hN0 D3 G3
        refine ⟨F3.1.1, C + 4, F3.1.2.1 3 (by omega), 2, _, Or.inl rfl, F3.1.2.2.2.2.2.1, pp_b (c := 5) (by omega) (by omega), ?_⟩
        rw [ein, (F3.2.2.2.2.2.2.2.2.2.1 i hib).2]
        refine ⟨fun w2 => ?_, fun w2 => ?_⟩
        · have e3 : fi i = false := wb_i_0.mp w2
          refine ⟨F3.1.1, C, B, V3, cap3, 0, _, (by first | rfl | exact congrArg (fun y => [Value.ref C, Value.int y]) (rfl)), F3.1.1, F3.2.1, F3.2.2.1, F3.2.2.2.1, D3, F3.2.2.2.2.2.1, by omega, by simp only [List.length_append] at hl ⊢; omega, F3.2.2.2.2.1, fun V4 cap4 T4 N4 I4 L4 R4 n4 s4 D4 g4 => ?_⟩
          have G4 := bu_G_t G3 g4
          have F4 := wr_now hP hN0 D4 G4
          refine ⟨300 - (i + 1), by omega, i + 1, ?_, rfl, by omega, ⟨V4, cap4, ?_, bu_G_e G4 (by omega) (by omega)⟩, rfl⟩
          · unfold wr_l
            rw [← wq_4s]
            rfl
          · show bu_D T4 I4 R4 B V4 cap4 (_ ++ (tw_f (tw_la a nx fi) i ++ (tw_n (2 * (1 + a + i)) ++ tw_n (nx i) ++ tw_n (if fi i = true then 1 else 0))))
            rw [e3, if_neg (by decide), ← List.append_assoc, ← List.append_assoc, ← List.append_assoc]
            exact D4
        · have e3 : fi i = true := wb_i_1.mp w2
          refine ⟨F3.1.1, C, B, V3, cap3, 1, _, (by first | rfl | exact congrArg (fun y => [Value.ref C, Value.int y]) (rfl)), F3.1.1, F3.2.1, F3.2.2.1, F3.2.2.2.1, D3, F3.2.2.2.2.2.1, by omega, by simp only [List.length_append] at hl ⊢; omega, F3.2.2.2.2.1, fun V4 cap4 T4 N4 I4 L4 R4 n4 s4 D4 g4 => ?_⟩
          have G4 := bu_G_t G3 g4
          have F4 := wr_now hP hN0 D4 G4
          refine ⟨300 - (i + 1), by omega, i + 1, ?_, rfl, by omega, ⟨V4, cap4, ?_, bu_G_e G4 (by omega) (by omega)⟩, rfl⟩
          · unfold wr_l
            rw [← wq_4s]
            rfl
          · show bu_D T4 I4 R4 B V4 cap4 (_ ++ (tw_f (tw_la a nx fi) i ++ (tw_n (2 * (1 + a + i)) ++ tw_n (nx i) ++ tw_n (if fi i = true then 1 else 0))))
            rw [e3, if_pos rfl, ← List.append_assoc, ← List.append_assoc, ← List.append_assoc]
            exact D4
    rw [if_neg p93] at hP2
    by_cases p146 : pc = 146
    · rw [if_pos p146] at hP2
      cases hP2
      subst p146
      obtain ⟨i, rfl, rfl, hi, ⟨V1, cap1, D1, G1⟩, rfl⟩ := hh
      have F1 := wr_now hP hN0 D1 G1
      have ei := wi_on (n := i) (by omega)
      have ein := wi_onn (n := i) (by omega)
      have hl := tw_l3 (a := a) (b := b) (g := g) (i := i) (nx := nx) (fi := fi) (sg := sg) va vb (by omega)
      have ea := wi_on (n := 6) (by omega)
      refine ⟨fun w1 => ?_, fun w1 => ?_⟩
      · have w1 : Int32.ofNat 6 ≤ Int32.ofNat i := w1
        rw [wi_le, ea, ei] at w1
        have e : i = 6 := by omega
        subst e
        refine ⟨100 - 0, by omega, 0, rfl, rfl, Nat.zero_le _, ⟨V1, cap1, ?_, G1⟩, rfl⟩
        rw [show tw_f (tw_ga a b on tw) 0 = [] from rfl, List.append_nil]
        exact D1
      · have w1 : ¬ Int32.ofNat 6 ≤ Int32.ofNat i := w1
        rw [wi_le, ea, ei] at w1
        have hib : i < 6 := by omega
        have q3 := vs i hib
        refine ⟨F1.1.1, C + 5, F1.1.2.1 4 (by omega), _, F1.1.2.2.2.2.2.2.1, pp_b (c := 6) (by omega) (by omega), ?_⟩
        refine ⟨F1.1.1, C, B, V1, cap1, sg i, _, (by first | rfl | exact congrArg (fun y => [Value.ref C, Value.int y]) (by rw [ein]; exact F1.2.2.2.2.2.2.2.2.2.2.1 i hib)), F1.1.1, F1.2.1, F1.2.2.1, F1.2.2.2.1, D1, F1.2.2.2.2.2.1, by omega, by omega, F1.2.2.2.2.1, fun V2 cap2 T2 N2 I2 L2 R2 n2 s2 D2 g2 => ?_⟩
        have G2 := bu_G_t G1 g2
        have F2 := wr_now hP hN0 D2 G2
        refine ⟨200 - (i + 1), by omega, i + 1, ?_, rfl, by omega, ⟨V2, cap2, ?_, bu_G_e G2 (by omega) (by omega)⟩, rfl⟩
        · unfold wr_l
          rw [← wq_4s]
          rfl
        · rw [List.append_assoc] at D2
          exact D2
    rw [if_neg p146] at hP2
    by_cases p170 : pc = 170
    · rw [if_pos p170] at hP2
      cases hP2
      subst p170
      obtain ⟨i, rfl, rfl, hi, ⟨V1, cap1, D1, G1⟩, rfl⟩ := hh
      have F1 := wr_now hP hN0 D1 G1
      have ei := wi_on (n := i) (by omega)
      have ein := wi_onn (n := i) (by omega)
      have hl := tw_l4 (a := a) (b := b) (g := g) (i := i) (nx := nx) (fi := fi) (sg := sg) (on := on) (tw := tw) va vb (by omega)
      have ea := wi_on (n := g) (by omega)
      refine ⟨F1.1.1, fun w1 => ?_, fun w1 => ?_⟩
      · have w1 : I1 C 10 ≤ Int32.ofNat i := w1
        rw [F1.2.2.2.2.2.2.2.2.1, wi_le, ea, ei] at w1
        have e : i = g := by omega
        subst e
        exact hok V1 cap1 T1 N1 I1 L1 R1 nc ns D1 G1
      · have w1 : ¬ I1 C 10 ≤ Int32.ofNat i := w1
        rw [F1.2.2.2.2.2.2.2.2.1, wi_le, ea, ei] at w1
        have hib : i < g := by omega
        obtain ⟨q3, q4⟩ := vw i hib
        have q1 := tw_n_l (2 * (1 + a + b + i))
        have q2 := tw_n_l (on i)
        refine ⟨F1.1.1, C, Int32.ofNat i, rfl, F1.1.1, ?_⟩
        refine ⟨F1.1.1, C, B, V1, cap1, 2 * (1 + a + b + i), _, (by first | rfl | exact congrArg (fun y => [Value.ref C, Value.int y]) (by rw [F1.2.2.2.2.2.2.1, F1.2.2.2.2.2.2.2.1, show Int32.ofInt 1 = Int32.ofNat 1 from rfl, wi_ona, wi_ona, wi_ona, tw_2])), F1.1.1, F1.2.1, F1.2.2.1, F1.2.2.2.1, D1, F1.2.2.2.2.2.1, by omega, by omega, F1.2.2.2.2.1, fun V2 cap2 T2 N2 I2 L2 R2 n2 s2 D2 g2 => ?_⟩
        have G2 := bu_G_t G1 g2
        have F2 := wr_now hP hN0 D2 G2
        refine ⟨F2.1.1, C + 1, F2.1.2.1 0 (by omega), _, F2.1.2.2.1, pp_b (c := 60) (by omega) (by omega), ?_⟩
        refine ⟨F2.1.1, C, B, V2, cap2, on i, _, (by first | rfl | exact congrArg (fun y => [Value.ref C, Value.int y]) (by rw [ein]; exact (F2.2.2.2.2.2.2.2.2.2.2.2 i hib).1)), F2.1.1, F2.2.1, F2.2.2.1, F2.2.2.2.1, D2, F2.2.2.2.2.2.1, by omega, by simp only [List.length_append] at hl ⊢; omega, F2.2.2.2.2.1, fun V3 cap3 T3 N3 I3 L3 R3 n3 s3 D3 g3 => ?_⟩
        have G3 := bu_G_t G2 g3
        have F3 := wr_now hP hN0 D3 G3
        refine ⟨F3.1.1, C + 2, F3.1.2.1 1 (by omega), _, F3.1.2.2.2.1, pp_b (c := 60) (by omega) (by omega), ?_⟩
        refine ⟨F3.1.1, C, B, V3, cap3, tw i, _, (by first | rfl | exact congrArg (fun y => [Value.ref C, Value.int y]) (by rw [ein]; exact (F3.2.2.2.2.2.2.2.2.2.2.2 i hib).2)), F3.1.1, F3.2.1, F3.2.2.1, F3.2.2.2.1, D3, F3.2.2.2.2.2.1, by omega, by simp only [List.length_append] at hl ⊢; omega, F3.2.2.2.2.1, fun V4 cap4 T4 N4 I4 L4 R4 n4 s4 D4 g4 => ?_⟩
        have G4 := bu_G_t G3 g4
        have F4 := wr_now hP hN0 D4 G4
        refine ⟨100 - (i + 1), by omega, i + 1, ?_, rfl, by omega, ⟨V4, cap4, ?_, bu_G_e G4 (by omega) (by omega)⟩, rfl⟩
        · unfold wr_l
          rw [← wq_4s]
          rfl
        · show bu_D T4 I4 R4 B V4 cap4 (_ ++ (tw_f (tw_ga a b on tw) i ++ (tw_n (2 * (1 + a + b + i)) ++ tw_n (on i) ++ tw_n (tw i))))
          rw [← List.append_assoc, ← List.append_assoc, ← List.append_assoc]
          exact D4
    rw [if_neg p170] at hP2
    cases hP2
