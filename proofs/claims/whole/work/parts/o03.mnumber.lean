/-! ===== the reference: number ===== -/
def tw_f (f : Nat → List Nat) : Nat → List Nat
  | 0 => []
  | n + 1 => tw_f f n ++ f n
theorem tw_f_l {f : Nat → List Nat} {c : Nat} (h : ∀ i, (f i).length ≤ c) : ∀ n, (tw_f f n).length ≤ c * n
  | 0 => Nat.le_refl _
  | n + 1 => by
    show (tw_f f n ++ f n).length ≤ c * (n + 1)
    have h1 := tw_f_l h n
    have h2 := h n
    rw [List.length_append, Nat.mul_succ]
    omega
def tw_h (a b g : Nat) : List Nat := [97] ++ [97] ++ [103] ++ tw_n (a + b + g) ++ tw_n a ++ tw_n b ++ tw_n 6 ++ tw_n g
def tw_i (i : Nat) : List Nat := tw_n (2 + 2 * i)
def tw_la (a : Nat) (nx : Nat → Nat) (fi : Nat → Bool) (i : Nat) : List Nat := tw_n (2 * (1 + a + i)) ++ tw_n (nx i) ++ tw_n (if fi i = true then 1 else 0)
def tw_sg (sg : Nat → Nat) (i : Nat) : List Nat := tw_n (sg i)
def tw_ga (a b : Nat) (on tw : Nat → Nat) (i : Nat) : List Nat := tw_n (2 * (1 + a + b + i)) ++ tw_n (on i) ++ tw_n (tw i)
/-- a design's text -/
def tw_T (a b g : Nat) (nx : Nat → Nat) (fi : Nat → Bool) (sg on tw : Nat → Nat) : List Nat := tw_h a b g ++ tw_f tw_i a ++ tw_f (tw_la a nx fi) b ++ tw_f (tw_sg sg) 6 ++ tw_f (tw_ga a b on tw) g
theorem tw_h_l (a b g : Nat) : (tw_h a b g).length ≤ 23 := by
  unfold tw_h
  have h1 := tw_n_l (a + b + g)
  have h2 := tw_n_l a
  have h3 := tw_n_l b
  have h4 := tw_n_l 6
  have h5 := tw_n_l g
  simp only [List.length_append, List.length_singleton]
  omega
theorem tw_i_l (i : Nat) : (tw_i i).length ≤ 4 := tw_n_l _
theorem tw_sg_l {sg : Nat → Nat} (i : Nat) : (tw_sg sg i).length ≤ 4 := tw_n_l _
theorem tw_la_l {a : Nat} {nx : Nat → Nat} {fi : Nat → Bool} (i : Nat) : (tw_la a nx fi i).length ≤ 12 := by
  unfold tw_la
  have h1 := tw_n_l (2 * (1 + a + i))
  have h2 := tw_n_l (nx i)
  have h3 := tw_n_l (if fi i = true then 1 else 0)
  simp only [List.length_append]
  omega
theorem tw_ga_l {a b : Nat} {on tw : Nat → Nat} (i : Nat) : (tw_ga a b on tw i).length ≤ 12 := by
  unfold tw_ga
  have h1 := tw_n_l (2 * (1 + a + b + i))
  have h2 := tw_n_l (on i)
  have h3 := tw_n_l (tw i)
  simp only [List.length_append]
  omega
/-- a design's numbers -/
def tw_V (a b g : Nat) (nx : Nat → Nat) (fi : Nat → Bool) (sg on tw : Nat → Nat) : Prop := a ≤ 3 ∧ b ≤ 5 ∧ g ≤ 60 ∧ (∀ i, i < b → nx i < 1000) ∧ (∀ i, i < 6 → sg i < 1000) ∧ ∀ i, i < g → on i < 1000 ∧ tw i < 1000
/-- the reference holds them -/
def tw_M (a b g : Nat) (nx : Nat → Nat) (fi : Nat → Bool) (sg on tw : Nat → Nat) (I : Nat → Nat → Int32) : Prop := I 460 56 = Int32.ofNat a ∧ I 460 57 = Int32.ofNat b ∧ I 460 58 = Int32.ofNat g ∧ (∀ i, i < b → I 498 i = Int32.ofNat (nx i) ∧ I 499 i = wb_i (fi i)) ∧ (∀ i, i < 6 → I 500 i = Int32.ofNat (sg i)) ∧ ∀ i, i < g → I 496 i = Int32.ofNat (on i) ∧ I 497 i = Int32.ofNat (tw i)
theorem tw_M_F {a b g : Nat} {nx : Nat → Nat} {fi : Nat → Bool} {sg on tw : Nat → Nat} {I J : Nat → Nat → Int32} (h : tw_M a b g nx fi sg on tw I) (f : tw_F I J) : tw_M a b g nx fi sg on tw J := by
  obtain ⟨h1, h2, h3, h4, h5, h6⟩ := h
  exact ⟨(f _ _ (by omega)).trans h1, (f _ _ (by omega)).trans h2, (f _ _ (by omega)).trans h3, fun i hi => ⟨(f _ _ (by omega)).trans (h4 i hi).1, (f _ _ (by omega)).trans (h4 i hi).2⟩, fun i hi => (f _ _ (by omega)).trans (h5 i hi), fun i hi => ⟨(f _ _ (by omega)).trans (h6 i hi).1, (f _ _ (by omega)).trans (h6 i hi).2⟩⟩
theorem tw_l1 {a b g i : Nat} (hi : i ≤ 3) : (tw_h a b g ++ tw_f tw_i i).length ≤ 35 := by
  have h1 := tw_h_l a b g
  have h2 := tw_f_l tw_i_l i
  rw [List.length_append]
  omega
theorem tw_l2 {a b g i : Nat} {nx : Nat → Nat} {fi : Nat → Bool} (ha : a ≤ 3) (hi : i ≤ 5) : (tw_h a b g ++ tw_f tw_i a ++ tw_f (tw_la a nx fi) i).length ≤ 95 := by
  have h1 := tw_l1 (a := a) (b := b) (g := g) ha
  have h2 := tw_f_l (tw_la_l (a := a) (nx := nx) (fi := fi)) i
  rw [List.length_append]
  omega
theorem tw_l3 {a b g i : Nat} {nx : Nat → Nat} {fi : Nat → Bool} {sg : Nat → Nat} (ha : a ≤ 3) (hb : b ≤ 5) (hi : i ≤ 6) : (tw_h a b g ++ tw_f tw_i a ++ tw_f (tw_la a nx fi) b ++ tw_f (tw_sg sg) i).length ≤ 119 := by
  have h1 := tw_l2 (a := a) (b := b) (g := g) (nx := nx) (fi := fi) ha hb
  have h2 := tw_f_l (tw_sg_l (sg := sg)) i
  rw [List.length_append]
  omega
theorem tw_l4 {a b g i : Nat} {nx : Nat → Nat} {fi : Nat → Bool} {sg on tw : Nat → Nat} (ha : a ≤ 3) (hb : b ≤ 5) (hi : i ≤ 60) : (tw_h a b g ++ tw_f tw_i a ++ tw_f (tw_la a nx fi) b ++ tw_f (tw_sg sg) 6 ++ tw_f (tw_ga a b on tw) i).length ≤ 839 := by
  have h1 := tw_l3 (a := a) (b := b) (g := g) (nx := nx) (fi := fi) (sg := sg) ha hb (Nat.le_refl 6)
  have h2 := tw_f_l (tw_ga_l (a := a) (b := b) (on := on) (tw := tw)) i
  rw [List.length_append]
  omega
def tw_l90 (ki : Int32) (i : Nat) : List (Option Value) := [some (.ref 460), some (.int ki), some (.int (Int32.ofNat i)), none, none]
def tw_h490 (ki : Int32) (k : Nat) (a b g : Nat) (nx : Nat → Nat) (fi : Nat → Bool) (sg on tw : Nat → Nat) (T : wv_T) (N : Nat) (I : Nat → Nat → Int32) (L : Nat → Nat → Int64) (R : Nat → Nat → Option Nat) : Nat → Option (Nat → wv_P) := fun pc =>
  if pc = 102 then some (fun mm lv st T1 N1 I1 L1 R1 nc ns => ∃ i : Nat, lv = tw_l90 ki i ∧ st = [] ∧ T1 = T ∧ N1 = N ∧ L1 = L ∧ R1 = R ∧ nc = 0 ∧ ns = 0 ∧ k < 2147483648 ∧ ki = Int32.ofNat k ∧ i ≤ a ∧ tw_H k (tw_h a b g ++ tw_f tw_i i) I1 ∧ tw_F (wv_u I 460 0 0) I1 ∧ mm = 400 - i)
  else if pc = 127 then some (fun mm lv st T1 N1 I1 L1 R1 nc ns => ∃ i : Nat, lv = tw_l90 ki i ∧ st = [] ∧ T1 = T ∧ N1 = N ∧ L1 = L ∧ R1 = R ∧ nc = 0 ∧ ns = 0 ∧ k < 2147483648 ∧ ki = Int32.ofNat k ∧ i ≤ b ∧ tw_H k (tw_h a b g ++ tw_f tw_i a ++ tw_f (tw_la a nx fi) i) I1 ∧ tw_F (wv_u I 460 0 0) I1 ∧ mm = 300 - i)
  else if pc = 185 then some (fun mm lv st T1 N1 I1 L1 R1 nc ns => ∃ i : Nat, lv = tw_l90 ki i ∧ st = [] ∧ T1 = T ∧ N1 = N ∧ L1 = L ∧ R1 = R ∧ nc = 0 ∧ ns = 0 ∧ k < 2147483648 ∧ ki = Int32.ofNat k ∧ i ≤ 6 ∧ tw_H k (tw_h a b g ++ tw_f tw_i a ++ tw_f (tw_la a nx fi) b ++ tw_f (tw_sg sg) i) I1 ∧ tw_F (wv_u I 460 0 0) I1 ∧ mm = 200 - i)
  else if pc = 209 then some (fun mm lv st T1 N1 I1 L1 R1 nc ns => ∃ i : Nat, lv = tw_l90 ki i ∧ st = [] ∧ T1 = T ∧ N1 = N ∧ L1 = L ∧ R1 = R ∧ nc = 0 ∧ ns = 0 ∧ k < 2147483648 ∧ ki = Int32.ofNat k ∧ i ≤ g ∧ tw_H k (tw_h a b g ++ tw_f tw_i a ++ tw_f (tw_la a nx fi) b ++ tw_f (tw_sg sg) 6 ++ tw_f (tw_ga a b on tw) i) I1 ∧ tw_F (wv_u I 460 0 0) I1 ∧ mm = 100 - i)
  else none
theorem tw_2 (n : Nat) : Int32.ofInt 2 * Int32.ofNat n = Int32.ofNat (2 * n) := (Int32.ofNat_mul 2 n).symm
def tw_90 (ki : Int32) (a b g : Nat) (nx : Nat → Nat) (fi : Nat → Bool) (sg on tw : Nat → Nat) (T : wv_T) (N : Nat) (I : Nat → Nat → Int32) (L : Nat → Nat → Int64) (R : Nat → Nat → Option Nat) (q : wv_Q) : Prop := (ki < 0 → q (.inl (some (.int 0))) T N (wv_u I 460 0 1) L R 0 0) ∧ ∀ k, k < 2147483648 → ki = Int32.ofNat k → ∀ I1, tw_F (wv_u I 460 0 0) I1 → q (.inl (some (.int (tw_c (tw_T a b g nx fi sg on tw) k)))) T N I1 L R 0 0
def tw_c490 : wv_c1 := fun as T N I L R q => ∃ (ki : Int32) (a b g : Nat) (nx : Nat → Nat) (fi : Nat → Bool) (sg on tw : Nat → Nat), as = [.ref 460, .int ki] ∧ wm_T T ∧ tw_V a b g nx fi sg on tw ∧ tw_M a b g nx fi sg on tw I ∧ tw_90 ki a b g nx fi sg on tw T N I L R q
set_option maxRecDepth 100000 in
theorem wM_490 : ∃ cb ci np, pt_mt 490 = some (32, cb, 3, false, some .int, ci, np) := ⟨_, _, _, rfl⟩
set_option maxRecDepth 100000 in
set_option maxHeartbeats 4000000 in
theorem tw_number {sc : pt_Sc} {d : Nat} : wv_C wm_fx sc (d + 1 + 1 + 1) 490 tw_c490 := by
  rintro as T N I L R q ⟨ki, a, b, g, nx, fi, sg, on, tw, rfl, hT, hV, hM, hneg, hok⟩ w0 HR
  obtain ⟨cb, ci, np, hm⟩ := wM_490
  have hc345 : wv_C wm_fx sc (d + 1 + 1) 345 wp_c345 := wv_C_deep (by omega) (wp_refuse (d := d))
  have hc491 : wv_C wm_fx sc (d + 1 + 1) 491 tw_c491 := wv_C_deep (by omega) (tw_writeSign (d := d))
  have hc492 : wv_C wm_fx sc (d + 1 + 1) 492 tw_c492 := wv_C_deep (by omega) (tw_writeNumber (d := d))
  refine wv_meth (hh := none) rfl (sp := wv_sp [(345, wp_c345), (491, tw_c491), (492, tw_c492)]) (hd := tw_h490 ki ki.toInt.toNat a b g nx fi sg on tw T N I L R) (n := 300) (n1 := 300) hm zc_490 rfl (wv_sp_ok (fun q hq => by
    rcases List.mem_cons.mp hq with h | h
    · rw [h]; exact hc345
    rcases List.mem_cons.mp h with h | h
    · rw [h]; exact hc491
    rw [List.mem_singleton.mp h]; exact hc492)) ?_ ?_ HR
  · refine ⟨fun w1 => ?_, fun w1 => ?_⟩
    rotate_left
    · have w1 : ¬ 0 ≤ ki := w1
      refine ⟨1, 0, rfl, ?_⟩
      rw [if_neg (by decide)]
      refine ⟨fun w2 => absurd w2 (by decide), fun _ => ?_⟩
      exact hneg (Int32.not_le.mp w1)
    have w1 : 0 ≤ ki := w1
    have hk : ki.toInt.toNat < 2147483648 := by
      have := Int32.toInt_lt ki
      omega
    have ek : ki = Int32.ofNat ki.toInt.toNat := by
      rw [wi_le, wi_0] at w1
      exact wi_eq.mpr (by rw [wi_on hk]; omega)
    obtain ⟨va, vb, vg, vn, vs, vw⟩ := hV
    obtain ⟨k, ekk⟩ : ∃ k, ki.toInt.toNat = k := ⟨_, rfl⟩
    rw [ekk] at hk ek
    refine ⟨0, 0, rfl, ?_⟩
    rw [if_pos rfl, if_pos rfl]
    refine ⟨fun _ => ?_, fun w2 => absurd rfl w2⟩
    have hH0 : tw_H k [] (wv_u (wv_u (wv_u (wv_u I 460 0 0) 460 117 ki) 460 118 (Int32.ofInt 0)) 460 119 (Int32.ofInt (-1))) := by
      refine ⟨?_, ?_, ?_⟩
      · rw [wv_u_no _ _ (by omega), wv_u_no _ _ (by omega), wv_u_at, ek]
      · rw [wv_u_no _ _ (by omega), wv_u_at]
        rfl
      · rw [wv_u_at]
        rfl
    have hF0 : tw_F (wv_u I 460 0 0) (wv_u (wv_u (wv_u (wv_u I 460 0 0) 460 117 ki) 460 118 (Int32.ofInt 0)) 460 119 (Int32.ofInt (-1))) := fun c j z => by
      rw [wv_u_no _ _ (by omega), wv_u_no _ _ (by omega), wv_u_no _ _ (by omega)]
    have hM0 : tw_M a b g nx fi sg on tw (wv_u I 460 0 0) := by
      obtain ⟨h1, h2, h3, h4, h5, h6⟩ := hM
      exact ⟨(wv_u_no _ _ (by omega)).trans h1, (wv_u_no _ _ (by omega)).trans h2, (wv_u_no _ _ (by omega)).trans h3, fun i hi => ⟨(wv_u_no _ _ (by omega)).trans (h4 i hi).1, (wv_u_no _ _ (by omega)).trans (h4 i hi).2⟩, fun i hi => (wv_u_no _ _ (by omega)).trans (h5 i hi), fun i hi => ⟨(wv_u_no _ _ (by omega)).trans (h6 i hi).1, (wv_u_no _ _ (by omega)).trans (h6 i hi).2⟩⟩
    refine ⟨k, 97, [], rfl, hH0, hk, by simp, fun I1 g1 f1 => ?_⟩
    refine ⟨k, 97, _, rfl, g1, hk, by simp, fun I2 g2 f2 => ?_⟩
    refine ⟨k, 103, _, rfl, g2, hk, by simp, fun I3 g3 f3 => ?_⟩
    have F3 := tw_F_t (tw_F_t (tw_F_t hF0 f1) f2) f3
    have M3 := tw_M_F hM0 F3
    refine ⟨k, a + b + g, _, (by first | rfl | exact congrArg (fun y => [Value.ref 460, Value.int y]) (by rw [M3.1, M3.2.1, M3.2.2.1, wi_ona, wi_ona])), by omega, g3, hk, by simp, by simp, fun I4 g4 f4 => ?_⟩
    have F4 := tw_F_t F3 f4
    have M4 := tw_M_F hM0 F4
    refine ⟨k, a, _, (by first | rfl | exact congrArg (fun y => [Value.ref 460, Value.int y]) (M4.1)), by omega, g4, hk, (by simp only [List.length_append, List.length_singleton, List.length_nil]; have := tw_n_l (a + b + g); have := tw_n_l a; have := tw_n_l b; have := tw_n_l 6; omega), (by simp only [List.length_append, List.length_singleton, List.length_nil]; have := tw_n_l (a + b + g); have := tw_n_l a; have := tw_n_l b; have := tw_n_l 6; omega), fun I5 g5 f5 => ?_⟩
    have F5 := tw_F_t F4 f5
    have M5 := tw_M_F hM0 F5
    refine ⟨k, b, _, (by first | rfl | exact congrArg (fun y => [Value.ref 460, Value.int y]) (M5.2.1)), by omega, g5, hk, (by simp only [List.length_append, List.length_singleton, List.length_nil]; have := tw_n_l (a + b + g); have := tw_n_l a; have := tw_n_l b; have := tw_n_l 6; omega), (by simp only [List.length_append, List.length_singleton, List.length_nil]; have := tw_n_l (a + b + g); have := tw_n_l a; have := tw_n_l b; have := tw_n_l 6; omega), fun I6 g6 f6 => ?_⟩
    have F6 := tw_F_t F5 f6
    refine ⟨k, 6, _, (by first | rfl | exact congrArg (fun y => [Value.ref 460, Value.int y]) (rfl)), by omega, g6, hk, (by simp only [List.length_append, List.length_singleton, List.length_nil]; have := tw_n_l (a + b + g); have := tw_n_l a; have := tw_n_l b; have := tw_n_l 6; omega), (by simp only [List.length_append, List.length_singleton, List.length_nil]; have := tw_n_l (a + b + g); have := tw_n_l a; have := tw_n_l b; have := tw_n_l 6; omega), fun I7 g7 f7 => ?_⟩
    have F7 := tw_F_t F6 f7
    have M7 := tw_M_F hM0 F7
    refine ⟨k, g, _, (by first | rfl | exact congrArg (fun y => [Value.ref 460, Value.int y]) (M7.2.2.1)), by omega, g7, hk, (by simp only [List.length_append, List.length_singleton, List.length_nil]; have := tw_n_l (a + b + g); have := tw_n_l a; have := tw_n_l b; have := tw_n_l 6; omega), (by simp only [List.length_append, List.length_singleton, List.length_nil]; have := tw_n_l (a + b + g); have := tw_n_l a; have := tw_n_l b; have := tw_n_l 6; omega), fun I8 g8 f8 => ?_⟩
    subst ekk
    refine ⟨400 - 0, 0, rfl, rfl, rfl, rfl, rfl, rfl, rfl, rfl, hk, ek, Nat.zero_le _, ?_, tw_F_t F7 f8, rfl⟩
    rw [show tw_f tw_i 0 = [] from rfl, List.append_nil]
    exact g8
  · intro pc P hP m lv st T1 N1 I1 L1 R1 nc ns hh
    obtain ⟨k, ekk⟩ : ∃ k, ki.toInt.toNat = k := ⟨_, rfl⟩
    rw [ekk] at hP ⊢

    obtain ⟨va, vb, vg, vn, vs, vw⟩ := hV
    have hM0 : tw_M a b g nx fi sg on tw (wv_u I 460 0 0) := by
      obtain ⟨h1, h2, h3, h4, h5, h6⟩ := hM
      exact ⟨(wv_u_no _ _ (by omega)).trans h1, (wv_u_no _ _ (by omega)).trans h2, (wv_u_no _ _ (by omega)).trans h3, fun i hi => ⟨(wv_u_no _ _ (by omega)).trans (h4 i hi).1, (wv_u_no _ _ (by omega)).trans (h4 i hi).2⟩, fun i hi => (wv_u_no _ _ (by omega)).trans (h5 i hi), fun i hi => ⟨(wv_u_no _ _ (by omega)).trans (h6 i hi).1, (wv_u_no _ _ (by omega)).trans (h6 i hi).2⟩⟩
    unfold tw_h490 at hP
    by_cases p102 : pc = 102
    · rw [if_pos p102] at hP
      cases hP
      subst p102
      obtain ⟨i, rfl, rfl, rfl, rfl, rfl, rfl, rfl, rfl, hk, ek, hi, g1, F1, rfl⟩ := hh
      have M1 := tw_M_F hM0 F1
      have ei := wi_on (n := i) (by omega)
      have hl := tw_l1 (a := a) (b := b) (g := g) (i := i) (by omega)
      have ea := wi_on (n := a) (by omega)
      refine ⟨fun w1 => ?_, fun w1 => ?_⟩
      · have w1 : I1 460 56 ≤ Int32.ofNat i := w1
        rw [M1.1, wi_le, ea, ei] at w1
        have e : i = a := by omega
        subst e
        refine ⟨300 - 0, by omega, 0, rfl, rfl, rfl, rfl, rfl, rfl, rfl, rfl, hk, ek, Nat.zero_le _, ?_, F1, rfl⟩
        rw [show tw_f (tw_la i nx fi) 0 = [] from rfl, List.append_nil]
        exact g1
      · have w1 : ¬ I1 460 56 ≤ Int32.ofNat i := w1
        rw [M1.1, wi_le, ea, ei] at w1
        refine ⟨k, 2 + 2 * i, _, (by first | rfl | exact congrArg (fun y => [Value.ref 460, Value.int y]) (by rw [tw_2]; exact wi_ona 2 (2 * i))), by omega, g1, hk, by omega, by omega, fun I2 g2 f2 => ?_⟩
        refine ⟨400 - (i + 1), by omega, i + 1, ?_, rfl, rfl, rfl, rfl, rfl, rfl, rfl, hk, ek, by omega, ?_, tw_F_t F1 f2, rfl⟩
        · unfold tw_l90
          rw [← wq_4s]
          rfl
        · rw [List.append_assoc] at g2
          exact g2
    rw [if_neg p102] at hP
    by_cases p127 : pc = 127
    · rw [if_pos p127] at hP
      cases hP
      subst p127
      obtain ⟨i, rfl, rfl, rfl, rfl, rfl, rfl, rfl, rfl, hk, ek, hi, g1, F1, rfl⟩ := hh
      have M1 := tw_M_F hM0 F1
      have ei := wi_on (n := i) (by omega)
      have hl := tw_l2 (a := a) (b := b) (g := g) (i := i) (nx := nx) (fi := fi) va (by omega)
      have ea := wi_on (n := b) (by omega)
      refine ⟨fun w1 => ?_, fun w1 => ?_⟩
      · have w1 : I1 460 57 ≤ Int32.ofNat i := w1
        rw [M1.2.1, wi_le, ea, ei] at w1
        have e : i = b := by omega
        subst e
        refine ⟨200 - 0, by omega, 0, rfl, rfl, rfl, rfl, rfl, rfl, rfl, rfl, hk, ek, Nat.zero_le _, ?_, F1, rfl⟩
        rw [show tw_f (tw_sg sg) 0 = [] from rfl, List.append_nil]
        exact g1
      · have w1 : ¬ I1 460 57 ≤ Int32.ofNat i := w1
        rw [M1.2.1, wi_le, ea, ei] at w1
        have hib : i < b := by omega
        have q1 := tw_n_l (2 * (1 + a + i))
        have q2 := tw_n_l (nx i)
        have q3 := vn i hib
        refine ⟨k, 2 * (1 + a + i), _, (by first | rfl | exact congrArg (fun y => [Value.ref 460, Value.int y]) (by rw [M1.1, show Int32.ofInt 1 = Int32.ofNat 1 from rfl, wi_ona, wi_ona, tw_2])), by omega, g1, hk, by omega, by omega, fun I2 g2 f2 => ?_⟩
        have F2 := tw_F_t F1 f2
        have M2 := tw_M_F hM0 F2
        have ein := wi_onn (n := i) (by omega)
        refine ⟨_, wm_t hT rfl, pp_b (c := 5) (by omega) (by omega), ?_⟩
        refine ⟨k, nx i, _, (by first | rfl | exact congrArg (fun y => [Value.ref 460, Value.int y]) (by rw [ein]; exact (M2.2.2.2.1 i hib).1)), by omega, g2, hk, by simp only [List.length_append] at hl ⊢; omega, by simp only [List.length_append] at hl ⊢; omega, fun I3 g3 f3 => ?_⟩
        have F3 := tw_F_t F2 f3
        have M3 := tw_M_F hM0 F3
        refine ⟨2, _, Or.inl rfl, wm_t hT rfl, pp_b (c := 5) (by omega) (by omega), ?_⟩
        rw [ein, (M3.2.2.2.1 i hib).2]
        refine ⟨fun w2 => ?_, fun w2 => ?_⟩
        · have e3 : fi i = false := wb_i_0.mp w2
          refine ⟨k, 0, _, (by first | rfl | exact congrArg (fun y => [Value.ref 460, Value.int y]) (rfl)), by omega, g3, hk, by simp only [List.length_append] at hl ⊢; omega, by simp only [List.length_append] at hl ⊢; omega, fun I4 g4 f4 => ?_⟩
          refine ⟨300 - (i + 1), by omega, i + 1, ?_, rfl, rfl, rfl, rfl, rfl, rfl, rfl, hk, ek, by omega, ?_, tw_F_t F3 f4, rfl⟩
          · unfold tw_l90
            rw [← wq_4s]
            rfl
          · show tw_H k (_ ++ (tw_f (tw_la a nx fi) i ++ (tw_n (2 * (1 + a + i)) ++ tw_n (nx i) ++ tw_n (if fi i = true then 1 else 0)))) I4
            rw [e3, if_neg (by decide), ← List.append_assoc, ← List.append_assoc, ← List.append_assoc]
            exact g4
        · have e3 : fi i = true := wb_i_1.mp w2
          refine ⟨k, 1, _, (by first | rfl | exact congrArg (fun y => [Value.ref 460, Value.int y]) (rfl)), by omega, g3, hk, by simp only [List.length_append] at hl ⊢; omega, by simp only [List.length_append] at hl ⊢; omega, fun I4 g4 f4 => ?_⟩
          refine ⟨300 - (i + 1), by omega, i + 1, ?_, rfl, rfl, rfl, rfl, rfl, rfl, rfl, hk, ek, by omega, ?_, tw_F_t F3 f4, rfl⟩
          · unfold tw_l90
            rw [← wq_4s]
            rfl
          · show tw_H k (_ ++ (tw_f (tw_la a nx fi) i ++ (tw_n (2 * (1 + a + i)) ++ tw_n (nx i) ++ tw_n (if fi i = true then 1 else 0)))) I4
            rw [e3, if_pos rfl, ← List.append_assoc, ← List.append_assoc, ← List.append_assoc]
            exact g4
    rw [if_neg p127] at hP
    by_cases p185 : pc = 185
    · rw [if_pos p185] at hP
      cases hP
      subst p185
      obtain ⟨i, rfl, rfl, rfl, rfl, rfl, rfl, rfl, rfl, hk, ek, hi, g1, F1, rfl⟩ := hh
      have M1 := tw_M_F hM0 F1
      have ei := wi_on (n := i) (by omega)
      have hl := tw_l3 (a := a) (b := b) (g := g) (i := i) (nx := nx) (fi := fi) (sg := sg) va vb (by omega)
      have ea := wi_on (n := 6) (by omega)
      refine ⟨fun w1 => ?_, fun w1 => ?_⟩
      · have w1 : Int32.ofNat 6 ≤ Int32.ofNat i := w1
        rw [wi_le, ea, ei] at w1
        have e : i = 6 := by omega
        subst e
        refine ⟨100 - 0, by omega, 0, rfl, rfl, rfl, rfl, rfl, rfl, rfl, rfl, hk, ek, Nat.zero_le _, ?_, F1, rfl⟩
        rw [show tw_f (tw_ga a b on tw) 0 = [] from rfl, List.append_nil]
        exact g1
      · have w1 : ¬ Int32.ofNat 6 ≤ Int32.ofNat i := w1
        rw [wi_le, ea, ei] at w1
        have hib : i < 6 := by omega
        have q3 := vs i hib
        have ein := wi_onn (n := i) (by omega)
        refine ⟨_, wm_t hT rfl, pp_b (c := 6) (by omega) (by omega), ?_⟩
        refine ⟨k, sg i, _, (by first | rfl | exact congrArg (fun y => [Value.ref 460, Value.int y]) (by rw [ein]; exact M1.2.2.2.2.1 i hib)), by omega, g1, hk, by omega, by omega, fun I2 g2 f2 => ?_⟩
        refine ⟨200 - (i + 1), by omega, i + 1, ?_, rfl, rfl, rfl, rfl, rfl, rfl, rfl, hk, ek, by omega, ?_, tw_F_t F1 f2, rfl⟩
        · unfold tw_l90
          rw [← wq_4s]
          rfl
        · rw [List.append_assoc] at g2
          exact g2
    rw [if_neg p185] at hP
    by_cases p209 : pc = 209
    · rw [if_pos p209] at hP
      cases hP
      subst p209
      obtain ⟨i, rfl, rfl, rfl, rfl, rfl, rfl, rfl, rfl, hk, ek, hi, g1, F1, rfl⟩ := hh
      have M1 := tw_M_F hM0 F1
      have ei := wi_on (n := i) (by omega)
      have hl := tw_l4 (a := a) (b := b) (g := g) (i := i) (nx := nx) (fi := fi) (sg := sg) (on := on) (tw := tw) va vb (by omega)
      have ea := wi_on (n := g) (by omega)
      refine ⟨fun w1 => ?_, fun w1 => ?_⟩
      · have w1 : I1 460 58 ≤ Int32.ofNat i := w1
        rw [M1.2.2.1, wi_le, ea, ei] at w1
        have e : i = g := by omega
        subst e
        have hq := hok k hk ek I1 F1
        rw [← show I1 460 119 = tw_c (tw_T a b i nx fi sg on tw) k from g1.2.2] at hq
        exact hq
      · have w1 : ¬ I1 460 58 ≤ Int32.ofNat i := w1
        rw [M1.2.2.1, wi_le, ea, ei] at w1
        have hib : i < g := by omega
        obtain ⟨q3, q4⟩ := vw i hib
        have q1 := tw_n_l (2 * (1 + a + b + i))
        have q2 := tw_n_l (on i)
        refine ⟨k, 2 * (1 + a + b + i), _, (by first | rfl | exact congrArg (fun y => [Value.ref 460, Value.int y]) (by rw [M1.1, M1.2.1, show Int32.ofInt 1 = Int32.ofNat 1 from rfl, wi_ona, wi_ona, wi_ona, tw_2])), by omega, g1, hk, by omega, by omega, fun I2 g2 f2 => ?_⟩
        have F2 := tw_F_t F1 f2
        have M2 := tw_M_F hM0 F2
        have ein := wi_onn (n := i) (by omega)
        refine ⟨_, wm_t hT rfl, pp_b (c := 60) (by omega) (by omega), ?_⟩
        refine ⟨k, on i, _, (by first | rfl | exact congrArg (fun y => [Value.ref 460, Value.int y]) (by rw [ein]; exact (M2.2.2.2.2.2 i hib).1)), by omega, g2, hk, by simp only [List.length_append] at hl ⊢; omega, by simp only [List.length_append] at hl ⊢; omega, fun I3 g3 f3 => ?_⟩
        have F3 := tw_F_t F2 f3
        have M3 := tw_M_F hM0 F3
        refine ⟨_, wm_t hT rfl, pp_b (c := 60) (by omega) (by omega), ?_⟩
        refine ⟨k, tw i, _, (by first | rfl | exact congrArg (fun y => [Value.ref 460, Value.int y]) (by rw [ein]; exact (M3.2.2.2.2.2 i hib).2)), by omega, g3, hk, by simp only [List.length_append] at hl ⊢; omega, by simp only [List.length_append] at hl ⊢; omega, fun I4 g4 f4 => ?_⟩
        refine ⟨100 - (i + 1), by omega, i + 1, ?_, rfl, rfl, rfl, rfl, rfl, rfl, rfl, hk, ek, by omega, ?_, tw_F_t F3 f4, rfl⟩
        · unfold tw_l90
          rw [← wq_4s]
          rfl
        · show tw_H k (_ ++ (tw_f (tw_ga a b on tw) i ++ (tw_n (2 * (1 + a + b + i)) ++ tw_n (on i) ++ tw_n (tw i)))) I4
          rw [← List.append_assoc, ← List.append_assoc, ← List.append_assoc]
          exact g4
    rw [if_neg p209] at hP
    cases hP
