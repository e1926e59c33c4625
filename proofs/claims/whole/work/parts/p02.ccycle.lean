/-! ===== the class: a design's cycle ===== -/
def dz_fr (c : Nat) (I I1 : Nat → Nat → Int32) : Prop := ∀ d j, ¬ d = c → I1 d j = I d j
theorem dz_fr_u {c k : Nat} {x : Int32} {I I1 : Nat → Nat → Int32} (h : dz_fr c I I1) : dz_fr c I (wv_u I1 c k x) := fun d j hd => (wv_u_no _ _ (fun y => hd y.1)).trans (h d j hd)
theorem tw_N_f {C : Nat} {a b g : Nat} {nx : Nat → Nat} {fi : Nat → Bool} {sg on tw : Nat → Nat} {I J : Nat → Nat → Int32} (h : tw_N C a b g nx fi sg on tw I) (f : dz_fr (C + 6) I J) : tw_N C a b g nx fi sg on tw J := by
  obtain ⟨h1, h2, h3, h4, h5, h6⟩ := h
  exact ⟨(f _ _ (by omega)).trans h1, (f _ _ (by omega)).trans h2, (f _ _ (by omega)).trans h3, fun i hi => ⟨(f _ _ (by omega)).trans (h4 i hi).1, (f _ _ (by omega)).trans (h4 i hi).2⟩, fun i hi => (f _ _ (by omega)).trans (h5 i hi), fun i hi => ⟨(f _ _ (by omega)).trans (h6 i hi).1, (f _ _ (by omega)).trans (h6 i hi).2⟩⟩
/-- one value more -/
theorem dz_put {c n : Nat} {y : Int32} {V W : Nat → Bool} {I1 : Nat → Nat → Int32} (h : ∀ v, v < n → I1 c v = wb_i (V v)) (hV : ∀ v, v < n → W v = V v) (hy : y = wb_i (W n)) : ∀ v, v < n + 1 → wv_u I1 c n y c v = wb_i (W v) := fun v hv => by
  by_cases e : v = n
  · subst e
    rw [wv_u_at]
    exact hy
  · rw [wv_u_no _ _ (fun z => e z.2), h v (by omega), hV v (by omega)]
def dz_f (a b g : Nat) (nx : Nat → Nat) (fi : Nat → Bool) (sg on tw : Nat → Nat) (s x k : Nat) : Bool := if k < 6 then dz_l (dz_n a b on tw s x g) (sg k) else dz_l (dz_n a b on tw s x g) (nx (k - 6))
theorem dz_f_all {a b g : Nat} {nx : Nat → Nat} {fi : Nat → Bool} {sg on tw : Nat → Nat} {s x : Nat} : dz_B (dz_f a b g nx fi sg on tw s x) (6 + b) = dz_let a b g nx fi sg on tw s x + 64 * dz_nx a b g nx fi sg on tw s x := by
  rw [dz_B_a b]
  have e1 : dz_B (dz_f a b g nx fi sg on tw s x) 6 = dz_let a b g nx fi sg on tw s x := dz_B_c 6 (fun k hk => if_pos hk)
  have e2 : dz_B (fun k => dz_f a b g nx fi sg on tw s x (6 + k)) b = dz_nx a b g nx fi sg on tw s x := dz_B_c b (fun k hk => by
    show (if 6 + k < 6 then _ else dz_l (dz_n a b on tw s x g) (nx (6 + k - 6))) = _
    rw [if_neg (by omega), show 6 + k - 6 = k by omega])
  rw [e1, e2]
def dz_l28 (C s x : Nat) (l3 : Nat) (l4 : Option Value) : List (Option Value) := [some (.ref C), some (.int (Int32.ofNat s)), some (.int (Int32.ofNat x)), some (.int (Int32.ofNat l3)), l4, none, none, none]
def dz_h328 (C s x : Nat) (a b g : Nat) (nx : Nat → Nat) (fi : Nat → Bool) (sg on tw : Nat → Nat) (T : wv_T) (N : Nat) (I : Nat → Nat → Int32) (L : Nat → Nat → Int64) (R : Nat → Nat → Option Nat) : Nat → Option (Nat → wv_P) := fun pc =>
  if pc = 2 then some (fun mm lv st T1 N1 I1 L1 R1 nc ns => ∃ (i : Nat), lv = dz_l28 C s x i none ∧ st = [] ∧ T1 = T ∧ N1 = N ∧ L1 = L ∧ R1 = R ∧ nc = 0 ∧ ns = 0 ∧ i ≤ a ∧ (∀ v, v < 1 + i → I1 (C + 6) v = wb_i (dz_0 a b s x v)) ∧ dz_fr (C + 6) I I1 ∧ mm = 1000 - i)
  else if pc = 31 then some (fun mm lv st T1 N1 I1 L1 R1 nc ns => ∃ (i : Nat), lv = dz_l28 C s x i none ∧ st = [] ∧ T1 = T ∧ N1 = N ∧ L1 = L ∧ R1 = R ∧ nc = 0 ∧ ns = 0 ∧ i ≤ b ∧ (∀ v, v < 1 + a + i → I1 (C + 6) v = wb_i (dz_0 a b s x v)) ∧ dz_fr (C + 6) I I1 ∧ mm = 900 - i)
  else if pc = 65 then some (fun mm lv st T1 N1 I1 L1 R1 nc ns => ∃ (i : Nat), lv = dz_l28 C s x i none ∧ st = [] ∧ T1 = T ∧ N1 = N ∧ L1 = L ∧ R1 = R ∧ nc = 0 ∧ ns = 0 ∧ i ≤ g ∧ (∀ v, v < 1 + a + b + i → I1 (C + 6) v = wb_i (dz_n a b on tw s x i v)) ∧ dz_fr (C + 6) I I1 ∧ mm = 800 - i)
  else if pc = 123 then some (fun mm lv st T1 N1 I1 L1 R1 nc ns => ∃ (i : Nat), lv = dz_l28 C s x (dz_B (dz_f a b g nx fi sg on tw s x) i) (some (.int (Int32.ofNat i))) ∧ st = [] ∧ T1 = T ∧ N1 = N ∧ L1 = L ∧ R1 = R ∧ nc = 0 ∧ ns = 0 ∧ i ≤ 6 ∧ (∀ v, v < 1 + a + b + g → I1 (C + 6) v = wb_i (dz_n a b on tw s x g v)) ∧ dz_fr (C + 6) I I1 ∧ mm = 700 - i)
  else if pc = 156 then some (fun mm lv st T1 N1 I1 L1 R1 nc ns => ∃ (i : Nat), lv = dz_l28 C s x (dz_B (dz_f a b g nx fi sg on tw s x) (6 + i)) (some (.int (Int32.ofNat i))) ∧ st = [] ∧ T1 = T ∧ N1 = N ∧ L1 = L ∧ R1 = R ∧ nc = 0 ∧ ns = 0 ∧ i ≤ b ∧ (∀ v, v < 1 + a + b + g → I1 (C + 6) v = wb_i (dz_n a b on tw s x g v)) ∧ dz_fr (C + 6) I I1 ∧ mm = 600 - i)
  else none
def dz_c328 : wv_c1 := fun as T N I L R q => ∃ (C s x : Nat) (a b g : Nat) (nx : Nat → Nat) (fi : Nat → Bool) (sg on tw : Nat → Nat), as = [.ref C, .int (Int32.ofNat s), .int (Int32.ofNat x)] ∧ wd_D T R C ∧ C + 6 < 1099511627776 ∧ dz_V a b g nx fi sg on tw ∧ tw_N C a b g nx fi sg on tw I ∧ I (C + 6) 0 = 0 ∧ s < 32 ∧ x < 8 ∧ ∀ I1, dz_fr (C + 6) I I1 → I1 (C + 6) 0 = 0 → q (.inl (some (.int (Int32.ofNat (dz_let a b g nx fi sg on tw s x + 64 * dz_nx a b g nx fi sg on tw s x))))) T N I1 L R 0 0
set_option maxRecDepth 100000 in
theorem wM_328 : ∃ cb ci np, pt_mt 328 = some (11, cb, 5, false, some .int, ci, np) := ⟨_, _, _, rfl⟩
set_option maxRecDepth 100000 in
set_option maxHeartbeats 4000000 in
theorem dz_cycle {sc : pt_Sc} {d : Nat} : wv_C wm_fx sc (d + 1 + 1) 328 dz_c328 := by
  rintro as T N I L R q ⟨C, s, x, a, b, g, nx, fi, sg, on, tw, rfl, hD, hC2, hV, hM, h0, hs, hx, h⟩ w0 HR
  obtain ⟨cb, ci, np, hm⟩ := wM_328
  have hc329 : wv_C wm_fx sc (d + 1) 329 dz_c329 := wv_C_deep (by omega) (dz_valueOf (d := d))
  refine wv_meth (hh := none) rfl (sp := wv_sp [(329, dz_c329)]) (hd := dz_h328 C s x a b g nx fi sg on tw T N I L R) (n := 300) (n1 := 300) hm zc_328 rfl (wv_sp_ok (fun q hq => by rw [List.mem_singleton.mp hq]; exact hc329)) ?_ ?_ HR
  · refine ⟨1000 - 0, 0, rfl, rfl, rfl, rfl, rfl, rfl, rfl, rfl, Nat.zero_le _, fun v hv => ?_, fun _ _ _ => rfl, rfl⟩
    have e : v = 0 := by omega
    subst e
    exact h0
  · intro pc P hP m lv st T1 N1 I1 L1 R1 nc ns hh
    obtain ⟨va1, va, vb, vg, vn, vs, vw⟩ := hV
    have one : Int32.ofInt 1 = Int32.ofNat 1 := rfl
    unfold dz_h328 at hP
    by_cases p2 : pc = 2
    · rw [if_pos p2] at hP
      cases hP
      subst p2
      obtain ⟨i, rfl, rfl, rfl, rfl, rfl, rfl, rfl, rfl, hi, hv, hfr, rfl⟩ := hh
      have M1 := tw_N_f hM hfr
      have ei := wi_on (n := i) (by omega)
      have ein := wi_onn (n := i) (by omega)
      have ea := wi_on (n := a) (by omega)
      refine ⟨hD.1, fun w1 => ?_, fun w1 => ?_⟩
      · have w1 : I1 C 8 ≤ Int32.ofNat i := w1
        rw [M1.1, wi_le, ea, ei] at w1
        have e : i = a := by omega
        subst e
        exact ⟨900 - 0, by omega, 0, rfl, rfl, rfl, rfl, rfl, rfl, rfl, rfl, Nat.zero_le _, hv, hfr, rfl⟩
      · have w1 : ¬ I1 C 8 ≤ Int32.ofNat i := w1
        rw [M1.1, wi_le, ea, ei] at w1
        refine ⟨hD.1, C + 6, hD.2.1 5 (by omega), _, hD.2.2.2.2.2.2.2, ?_, hC2, ?_⟩
        · rw [one, wi_ona]
          exact pp_b (c := 69) (by omega) (by omega)
        rw [one, wi_ona, wi_onn (show 1 + i < 2147483648 by omega)]
        refine ⟨1000 - (i + 1), by omega, i + 1, ?_, rfl, rfl, rfl, rfl, rfl, rfl, rfl, by omega, ?_, dz_fr_u hfr, rfl⟩
        · unfold dz_l28
          rw [← wq_4s]
          rfl
        · refine dz_put (n := 1 + i) hv (fun _ _ => rfl) ?_
          have e := dz_bit ⟨x, by omega⟩ ⟨i, by omega⟩
          rw [← one, e]
          unfold dz_0
          rw [if_neg (by omega), if_pos (by omega), show 1 + i - 1 = i by omega]
    rw [if_neg p2] at hP
    by_cases p31 : pc = 31
    · rw [if_pos p31] at hP
      cases hP
      subst p31
      obtain ⟨i, rfl, rfl, rfl, rfl, rfl, rfl, rfl, rfl, hi, hv, hfr, rfl⟩ := hh
      have M1 := tw_N_f hM hfr
      have ei := wi_on (n := i) (by omega)
      have ein := wi_onn (n := i) (by omega)
      have ea := wi_on (n := b) (by omega)
      refine ⟨hD.1, fun w1 => ?_, fun w1 => ?_⟩
      · have w1 : I1 C 9 ≤ Int32.ofNat i := w1
        rw [M1.2.1, wi_le, ea, ei] at w1
        have e : i = b := by omega
        subst e
        exact ⟨800 - 0, by omega, 0, rfl, rfl, rfl, rfl, rfl, rfl, rfl, rfl, Nat.zero_le _, hv, hfr, rfl⟩
      · have w1 : ¬ I1 C 9 ≤ Int32.ofNat i := w1
        rw [M1.2.1, wi_le, ea, ei] at w1
        refine ⟨hD.1, C + 6, hD.2.1 5 (by omega), hD.1, ?_⟩
        rw [M1.1]
        refine ⟨_, hD.2.2.2.2.2.2.2, ?_, hC2, ?_⟩
        · rw [one, wi_ona, wi_ona]
          exact pp_b (c := 69) (by omega) (by omega)
        rw [one, wi_ona, wi_ona, wi_onn (show 1 + a + i < 2147483648 by omega)]
        refine ⟨900 - (i + 1), by omega, i + 1, ?_, rfl, rfl, rfl, rfl, rfl, rfl, rfl, by omega, ?_, dz_fr_u hfr, rfl⟩
        · unfold dz_l28
          rw [← wq_4s]
          rfl
        · refine dz_put (n := 1 + a + i) hv (fun _ _ => rfl) ?_
          have e := dz_bit ⟨s, by omega⟩ ⟨i, by omega⟩
          rw [← one, e]
          unfold dz_0
          rw [if_neg (by omega), if_neg (by omega), if_pos (by omega), show 1 + a + i - 1 - a = i by omega]
    rw [if_neg p31] at hP
    by_cases p65 : pc = 65
    · rw [if_pos p65] at hP
      cases hP
      subst p65
      obtain ⟨i, rfl, rfl, rfl, rfl, rfl, rfl, rfl, rfl, hi, hv, hfr, rfl⟩ := hh
      have M1 := tw_N_f hM hfr
      have ei := wi_on (n := i) (by omega)
      have ein := wi_onn (n := i) (by omega)
      have ea := wi_on (n := g) (by omega)
      refine ⟨hD.1, fun w1 => ?_, fun w1 => ?_⟩
      · have w1 : I1 C 10 ≤ Int32.ofNat i := w1
        rw [M1.2.2.1, wi_le, ea, ei] at w1
        have e : i = g := by omega
        subst e
        exact ⟨700 - 0, by omega, 0, rfl, rfl, rfl, rfl, rfl, rfl, rfl, rfl, Nat.zero_le _, hv, hfr, rfl⟩
      · have w1 : ¬ I1 C 10 ≤ Int32.ofNat i := w1
        rw [M1.2.2.1, wi_le, ea, ei] at w1
        obtain ⟨o1, o2⟩ := vw i (by omega)
        obtain ⟨m1, m2⟩ := M1.2.2.2.2.2 i (by omega)
        refine ⟨hD.1, C + 6, hD.2.1 5 (by omega), hD.1, hD.1, hD.1, C + 1, hD.2.1 0 (by omega), _, hD.2.2.1, pp_b (c := 60) (by omega) (by omega), ?_⟩
        refine ⟨hD.1, C, on i, 1 + a + b + i, dz_n a b on tw s x i, (by first | rfl | exact congrArg (fun y => [Value.ref C, Value.int y]) (by rw [ein]; exact m1)), hD, by omega, o1, hv, ?_⟩
        refine ⟨hD.1, C + 2, hD.2.1 1 (by omega), _, hD.2.2.2.1, pp_b (c := 60) (by omega) (by omega), ?_⟩
        refine ⟨hD.1, C, tw i, 1 + a + b + i, dz_n a b on tw s x i, (by first | rfl | exact congrArg (fun y => [Value.ref C, Value.int y]) (by rw [ein]; exact m2)), hD, by omega, o2, hv, ?_⟩
        rw [M1.1, M1.2.1]
        refine ⟨_, hD.2.2.2.2.2.2.2, ?_, hC2, ?_⟩
        · rw [one, wi_ona, wi_ona, wi_ona]
          exact pp_b (c := 69) (by omega) (by omega)
        rw [one, wi_ona, wi_ona, wi_ona, wi_onn (show 1 + a + b + i < 2147483648 by omega)]
        refine ⟨800 - (i + 1), by omega, i + 1, ?_, rfl, rfl, rfl, rfl, rfl, rfl, rfl, by omega, ?_, dz_fr_u hfr, rfl⟩
        · unfold dz_l28
          rw [← wq_4s]
          rfl
        · refine dz_put (n := 1 + a + b + i) hv (fun v hv2 => ?_) ?_
          · exact if_neg (by omega)
          · rw [dz_and]
            exact congrArg wb_i (if_pos rfl).symm
    rw [if_neg p65] at hP
    by_cases p123 : pc = 123
    · rw [if_pos p123] at hP
      cases hP
      subst p123
      obtain ⟨i, rfl, rfl, rfl, rfl, rfl, rfl, rfl, rfl, hi, hv, hfr, rfl⟩ := hh
      have M1 := tw_N_f hM hfr
      have ei := wi_on (n := i) (by omega)
      have ein := wi_onn (n := i) (by omega)
      refine ⟨fun w1 => ?_, fun w1 => ?_⟩
      · have w1 : Int32.ofNat 6 ≤ Int32.ofNat i := w1
        rw [wi_le, wi_on (by omega), ei] at w1
        have e : i = 6 := by omega
        subst e
        exact ⟨600 - 0, by omega, 0, rfl, rfl, rfl, rfl, rfl, rfl, rfl, rfl, Nat.zero_le _, hv, hfr, rfl⟩
      · have w1 : ¬ Int32.ofNat 6 ≤ Int32.ofNat i := w1
        rw [wi_le, wi_on (by omega), ei] at w1
        have o1 := vs i (by omega)
        have m1 := M1.2.2.2.2.1 i (by omega)
        refine ⟨hD.1, C + 5, hD.2.1 4 (by omega), _, hD.2.2.2.2.2.2.1, pp_b (c := 6) (by omega) (by omega), ?_⟩
        refine ⟨hD.1, C, sg i, 1 + a + b + g, dz_n a b on tw s x g, (by first | rfl | exact congrArg (fun y => [Value.ref C, Value.int y]) (by rw [ein]; exact m1)), hD, by omega, o1, hv, ?_⟩
        have ef : dz_l (dz_n a b on tw s x g) (sg i) = dz_f a b g nx fi sg on tw s x i := (if_pos (by omega)).symm
        have e := dz_shb (dz_l (dz_n a b on tw s x g) (sg i)) ⟨i, by omega⟩
        refine ⟨700 - (i + 1), by omega, i + 1, ?_, rfl, rfl, rfl, rfl, rfl, rfl, rfl, by omega, hv, hfr, rfl⟩
        unfold dz_l28
        rw [← dz_or, ← ef, ← e, ← wq_4s]
        rfl
    rw [if_neg p123] at hP
    by_cases p156 : pc = 156
    · rw [if_pos p156] at hP
      cases hP
      subst p156
      obtain ⟨i, rfl, rfl, rfl, rfl, rfl, rfl, rfl, rfl, hi, hv, hfr, rfl⟩ := hh
      have M1 := tw_N_f hM hfr
      have ei := wi_on (n := i) (by omega)
      have ein := wi_onn (n := i) (by omega)
      have ea := wi_on (n := b) (by omega)
      refine ⟨hD.1, fun w1 => ?_, fun w1 => ?_⟩
      · have w1 : I1 C 9 ≤ Int32.ofNat i := w1
        rw [M1.2.1, wi_le, ea, ei] at w1
        have e : i = b := by omega
        subst e
        have h0 := hv 0 (by omega)
        have hq := h I1 hfr (h0.trans (by
          have z : dz_n a i on tw s x g 0 = false := by
            have z1 := dz_n_st (a := a) (b := i) (on := on) (tw := tw) (s := s) (x := x) (j := 0) (v := 0) (by omega) g
            rw [Nat.zero_add] at z1
            rw [z1]
            rfl
          rw [z]
          rfl))
        rw [← dz_f_all] at hq
        exact hq
      · have w1 : ¬ I1 C 9 ≤ Int32.ofNat i := w1
        rw [M1.2.1, wi_le, ea, ei] at w1
        have o1 := vn i (by omega)
        have m1 := (M1.2.2.2.1 i (by omega)).1
        refine ⟨hD.1, C + 3, hD.2.1 2 (by omega), _, hD.2.2.2.2.1, pp_b (c := 5) (by omega) (by omega), ?_⟩
        refine ⟨hD.1, C, nx i, 1 + a + b + g, dz_n a b on tw s x g, (by first | rfl | exact congrArg (fun y => [Value.ref C, Value.int y]) (by rw [ein]; exact m1)), hD, by omega, o1, hv, ?_⟩
        have ef : dz_l (dz_n a b on tw s x g) (nx i) = dz_f a b g nx fi sg on tw s x (6 + i) := by
          show _ = (if 6 + i < 6 then _ else dz_l (dz_n a b on tw s x g) (nx (6 + i - 6)))
          rw [if_neg (by omega), show 6 + i - 6 = i by omega]
        have e := dz_shb (dz_l (dz_n a b on tw s x g) (nx i)) ⟨6 + i, by omega⟩
        have e6 : (Int8.ofInt 6).toInt32 + Int32.ofNat i = Int32.ofNat (6 + i) := wi_ona 6 i
        refine ⟨600 - (i + 1), by omega, i + 1, ?_, rfl, rfl, rfl, rfl, rfl, rfl, rfl, by omega, hv, hfr, rfl⟩
        unfold dz_l28
        rw [show 6 + (i + 1) = 6 + i + 1 from rfl, ← dz_or, ← ef, ← e, ← e6, ← wq_4s]
        rfl
    rw [if_neg p156] at hP
    cases hP
def dz_l24 (C l1 l2 : Nat) : List (Option Value) := [some (.ref C), some (.int (Int32.ofNat l1)), some (.int (Int32.ofNat l2)), none]
def dz_h324 (C b : Nat) (fi : Nat → Bool) (T : wv_T) (N : Nat) (I : Nat → Nat → Int32) (L : Nat → Nat → Int64) (R : Nat → Nat → Option Nat) : Nat → Option (Nat → wv_P) := fun pc =>
  if pc = 4 then some (fun mm lv st T1 N1 I1 L1 R1 nc ns => ∃ (i : Nat), lv = dz_l24 C (dz_B fi i) i ∧ st = [] ∧ T1 = T ∧ N1 = N ∧ R1 = R ∧ nc = 0 ∧ ns = 0 ∧ I1 = I ∧ L1 = L ∧ i ≤ b ∧ mm = 100 - i)
  else none
def dz_c324 : wv_c1 := fun as T N I L R q => ∃ (C b : Nat) (fi : Nat → Bool), as = [.ref C] ∧ wd_D T R C ∧ I C 9 = Int32.ofNat b ∧ b ≤ 5 ∧ (∀ i, i < b → I (C + 4) i = wb_i (fi i)) ∧ q (.inl (some (.int (Int32.ofNat (dz_B fi b))))) T N I L R 0 0
set_option maxRecDepth 100000 in
theorem wM_324 : ∃ cb ci np, pt_mt 324 = some (11, cb, 3, false, some .int, ci, np) := ⟨_, _, _, rfl⟩
set_option maxRecDepth 100000 in
set_option maxHeartbeats 4000000 in
theorem dz_firstLatches {sc : pt_Sc} {d : Nat} : wv_C wm_fx sc (d + 1) 324 dz_c324 := by
  rintro as T N I L R q ⟨C, b, fi, rfl, hD, h9, hb5, hf, h⟩ w0 HR
  obtain ⟨cb, ci, np, hm⟩ := wM_324
  refine wv_meth (hh := none) rfl (sp := fun _ _ _ _ _ _ _ _ => False) (hd := dz_h324 C b fi T N I L R) (n := 300) (n1 := 300) hm zc_324 rfl (fun k as T N I L R q h => by cases h) ?_ ?_ HR
  · exact ⟨100 - 0, 0, rfl, rfl, rfl, rfl, rfl, rfl, rfl, rfl, rfl, Nat.zero_le _, rfl⟩
  · intro pc P hP m lv st T1 N1 I1 L1 R1 nc ns hh
    unfold dz_h324 at hP
    by_cases p4 : pc = 4
    · rw [if_pos p4] at hP
      cases hP
      subst p4
      obtain ⟨i, rfl, rfl, rfl, rfl, rfl, rfl, rfl, rfl, rfl, hi, rfl⟩ := hh
      have ei := wi_on (n := i) (by omega)
      have ein := wi_onn (n := i) (by omega)
      refine ⟨hD.1, fun w1 => ?_, fun w1 => ?_⟩
      · have w1 : I1 C 9 ≤ Int32.ofNat i := w1
        rw [h9, wi_le, wi_on (by omega), ei] at w1
        have e : i = b := by omega
        subst e
        exact h
      · have w1 : ¬ I1 C 9 ≤ Int32.ofNat i := w1
        rw [h9, wi_le, wi_on (by omega), ei] at w1
        refine ⟨hD.1, C + 4, hD.2.1 3 (by omega), 2, _, Or.inl rfl, hD.2.2.2.2.2.1, pp_b (c := 5) (by omega) (by omega), ?_⟩
        rw [ein, hf i (by omega)]
        refine ⟨fun w2 => ?_, fun w2 => ?_⟩
        · have e3 := wb_i_0.mp w2
          refine ⟨100 - (i + 1), by omega, i + 1, ?_, rfl, rfl, rfl, rfl, rfl, rfl, rfl, rfl, by omega, rfl⟩
          unfold dz_l24
          rw [← dz_or, e3, if_neg (by decide), ← wq_4s]
          rfl
        · have e3 := wb_i_1.mp w2
          refine ⟨100 - (i + 1), by omega, i + 1, ?_, rfl, rfl, rfl, rfl, rfl, rfl, rfl, rfl, by omega, rfl⟩
          unfold dz_l24
          rw [← dz_or, e3, if_pos rfl, ← dz_sh1 i (by omega), ← wq_4s]
          rfl
    rw [if_neg p4] at hP
    cases hP
