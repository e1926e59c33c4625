/-! ===== the reference: a design's cycle ===== -/
theorem dz_nb : ∀ b : Bool, vp_nar .boolean (wb_i b) = wb_i b := by decide
theorem tw_M_f {a b g : Nat} {nx : Nat → Nat} {fi : Nat → Bool} {sg on tw : Nat → Nat} {I J : Nat → Nat → Int32} (h : tw_M a b g nx fi sg on tw I) (f : dz_fr 501 I J) : tw_M a b g nx fi sg on tw J := by
  obtain ⟨h1, h2, h3, h4, h5, h6⟩ := h
  exact ⟨(f _ _ (by omega)).trans h1, (f _ _ (by omega)).trans h2, (f _ _ (by omega)).trans h3, fun i hi => ⟨(f _ _ (by omega)).trans (h4 i hi).1, (f _ _ (by omega)).trans (h4 i hi).2⟩, fun i hi => (f _ _ (by omega)).trans (h5 i hi), fun i hi => ⟨(f _ _ (by omega)).trans (h6 i hi).1, (f _ _ (by omega)).trans (h6 i hi).2⟩⟩
def dz_l59 (s x : Nat) (l3 : Nat) (l4 : Option Value) : List (Option Value) := [some (.ref 460), some (.int (Int32.ofNat s)), some (.int (Int32.ofNat x)), some (.int (Int32.ofNat l3)), l4, none, none, none]
def dz_h459 (s x : Nat) (a b g : Nat) (nx : Nat → Nat) (fi : Nat → Bool) (sg on tw : Nat → Nat) (T : wv_T) (N : Nat) (I : Nat → Nat → Int32) (L : Nat → Nat → Int64) (R : Nat → Nat → Option Nat) : Nat → Option (Nat → wv_P) := fun pc =>
  if pc = 9 then some (fun mm lv st T1 N1 I1 L1 R1 nc ns => ∃ (i : Nat), lv = dz_l59 s x i none ∧ st = [] ∧ T1 = T ∧ N1 = N ∧ L1 = L ∧ R1 = R ∧ nc = 0 ∧ ns = 0 ∧ i ≤ a ∧ (∀ v, v < 1 + i → I1 501 v = wb_i (dz_0 a b s x v)) ∧ dz_fr 501 I I1 ∧ mm = 1000 - i)
  else if pc = 47 then some (fun mm lv st T1 N1 I1 L1 R1 nc ns => ∃ (i : Nat), lv = dz_l59 s x i none ∧ st = [] ∧ T1 = T ∧ N1 = N ∧ L1 = L ∧ R1 = R ∧ nc = 0 ∧ ns = 0 ∧ i ≤ b ∧ (∀ v, v < 1 + a + i → I1 501 v = wb_i (dz_0 a b s x v)) ∧ dz_fr 501 I I1 ∧ mm = 900 - i)
  else if pc = 90 then some (fun mm lv st T1 N1 I1 L1 R1 nc ns => ∃ (i : Nat), lv = dz_l59 s x i none ∧ st = [] ∧ T1 = T ∧ N1 = N ∧ L1 = L ∧ R1 = R ∧ nc = 0 ∧ ns = 0 ∧ i ≤ g ∧ (∀ v, v < 1 + a + b + i → I1 501 v = wb_i (dz_n a b on tw s x i v)) ∧ dz_fr 501 I I1 ∧ mm = 800 - i)
  else if pc = 158 then some (fun mm lv st T1 N1 I1 L1 R1 nc ns => ∃ (i : Nat), lv = dz_l59 s x (dz_B (fun k => dz_l (dz_n a b on tw s x g) (sg k)) i) (some (.int (Int32.ofNat i))) ∧ st = [] ∧ T1 = T ∧ N1 = N ∧ L1 = L ∧ R1 = R ∧ nc = 0 ∧ ns = 0 ∧ i ≤ 6 ∧ (∀ v, v < 1 + a + b + g → I1 501 v = wb_i (dz_n a b on tw s x g v)) ∧ dz_fr 501 I I1 ∧ mm = 700 - i)
  else none
def dz_c459 : wv_c1 := fun as T N I L R q => ∃ (s x : Nat) (a b g : Nat) (nx : Nat → Nat) (fi : Nat → Bool) (sg on tw : Nat → Nat), as = [.ref 460, .int (Int32.ofNat s), .int (Int32.ofNat x)] ∧ wm_T T ∧ dz_V a b g nx fi sg on tw ∧ tw_M a b g nx fi sg on tw I ∧ s < 32 ∧ x < 8 ∧ ∀ I1, dz_fr 501 I I1 → (∀ v, v < 1 + a + b + g → I1 501 v = wb_i (dz_n a b on tw s x g v)) → q (.inl (some (.int (Int32.ofNat (dz_let a b g nx fi sg on tw s x))))) T N I1 L R 0 0
set_option maxRecDepth 100000 in
theorem wM_459 : ∃ cb ci np, pt_mt 459 = some (32, cb, 5, false, some .int, ci, np) := ⟨_, _, _, rfl⟩
set_option maxRecDepth 100000 in
set_option maxHeartbeats 4000000 in
theorem dz_mcycle {sc : pt_Sc} {d : Nat} : wv_C wm_fx sc (d + 1 + 1) 459 dz_c459 := by
  rintro as T N I L R q ⟨s, x, a, b, g, nx, fi, sg, on, tw, rfl, hT, hV, hM, hs, hx, h⟩ w0 HR
  obtain ⟨cb, ci, np, hm⟩ := wM_459
  have hc460 : wv_C wm_fx sc (d + 1) 460 dz_c460 := wv_C_deep (by omega) (dz_value (d := d))
  refine wv_meth (hh := none) rfl (sp := wv_sp [(460, dz_c460)]) (hd := dz_h459 s x a b g nx fi sg on tw T N I L R) (n := 300) (n1 := 300) hm zc_459 rfl (wv_sp_ok (fun q hq => by rw [List.mem_singleton.mp hq]; exact hc460)) ?_ ?_ HR
  · refine ⟨_, wm_t hT rfl, ⟨by decide, by decide⟩, by decide, ?_⟩
    refine ⟨1000 - 0, 0, rfl, rfl, rfl, rfl, rfl, rfl, rfl, rfl, Nat.zero_le _, fun v hv => ?_, fun d j hd => wv_u_no _ _ (fun y => hd y.1), rfl⟩
    have e : v = 0 := by omega
    subst e
    exact wv_u_at _ _ _ _
  · intro pc P hP m lv st T1 N1 I1 L1 R1 nc ns hh
    obtain ⟨va1, va, vb, vg, vn, vs, vw⟩ := hV
    have one : Int32.ofInt 1 = Int32.ofNat 1 := rfl
    unfold dz_h459 at hP
    by_cases p9 : pc = 9
    · rw [if_pos p9] at hP
      cases hP
      subst p9
      obtain ⟨i, rfl, rfl, rfl, rfl, rfl, rfl, rfl, rfl, hi, hv, hfr, rfl⟩ := hh
      have M1 := tw_M_f hM hfr
      have ei := wi_on (n := i) (by omega)
      have ein := wi_onn (n := i) (by omega)
      have ea := wi_on (n := a) (by omega)
      refine ⟨fun w1 => ?_, fun w1 => ?_⟩
      · have w1 : I1 460 56 ≤ Int32.ofNat i := w1
        rw [M1.1, wi_le, ea, ei] at w1
        have e : i = a := by omega
        subst e
        exact ⟨900 - 0, by omega, 0, rfl, rfl, rfl, rfl, rfl, rfl, rfl, rfl, Nat.zero_le _, hv, hfr, rfl⟩
      · have w1 : ¬ I1 460 56 ≤ Int32.ofNat i := w1
        rw [M1.1, wi_le, ea, ei] at w1
        have eb : (Int32.ofNat x >>> (Int32.ofNat i &&& 31)) &&& Int32.ofInt 1 = wb_i (x.testBit i) := dz_bit ⟨x, by omega⟩ ⟨i, by omega⟩
        have ev : dz_0 a b s x (1 + i) = x.testBit i := by
          unfold dz_0
          rw [if_neg (by omega), if_pos (by omega), show 1 + i - 1 = i by omega]
        refine ⟨fun w2 => ?_, fun w2 => ?_⟩
        · have w2 : ¬ (Int32.ofNat x >>> (Int32.ofNat i &&& 31)) &&& Int32.ofInt 1 = Int32.ofInt 1 := w2
          have e3 : x.testBit i = false := by
            cases hb : x.testBit i with
            | false => rfl
            | true =>
              rw [eb, hb] at w2
              exact absurd rfl w2
          refine ⟨_, wm_t hT rfl, ?_, by decide, ?_⟩
          · rw [one, wi_ona]
            exact pp_b (c := 70) (by omega) (by omega)
          rw [one, wi_ona, wi_onn (show 1 + i < 2147483648 by omega)]
          refine ⟨1000 - (i + 1), by omega, i + 1, ?_, rfl, rfl, rfl, rfl, rfl, rfl, rfl, by omega, ?_, dz_fr_u hfr, rfl⟩
          · unfold dz_l59
            rw [← wq_4s]
            rfl
          · refine dz_put (n := 1 + i) hv (fun _ _ => rfl) ?_
            exact (by rw [ev, e3]; rfl)
        · have w2 : ¬ ¬ (Int32.ofNat x >>> (Int32.ofNat i &&& 31)) &&& Int32.ofInt 1 = Int32.ofInt 1 := w2
          have e3 : x.testBit i = true := by
            cases hb : x.testBit i with
            | true => rfl
            | false =>
              rw [eb, hb] at w2
              exact absurd (by decide) w2
          refine ⟨_, wm_t hT rfl, ?_, by decide, ?_⟩
          · rw [one, wi_ona]
            exact pp_b (c := 70) (by omega) (by omega)
          rw [one, wi_ona, wi_onn (show 1 + i < 2147483648 by omega)]
          refine ⟨1000 - (i + 1), by omega, i + 1, ?_, rfl, rfl, rfl, rfl, rfl, rfl, rfl, by omega, ?_, dz_fr_u hfr, rfl⟩
          · unfold dz_l59
            rw [← wq_4s]
            rfl
          · refine dz_put (n := 1 + i) hv (fun _ _ => rfl) ?_
            exact (by rw [ev, e3]; rfl)
    rw [if_neg p9] at hP
    by_cases p47 : pc = 47
    · rw [if_pos p47] at hP
      cases hP
      subst p47
      obtain ⟨i, rfl, rfl, rfl, rfl, rfl, rfl, rfl, rfl, hi, hv, hfr, rfl⟩ := hh
      have M1 := tw_M_f hM hfr
      have ei := wi_on (n := i) (by omega)
      have ein := wi_onn (n := i) (by omega)
      have ea := wi_on (n := b) (by omega)
      refine ⟨fun w1 => ?_, fun w1 => ?_⟩
      · have w1 : I1 460 57 ≤ Int32.ofNat i := w1
        rw [M1.2.1, wi_le, ea, ei] at w1
        have e : i = b := by omega
        subst e
        exact ⟨800 - 0, by omega, 0, rfl, rfl, rfl, rfl, rfl, rfl, rfl, rfl, Nat.zero_le _, hv, hfr, rfl⟩
      · have w1 : ¬ I1 460 57 ≤ Int32.ofNat i := w1
        rw [M1.2.1, wi_le, ea, ei] at w1
        have eb : (Int32.ofNat s >>> (Int32.ofNat i &&& 31)) &&& Int32.ofInt 1 = wb_i (s.testBit i) := dz_bit ⟨s, by omega⟩ ⟨i, by omega⟩
        have ev : dz_0 a b s x (1 + a + i) = s.testBit i := by
          unfold dz_0
          rw [if_neg (by omega), if_neg (by omega), if_pos (by omega), show 1 + a + i - 1 - a = i by omega]
        refine ⟨fun w2 => ?_, fun w2 => ?_⟩
        · have w2 : ¬ (Int32.ofNat s >>> (Int32.ofNat i &&& 31)) &&& Int32.ofInt 1 = Int32.ofInt 1 := w2
          have e3 : s.testBit i = false := by
            cases hb : s.testBit i with
            | false => rfl
            | true =>
              rw [eb, hb] at w2
              exact absurd rfl w2
          refine ⟨_, wm_t hT rfl, ?_, by decide, ?_⟩
          · rw [M1.1, one, wi_ona, wi_ona]
            exact pp_b (c := 70) (by omega) (by omega)
          rw [M1.1, one, wi_ona, wi_ona, wi_onn (show 1 + a + i < 2147483648 by omega)]
          refine ⟨900 - (i + 1), by omega, i + 1, ?_, rfl, rfl, rfl, rfl, rfl, rfl, rfl, by omega, ?_, dz_fr_u hfr, rfl⟩
          · unfold dz_l59
            rw [← wq_4s]
            rfl
          · refine dz_put (n := 1 + a + i) hv (fun _ _ => rfl) ?_
            exact (by rw [ev, e3]; rfl)
        · have w2 : ¬ ¬ (Int32.ofNat s >>> (Int32.ofNat i &&& 31)) &&& Int32.ofInt 1 = Int32.ofInt 1 := w2
          have e3 : s.testBit i = true := by
            cases hb : s.testBit i with
            | true => rfl
            | false =>
              rw [eb, hb] at w2
              exact absurd (by decide) w2
          refine ⟨_, wm_t hT rfl, ?_, by decide, ?_⟩
          · rw [M1.1, one, wi_ona, wi_ona]
            exact pp_b (c := 70) (by omega) (by omega)
          rw [M1.1, one, wi_ona, wi_ona, wi_onn (show 1 + a + i < 2147483648 by omega)]
          refine ⟨900 - (i + 1), by omega, i + 1, ?_, rfl, rfl, rfl, rfl, rfl, rfl, rfl, by omega, ?_, dz_fr_u hfr, rfl⟩
          · unfold dz_l59
            rw [← wq_4s]
            rfl
          · refine dz_put (n := 1 + a + i) hv (fun _ _ => rfl) ?_
            exact (by rw [ev, e3]; rfl)
    rw [if_neg p47] at hP
    by_cases p90 : pc = 90
    · rw [if_pos p90] at hP
      cases hP
      subst p90
      obtain ⟨i, rfl, rfl, rfl, rfl, rfl, rfl, rfl, rfl, hi, hv, hfr, rfl⟩ := hh
      have M1 := tw_M_f hM hfr
      have ei := wi_on (n := i) (by omega)
      have ein := wi_onn (n := i) (by omega)
      have ea := wi_on (n := g) (by omega)
      refine ⟨fun w1 => ?_, fun w1 => ?_⟩
      · have w1 : I1 460 58 ≤ Int32.ofNat i := w1
        rw [M1.2.2.1, wi_le, ea, ei] at w1
        have e : i = g := by omega
        subst e
        exact ⟨700 - 0, by omega, 0, rfl, rfl, rfl, rfl, rfl, rfl, rfl, rfl, Nat.zero_le _, hv, hfr, rfl⟩
      · have w1 : ¬ I1 460 58 ≤ Int32.ofNat i := w1
        rw [M1.2.2.1, wi_le, ea, ei] at w1
        obtain ⟨o1, o2⟩ := vw i (by omega)
        obtain ⟨m1, m2⟩ := M1.2.2.2.2.2 i (by omega)
        have ev : dz_n a b on tw s x (i + 1) (1 + a + b + i) = (dz_l (dz_n a b on tw s x i) (on i) && dz_l (dz_n a b on tw s x i) (tw i)) := if_pos rfl
        refine ⟨_, wm_t hT rfl, pp_b (c := 60) (by omega) (by omega), ?_⟩
        refine ⟨on i, 1 + a + b + i, dz_n a b on tw s x i, (by first | rfl | exact congrArg (fun y => [Value.ref 460, Value.int y]) (by rw [ein]; exact m1)), hT, by omega, o1, hv, ?_⟩
        refine ⟨fun w2 => ?_, fun w2 => ?_⟩
        · have e3 := wb_i_0.mp w2
          refine ⟨_, wm_t hT rfl, ?_, by decide, ?_⟩
          · rw [M1.1, M1.2.1, one, wi_ona, wi_ona, wi_ona]
            exact pp_b (c := 70) (by omega) (by omega)
          rw [M1.1, M1.2.1, one, wi_ona, wi_ona, wi_ona, wi_onn (show 1 + a + b + i < 2147483648 by omega)]
          refine ⟨800 - (i + 1), by omega, i + 1, ?_, rfl, rfl, rfl, rfl, rfl, rfl, rfl, by omega, ?_, dz_fr_u hfr, rfl⟩
          · unfold dz_l59
            rw [← wq_4s]
            rfl
          · refine dz_put (n := 1 + a + b + i) hv (fun v hv2 => if_neg (by omega)) ?_
            exact (by rw [ev, e3]; rfl)
        · have e3 := wb_i_1.mp w2
          refine ⟨_, wm_t hT rfl, pp_b (c := 60) (by omega) (by omega), ?_⟩
          refine ⟨tw i, 1 + a + b + i, dz_n a b on tw s x i, (by first | rfl | exact congrArg (fun y => [Value.ref 460, Value.int y]) (by rw [ein]; exact m2)), hT, by omega, o2, hv, ?_⟩
          refine ⟨fun w3 => ?_, fun w3 => ?_⟩
          · have e4 := wb_i_0.mp w3
            refine ⟨_, wm_t hT rfl, ?_, by decide, ?_⟩
            · rw [M1.1, M1.2.1, one, wi_ona, wi_ona, wi_ona]
              exact pp_b (c := 70) (by omega) (by omega)
            rw [M1.1, M1.2.1, one, wi_ona, wi_ona, wi_ona, wi_onn (show 1 + a + b + i < 2147483648 by omega)]
            refine ⟨800 - (i + 1), by omega, i + 1, ?_, rfl, rfl, rfl, rfl, rfl, rfl, rfl, by omega, ?_, dz_fr_u hfr, rfl⟩
            · unfold dz_l59
              rw [← wq_4s]
              rfl
            · refine dz_put (n := 1 + a + b + i) hv (fun v hv2 => if_neg (by omega)) ?_
              exact (by rw [ev, e3, e4]; rfl)
          · have e4 := wb_i_1.mp w3
            refine ⟨_, wm_t hT rfl, ?_, by decide, ?_⟩
            · rw [M1.1, M1.2.1, one, wi_ona, wi_ona, wi_ona]
              exact pp_b (c := 70) (by omega) (by omega)
            rw [M1.1, M1.2.1, one, wi_ona, wi_ona, wi_ona, wi_onn (show 1 + a + b + i < 2147483648 by omega)]
            refine ⟨800 - (i + 1), by omega, i + 1, ?_, rfl, rfl, rfl, rfl, rfl, rfl, rfl, by omega, ?_, dz_fr_u hfr, rfl⟩
            · unfold dz_l59
              rw [← wq_4s]
              rfl
            · refine dz_put (n := 1 + a + b + i) hv (fun v hv2 => if_neg (by omega)) ?_
              exact (by rw [ev, e3, e4]; rfl)
    rw [if_neg p90] at hP
    by_cases p158 : pc = 158
    · rw [if_pos p158] at hP
      cases hP
      subst p158
      obtain ⟨i, rfl, rfl, rfl, rfl, rfl, rfl, rfl, rfl, hi, hv, hfr, rfl⟩ := hh
      have M1 := tw_M_f hM hfr
      have ei := wi_on (n := i) (by omega)
      have ein := wi_onn (n := i) (by omega)
      refine ⟨fun w1 => ?_, fun w1 => ?_⟩
      · have w1 : Int32.ofNat 6 ≤ Int32.ofNat i := w1
        rw [wi_le, wi_on (by omega), ei] at w1
        have e : i = 6 := by omega
        subst e
        exact h I1 hfr hv
      · have w1 : ¬ Int32.ofNat 6 ≤ Int32.ofNat i := w1
        rw [wi_le, wi_on (by omega), ei] at w1
        have o1 := vs i (by omega)
        have m1 := M1.2.2.2.2.1 i (by omega)
        refine ⟨_, wm_t hT rfl, pp_b (c := 6) (by omega) (by omega), ?_⟩
        refine ⟨sg i, 1 + a + b + g, dz_n a b on tw s x g, (by first | rfl | exact congrArg (fun y => [Value.ref 460, Value.int y]) (by rw [ein]; exact m1)), hT, by omega, o1, hv, ?_⟩
        refine ⟨fun w2 => ?_, fun w2 => ?_⟩
        · have e3 := wb_i_0.mp w2
          refine ⟨700 - (i + 1), by omega, i + 1, ?_, rfl, rfl, rfl, rfl, rfl, rfl, rfl, by omega, hv, hfr, rfl⟩
          unfold dz_l59
          rw [← dz_or, e3, if_neg (by decide), ← wq_4s]
          rfl
        · have e3 := wb_i_1.mp w2
          refine ⟨700 - (i + 1), by omega, i + 1, ?_, rfl, rfl, rfl, rfl, rfl, rfl, rfl, by omega, hv, hfr, rfl⟩
          unfold dz_l59
          rw [← dz_or, e3, if_pos rfl, ← dz_sh1 i (by omega), ← wq_4s]
          rfl
    rw [if_neg p158] at hP
    cases hP
def dz_l61 (l1 l2 : Nat) : List (Option Value) := [some (.ref 460), some (.int (Int32.ofNat l1)), some (.int (Int32.ofNat l2)), none]
def dz_h461 (n b : Nat) (nx : Nat → Nat) (V : Nat → Bool) (T : wv_T) (N : Nat) (I : Nat → Nat → Int32) (L : Nat → Nat → Int64) (R : Nat → Nat → Option Nat) : Nat → Option (Nat → wv_P) := fun pc =>
  if pc = 4 then some (fun mm lv st T1 N1 I1 L1 R1 nc ns => ∃ (i : Nat), lv = dz_l61 (dz_B (fun k => dz_l V (nx k)) i) i ∧ st = [] ∧ T1 = T ∧ N1 = N ∧ R1 = R ∧ nc = 0 ∧ ns = 0 ∧ I1 = I ∧ L1 = L ∧ i ≤ b ∧ mm = 100 - i)
  else none
def dz_c461 : wv_c1 := fun as T N I L R q => ∃ (n b : Nat) (nx : Nat → Nat) (V : Nat → Bool), as = [.ref 460] ∧ wm_T T ∧ I 460 57 = Int32.ofNat b ∧ b ≤ 5 ∧ n ≤ 69 ∧ (∀ i, i < b → I 498 i = Int32.ofNat (nx i) ∧ nx i < 2 * n) ∧ (∀ v, v < n → I 501 v = wb_i (V v)) ∧ q (.inl (some (.int (Int32.ofNat (dz_B (fun k => dz_l V (nx k)) b))))) T N I L R 0 0
set_option maxRecDepth 100000 in
theorem wM_461 : ∃ cb ci np, pt_mt 461 = some (32, cb, 3, false, some .int, ci, np) := ⟨_, _, _, rfl⟩
set_option maxRecDepth 100000 in
set_option maxHeartbeats 4000000 in
theorem dz_nextState {sc : pt_Sc} {d : Nat} : wv_C wm_fx sc (d + 1 + 1) 461 dz_c461 := by
  rintro as T N I L R q ⟨n, b, nx, V, rfl, hT, h9, hb5, hn, hf, hv, h⟩ w0 HR
  obtain ⟨cb, ci, np, hm⟩ := wM_461
  have hc460 : wv_C wm_fx sc (d + 1) 460 dz_c460 := wv_C_deep (by omega) (dz_value (d := d))
  refine wv_meth (hh := none) rfl (sp := wv_sp [(460, dz_c460)]) (hd := dz_h461 n b nx V T N I L R) (n := 300) (n1 := 300) hm zc_461 rfl (wv_sp_ok (fun q hq => by rw [List.mem_singleton.mp hq]; exact hc460)) ?_ ?_ HR
  · exact ⟨100 - 0, 0, rfl, rfl, rfl, rfl, rfl, rfl, rfl, rfl, rfl, Nat.zero_le _, rfl⟩
  · intro pc P hP m lv st T1 N1 I1 L1 R1 nc ns hh
    unfold dz_h461 at hP
    by_cases p4 : pc = 4
    · rw [if_pos p4] at hP
      cases hP
      subst p4
      obtain ⟨i, rfl, rfl, rfl, rfl, rfl, rfl, rfl, rfl, rfl, hi, rfl⟩ := hh
      have ei := wi_on (n := i) (by omega)
      have ein := wi_onn (n := i) (by omega)
      refine ⟨fun w1 => ?_, fun w1 => ?_⟩
      · have w1 : I1 460 57 ≤ Int32.ofNat i := w1
        rw [h9, wi_le, wi_on (by omega), ei] at w1
        have e : i = b := by omega
        subst e
        exact h
      · have w1 : ¬ I1 460 57 ≤ Int32.ofNat i := w1
        rw [h9, wi_le, wi_on (by omega), ei] at w1
        obtain ⟨m1, o1⟩ := hf i (by omega)
        refine ⟨_, wm_t hT rfl, pp_b (c := 5) (by omega) (by omega), ?_⟩
        refine ⟨nx i, n, V, (by first | rfl | exact congrArg (fun y => [Value.ref 460, Value.int y]) (by rw [ein]; exact m1)), hT, hn, o1, hv, ?_⟩
        refine ⟨fun w2 => ?_, fun w2 => ?_⟩
        · have e3 := wb_i_0.mp w2
          refine ⟨100 - (i + 1), by omega, i + 1, ?_, rfl, rfl, rfl, rfl, rfl, rfl, rfl, rfl, by omega, rfl⟩
          unfold dz_l61
          rw [← dz_or, e3, if_neg (by decide), ← wq_4s]
          rfl
        · have e3 := wb_i_1.mp w2
          refine ⟨100 - (i + 1), by omega, i + 1, ?_, rfl, rfl, rfl, rfl, rfl, rfl, rfl, rfl, by omega, rfl⟩
          unfold dz_l61
          rw [← dz_or, e3, if_pos rfl, ← dz_sh1 i (by omega), ← wq_4s]
          rfl
    rw [if_neg p4] at hP
    cases hP
