/-! ===== the reference: classes, classOf, classBehind, kind ===== -/
theorem rk_1280 (p c : Nat) : (Int16.ofInt 1280).toInt32 * Int32.ofNat p + Int32.ofNat c = Int32.ofNat (320 * (4 * p) + c) := by
  rw [show (Int16.ofInt 1280).toInt32 = Int32.ofNat 1280 from rfl, ← Int32.ofNat_mul, wi_ona]
  congr 1
  omega
def rk_l15 (l : List (Option Value)) (n : Nat) : List (Option Value) := l ++ List.replicate n none
def rk_h1 (lw : List (Option Value)) (pi : Int32) (T : wv_T) (N : Nat) (I : Nat → Nat → Int32) (L : Nat → Nat → Int64) (R : Nat → Nat → Option Nat) : Nat → Option (Nat → wv_P) := fun pc =>
  if pc = 15 then some (fun mm lv st T1 N1 I1 L1 R1 nc ns => ∃ f : Bool, lv = lw ∧ st = [.int (wb_i f), .ref 460] ∧ T1 = T ∧ N1 = N ∧ R1 = R ∧ nc = 0 ∧ ns = 0 ∧ I1 = I ∧ L1 = L ∧ mm = 1 ∧ (f = true ↔ rw_bp pi))
  else none
def rk_h2 (lw : List (Option Value)) (pi ii jj : Int32) (n : Nat) (T : wv_T) (N : Nat) (I : Nat → Nat → Int32) (L : Nat → Nat → Int64) (R : Nat → Nat → Option Nat) : Nat → Option (Nat → wv_P) := fun pc =>
  if pc = 15 then some (fun mm lv st T1 N1 I1 L1 R1 nc ns => ∃ f : Bool, lv = lw ∧ st = [.int (wb_i f), .ref 460] ∧ T1 = T ∧ N1 = N ∧ R1 = R ∧ nc = 0 ∧ ns = 0 ∧ I1 = I ∧ L1 = L ∧ mm = 2 ∧ (f = true ↔ rw_bp pi))
  else if pc = 37 then some (fun mm lv st T1 N1 I1 L1 R1 nc ns => ∃ f g : Bool, lv = lw ∧ st = [.int (wb_i g), .int (wb_i f), .ref 460] ∧ T1 = T ∧ N1 = N ∧ R1 = R ∧ nc = 0 ∧ ns = 0 ∧ I1 = I ∧ L1 = L ∧ mm = 1 ∧ (f = true ↔ rw_bp pi) ∧ (g = true ↔ rw_br (Int32.ofNat n) ii jj))
  else none
def rk_c415 : wv_c1 := fun as T N I L R q => ∃ (pi : Int32) (S : Nat → rn_N) (m0 x : Nat → Nat) (sq : Nat → List Nat) (lo : Nat → Nat → Nat) (U : Nat → Nat → np_A) (cl : Nat → Nat → Nat) (Al : Nat → Nat → Prop), as = [.ref 460, .int pi] ∧ (∀ p, p < 2 → rk_I T I p (S p) (m0 p) (x p) (sq p)) ∧ (rw_bp pi → q (.inl (some (.int 0))) T N (wv_u I 460 0 1) L R 0 0) ∧ ∀ p, p < 2 → pi = Int32.ofNat p → rk_Y p (S p) (lo p) (U p) (cl p) (Al p) (sq p) I L (fun I1 => I1 460 0 = 2 → q (.inl (some (.int 0))) T N I1 L R 0 0) (fun I1 => I1 460 0 = 3 → q (.inl (some (.int 0))) T N I1 L R 0 0) (fun K mv kd I1 L1 => I1 460 0 = 0 → q (.inl (some (.int (Int32.ofNat K)))) T N I1 L1 R 0 0)
set_option maxRecDepth 100000 in
theorem wM_415 : ∃ cb ci np, pt_mt 415 = some (32, cb, 2, false, some .int, ci, np) := ⟨_, _, _, rfl⟩
set_option maxRecDepth 100000 in
set_option maxHeartbeats 4000000 in
theorem rk_classes {sc : pt_Sc} {d : Nat} : wv_C wm_fx sc (d + 1 + 1 + 1 + 1 + 1 + 1 + 1 + 1) 415 rk_c415 := by
  rintro as T N I L R q ⟨pi, S, m0, x, sq, lo, U, cl, Al, rfl, hI, hb, h⟩ w0 HR
  obtain ⟨cb, ci, np, hm⟩ := wM_415
  have hc345 : wv_C wm_fx sc (d + 1 + 1 + 1 + 1 + 1 + 1 + 1) 345 wp_c345 := wv_C_deep (by omega) (wp_refuse (d := d))
  have hc416 : wv_C wm_fx sc (d + 1 + 1 + 1 + 1 + 1 + 1 + 1) 416 rk_c416 := wv_C_deep (by omega) (rk_classesOf (d := d))
  refine wv_meth (hh := none) rfl (sp := wv_sp [(345, wp_c345), (416, rk_c416)]) (hd := rk_h1 [some (.ref 460), some (.int pi), none, none] pi T N I L R) (n := 300) (n1 := 300) hm zc_415 rfl (wv_sp_ok (fun q hq => by
    rcases List.mem_cons.mp hq with h | h
    · rw [h]; exact hc345
    rw [List.mem_singleton.mp h]; exact hc416)) ?_ ?_ HR
  · refine ⟨fun w => ?_, fun w => ?_⟩
    · exact ⟨_, true, rfl, rfl, rfl, rfl, rfl, rfl, rfl, rfl, rfl, rfl, ⟨fun _ => rw_bp_1.mpr (Or.inl w), fun _ => rfl⟩⟩
    refine ⟨fun w2 => ?_, fun w2 => ?_⟩
    · exact ⟨_, false, rfl, rfl, rfl, rfl, rfl, rfl, rfl, rfl, rfl, rfl, ⟨fun z => (by cases z), fun z => ((rw_bp_1.mp z).elim w (fun y => y w2)).elim⟩⟩
    · exact ⟨_, true, rfl, rfl, rfl, rfl, rfl, rfl, rfl, rfl, rfl, rfl, ⟨fun _ => rw_bp_1.mpr (Or.inr w2), fun _ => rfl⟩⟩
  · intro pc P hP m lv st T1 N1 I1 L1 R1 nc ns hh
    have n10 : ¬ (1 : Int32) = 0 := by decide
    unfold rk_h1 at hP
    by_cases p15 : pc = 15
    · rw [if_pos p15] at hP
      cases hP
      subst p15
      obtain ⟨f, rfl, rfl, rfl, rfl, rfl, rfl, rfl, rfl, rfl, rfl, hf⟩ := hh
      refine ⟨_, _, rfl, ?_⟩
      cases f with
      | true =>
        rw [if_neg (by decide)]
        exact ⟨fun _ => hb (hf.mp rfl), fun z => (z n10).elim⟩
      | false =>
        have nf : ¬ rw_bp pi := fun z => by
          have := hf.mpr z
          cases this
        rw [if_pos (by decide), if_pos (by decide)]
        refine ⟨fun z => (z rfl).elim, fun _ => ?_⟩
        obtain ⟨p, hp, e⟩ := rw_bp_n nf
        subst e
        have hY := h p hp rfl
        have hT := (hI p hp).1

        refine ⟨S p, m0 p, x p, p, 2, sq p, lo p, U p, cl p, Al p, rfl, hp, rk_I_0 (hI p hp), rk_Y_0 hY (fun I1 z e0 => ⟨fun _ => z e0, fun y => absurd rfl y⟩) (fun I1 z e0 => ⟨fun _ => z e0, fun y => absurd rfl y⟩) (fun K mv kd I1 L1 hT2 hdf hG z e0 => ⟨fun y => absurd y (by decide), fun _ => ?_⟩)⟩
        refine ⟨_, wm_t hT rfl, by rw [rk_4 hp]; exact pp_b (c := 8) (by omega) (by omega), ?_⟩
        rw [rk_4 hp, wi_onn (by omega), hT2.1]
        exact z (e0.trans (wv_u_at _ _ _ _))

    rw [if_neg p15] at hP
    cases hP
def rk_c436 : wv_c1 := fun as T N I L R q => ∃ (pi di : Int32) (S : Nat → rn_N) (m0 x : Nat → Nat) (sq : Nat → List Nat) (lo : Nat → Nat → Nat) (U : Nat → Nat → np_A) (cl : Nat → Nat → Nat) (Al : Nat → Nat → Prop), as = [.ref 460, .int pi, .int di] ∧ (∀ p, p < 2 → rk_I T I p (S p) (m0 p) (x p) (sq p)) ∧ (rw_bp pi → q (.inl (some (.int 0))) T N (wv_u I 460 0 1) L R 0 0) ∧ ∀ p, p < 2 → pi = Int32.ofNat p → rk_Y p (S p) (lo p) (U p) (cl p) (Al p) (sq p) I L (fun I1 => I1 460 0 = 2 → q (.inl (some (.int 0))) T N I1 L R 0 0) (fun I1 => I1 460 0 = 3 → q (.inl (some (.int 0))) T N I1 L R 0 0) (fun K mv kd I1 L1 => I1 460 0 = 0 → ((di < 0 ∨ Int32.ofNat K ≤ di) → q (.inl (some (.int 0))) T N (wv_u I1 460 0 4) L1 R 0 0) ∧ ∀ c, c < K → di = Int32.ofNat c → q (.inl (some (.int (Int32.ofNat (kd c))))) T N I1 L1 R 0 0)
set_option maxRecDepth 100000 in
theorem wM_436 : ∃ cb ci np, pt_mt 436 = some (32, cb, 3, false, some .int, ci, np) := ⟨_, _, _, rfl⟩
set_option maxRecDepth 100000 in
set_option maxHeartbeats 4000000 in
theorem rk_kind {sc : pt_Sc} {d : Nat} : wv_C wm_fx sc (d + 1 + 1 + 1 + 1 + 1 + 1 + 1 + 1) 436 rk_c436 := by
  rintro as T N I L R q ⟨pi, di, S, m0, x, sq, lo, U, cl, Al, rfl, hI, hb, h⟩ w0 HR
  obtain ⟨cb, ci, np, hm⟩ := wM_436
  have hc345 : wv_C wm_fx sc (d + 1 + 1 + 1 + 1 + 1 + 1 + 1) 345 wp_c345 := wv_C_deep (by omega) (wp_refuse (d := d))
  have hc416 : wv_C wm_fx sc (d + 1 + 1 + 1 + 1 + 1 + 1 + 1) 416 rk_c416 := wv_C_deep (by omega) (rk_classesOf (d := d))
  refine wv_meth (hh := none) rfl (sp := wv_sp [(345, wp_c345), (416, rk_c416)]) (hd := rk_h1 [some (.ref 460), some (.int pi), some (.int di), none, none, none] pi T N I L R) (n := 300) (n1 := 300) hm zc_436 rfl (wv_sp_ok (fun q hq => by
    rcases List.mem_cons.mp hq with h | h
    · rw [h]; exact hc345
    rw [List.mem_singleton.mp h]; exact hc416)) ?_ ?_ HR
  · refine ⟨fun w => ?_, fun w => ?_⟩
    · exact ⟨_, true, rfl, rfl, rfl, rfl, rfl, rfl, rfl, rfl, rfl, rfl, ⟨fun _ => rw_bp_1.mpr (Or.inl w), fun _ => rfl⟩⟩
    refine ⟨fun w2 => ?_, fun w2 => ?_⟩
    · exact ⟨_, false, rfl, rfl, rfl, rfl, rfl, rfl, rfl, rfl, rfl, rfl, ⟨fun z => (by cases z), fun z => ((rw_bp_1.mp z).elim w (fun y => y w2)).elim⟩⟩
    · exact ⟨_, true, rfl, rfl, rfl, rfl, rfl, rfl, rfl, rfl, rfl, rfl, ⟨fun _ => rw_bp_1.mpr (Or.inr w2), fun _ => rfl⟩⟩
  · intro pc P hP m lv st T1 N1 I1 L1 R1 nc ns hh
    have n10 : ¬ (1 : Int32) = 0 := by decide
    unfold rk_h1 at hP
    by_cases p15 : pc = 15
    · rw [if_pos p15] at hP
      cases hP
      subst p15
      obtain ⟨f, rfl, rfl, rfl, rfl, rfl, rfl, rfl, rfl, rfl, rfl, hf⟩ := hh
      refine ⟨_, _, rfl, ?_⟩
      cases f with
      | true =>
        rw [if_neg (by decide)]
        exact ⟨fun _ => hb (hf.mp rfl), fun z => (z n10).elim⟩
      | false =>
        have nf : ¬ rw_bp pi := fun z => by
          have := hf.mpr z
          cases this
        rw [if_pos (by decide), if_pos (by decide)]
        refine ⟨fun z => (z rfl).elim, fun _ => ?_⟩
        obtain ⟨p, hp, e⟩ := rw_bp_n nf
        subst e
        have hY := h p hp rfl
        have hT := (hI p hp).1

        refine ⟨S p, m0 p, x p, p, 2, sq p, lo p, U p, cl p, Al p, rfl, hp, rk_I_0 (hI p hp), rk_Y_0 hY (fun I1 z e0 => ⟨fun y => absurd rfl y, fun _ => z e0⟩) (fun I1 z e0 => ⟨fun y => absurd rfl y, fun _ => z e0⟩) (fun K mv kd I1 L1 hT2 hdf hG z e0 => ⟨fun _ => ?_, fun y => (y n10).elim⟩)⟩
        obtain ⟨z1, z2⟩ := z (e0.trans (wv_u_at _ _ _ _))
        have hK := hT2.2.2.1
        refine ⟨fun w => z1 (Or.inl w), fun w => ?_⟩
        refine ⟨_, wm_t hT rfl, by rw [rk_4 hp]; exact pp_b (c := 8) (by omega) (by omega), ?_⟩
        rw [rk_4 hp, wi_onn (by omega), hT2.1]
        refine ⟨fun w2 => ?_, fun w2 => z1 (Or.inr (Int32.not_lt.mp w2))⟩
        have w : ¬ di < 0 := w
        rw [wi_lt, wi_0] at w
        rw [wi_lt, wi_on (by omega)] at w2
        obtain ⟨c, hc, ec⟩ : ∃ c : Nat, c < K ∧ di = Int32.ofNat c := ⟨di.toInt.toNat, by omega, wi_eq.mpr (by rw [wi_on (by omega)]; omega)⟩
        subst ec
        refine ⟨_, wm_t hT rfl, by rw [rk_1280]; exact pp_b (c := 2560) (by omega) (by omega), ?_⟩
        rw [rk_1280, wi_onn (by omega), (hT2.2.2.2.1 c hc).1]
        exact z2 c hc rfl

    rw [if_neg p15] at hP
    cases hP
def rk_c435 : wv_c1 := fun as T N I L R q => ∃ (pi di ei : Int32) (S : Nat → rn_N) (m0 x : Nat → Nat) (sq : Nat → List Nat) (lo : Nat → Nat → Nat) (U : Nat → Nat → np_A) (cl : Nat → Nat → Nat) (Al : Nat → Nat → Prop), as = [.ref 460, .int pi, .int di, .int ei] ∧ (∀ p, p < 2 → rk_I T I p (S p) (m0 p) (x p) (sq p)) ∧ (rw_bp pi → q (.inl (some (.int 0))) T N (wv_u I 460 0 1) L R 0 0) ∧ ∀ p, p < 2 → pi = Int32.ofNat p → rk_Y p (S p) (lo p) (U p) (cl p) (Al p) (sq p) I L (fun I1 => I1 460 0 = 2 → q (.inl (some (.int 0))) T N I1 L R 0 0) (fun I1 => I1 460 0 = 3 → q (.inl (some (.int 0))) T N I1 L R 0 0) (fun K mv kd I1 L1 => I1 460 0 = 0 → ((di < 0 ∨ Int32.ofNat K ≤ di ∨ ¬ (0 ≤ ei.toInt ∧ ei.toInt < 64)) → q (.inl (some (.int 0))) T N (wv_u I1 460 0 4) L1 R 0 0) ∧ ∀ c v, c < K → di = Int32.ofNat c → v < 64 → ei = Int32.ofNat v → q (.inl (some (.int (Int32.ofNat (mv c v))))) T N I1 L1 R 0 0)
set_option maxRecDepth 100000 in
theorem wM_435 : ∃ cb ci np, pt_mt 435 = some (32, cb, 4, false, some .int, ci, np) := ⟨_, _, _, rfl⟩
set_option maxRecDepth 100000 in
set_option maxHeartbeats 4000000 in
theorem rk_classBehind {sc : pt_Sc} {d : Nat} : wv_C wm_fx sc (d + 1 + 1 + 1 + 1 + 1 + 1 + 1 + 1) 435 rk_c435 := by
  rintro as T N I L R q ⟨pi, di, ei, S, m0, x, sq, lo, U, cl, Al, rfl, hI, hb, h⟩ w0 HR
  obtain ⟨cb, ci, np, hm⟩ := wM_435
  have hc345 : wv_C wm_fx sc (d + 1 + 1 + 1 + 1 + 1 + 1 + 1) 345 wp_c345 := wv_C_deep (by omega) (wp_refuse (d := d))
  have hc416 : wv_C wm_fx sc (d + 1 + 1 + 1 + 1 + 1 + 1 + 1) 416 rk_c416 := wv_C_deep (by omega) (rk_classesOf (d := d))
  refine wv_meth (hh := none) rfl (sp := wv_sp [(345, wp_c345), (416, rk_c416)]) (hd := rk_h1 [some (.ref 460), some (.int pi), some (.int di), some (.int ei), none, none, none, none] pi T N I L R) (n := 300) (n1 := 300) hm zc_435 rfl (wv_sp_ok (fun q hq => by
    rcases List.mem_cons.mp hq with h | h
    · rw [h]; exact hc345
    rw [List.mem_singleton.mp h]; exact hc416)) ?_ ?_ HR
  · refine ⟨fun w => ?_, fun w => ?_⟩
    · exact ⟨_, true, rfl, rfl, rfl, rfl, rfl, rfl, rfl, rfl, rfl, rfl, ⟨fun _ => rw_bp_1.mpr (Or.inl w), fun _ => rfl⟩⟩
    refine ⟨fun w2 => ?_, fun w2 => ?_⟩
    · exact ⟨_, false, rfl, rfl, rfl, rfl, rfl, rfl, rfl, rfl, rfl, rfl, ⟨fun z => (by cases z), fun z => ((rw_bp_1.mp z).elim w (fun y => y w2)).elim⟩⟩
    · exact ⟨_, true, rfl, rfl, rfl, rfl, rfl, rfl, rfl, rfl, rfl, rfl, ⟨fun _ => rw_bp_1.mpr (Or.inr w2), fun _ => rfl⟩⟩
  · intro pc P hP m lv st T1 N1 I1 L1 R1 nc ns hh
    have n10 : ¬ (1 : Int32) = 0 := by decide
    unfold rk_h1 at hP
    by_cases p15 : pc = 15
    · rw [if_pos p15] at hP
      cases hP
      subst p15
      obtain ⟨f, rfl, rfl, rfl, rfl, rfl, rfl, rfl, rfl, rfl, rfl, hf⟩ := hh
      refine ⟨_, _, rfl, ?_⟩
      cases f with
      | true =>
        rw [if_neg (by decide)]
        exact ⟨fun _ => hb (hf.mp rfl), fun z => (z n10).elim⟩
      | false =>
        have nf : ¬ rw_bp pi := fun z => by
          have := hf.mpr z
          cases this
        rw [if_pos (by decide), if_pos (by decide)]
        refine ⟨fun z => (z rfl).elim, fun _ => ?_⟩
        obtain ⟨p, hp, e⟩ := rw_bp_n nf
        subst e
        have hY := h p hp rfl
        have hT := (hI p hp).1

        refine ⟨S p, m0 p, x p, p, 2, sq p, lo p, U p, cl p, Al p, rfl, hp, rk_I_0 (hI p hp), rk_Y_0 hY (fun I1 z e0 => ⟨fun y => absurd rfl y, fun _ => z e0⟩) (fun I1 z e0 => ⟨fun y => absurd rfl y, fun _ => z e0⟩) (fun K mv kd I1 L1 hT2 hdf hG z e0 => ⟨fun _ => ?_, fun y => (y n10).elim⟩)⟩
        obtain ⟨z1, z2⟩ := z (e0.trans (wv_u_at _ _ _ _))
        have hK := hT2.2.2.1
        refine ⟨fun w => z1 (Or.inl w), fun w => ?_⟩
        refine ⟨_, wm_t hT rfl, by rw [rk_4 hp]; exact pp_b (c := 8) (by omega) (by omega), ?_⟩
        rw [rk_4 hp, wi_onn (by omega), hT2.1]
        refine ⟨fun w2 => z1 (Or.inr (Or.inl w2)), fun w2 => ?_⟩
        have w : ¬ di < 0 := w
        rw [wi_lt, wi_0] at w
        rw [wi_le, wi_on (by omega)] at w2
        have e63 : ((Int8.ofInt 63).toInt32).toInt = 63 := rfl
        refine ⟨fun w3 => z1 (Or.inr (Or.inr ?_)), fun w3 => ?_⟩
        · have w3 : ei < 0 := w3
          rw [wi_lt, wi_0] at w3
          omega
        have w3 : ¬ ei < 0 := w3
        rw [wi_lt, wi_0] at w3
        refine ⟨fun w4 => ?_, fun w4 => z1 (Or.inr (Or.inr ?_))⟩
        · rw [wi_le, e63] at w4
          obtain ⟨c, hc, ec⟩ : ∃ c : Nat, c < K ∧ di = Int32.ofNat c := ⟨di.toInt.toNat, by omega, wi_eq.mpr (by rw [wi_on (by omega)]; omega)⟩
          obtain ⟨v, hv, ev⟩ : ∃ v : Nat, v < 64 ∧ ei = Int32.ofNat v := ⟨ei.toInt.toNat, by omega, wi_eq.mpr (by rw [wi_on (by omega)]; omega)⟩
          subst ec
          subst ev
          refine ⟨_, wm_t hT rfl, by rw [rk_1280, rs_64]; exact pp_b (c := 163840) (by omega) (by omega), ?_⟩
          rw [rk_1280, rs_64, wi_onn (by omega), hT2.2.2.2.2 c v hc hv]
          exact z2 c v hc rfl hv rfl
        · rw [wi_le, e63] at w4
          omega

    rw [if_neg p15] at hP
    cases hP
def rk_l34 (slot i j c k : Nat) : List (Option Value) := [some (.ref 460), some (.int (Int32.ofNat slot)), some (.int (Int32.ofNat i)), some (.int (Int32.ofNat j)), some (.int (Int32.ofNat c)), some (.int (Int32.ofNat k)), none, none, none, none]
def rk_h434 (slot i j : Nat) (mv : Nat → Nat → Nat) (v : Nat → Nat) (T : wv_T) (N : Nat) (I : Nat → Nat → Int32) (L : Nat → Nat → Int64) (R : Nat → Nat → Option Nat) : Nat → Option (Nat → wv_P) := fun pc =>
  if pc = 6 then some (fun mm lv st T1 N1 I1 L1 R1 nc ns => ∃ m : Nat, lv = rk_l34 slot i j (df_run mv 0 (kz v i m)) (i + m) ∧ st = [] ∧ T1 = T ∧ N1 = N ∧ R1 = R ∧ nc = 0 ∧ ns = 0 ∧ I1 = I ∧ L1 = L ∧ i + m ≤ j ∧ mm = j - (i + m))
  else none
def rk_c434 : wv_c1 := fun as T N I L R q => ∃ (slot i j n K : Nat) (mv : Nat → Nat → Nat) (kd v : Nat → Nat), as = [.ref 460, .int (Int32.ofNat slot), .int (Int32.ofNat i), .int (Int32.ofNat j)] ∧ wm_T T ∧ slot < 8 ∧ rk_T slot K mv kd I ∧ df_ok K mv ∧ i ≤ j ∧ j ≤ n ∧ n ≤ 24 ∧ (∀ k, k < n → I 489 k = Int32.ofNat (v k) ∧ v k < 64) ∧ q (.inl (some (.int (Int32.ofNat (df_run mv 0 (kz v i (j - i))))))) T N I L R 0 0
set_option maxRecDepth 100000 in
theorem wM_434 : ∃ cb ci np, pt_mt 434 = some (32, cb, 6, false, some .int, ci, np) := ⟨_, _, _, rfl⟩
set_option maxRecDepth 100000 in
set_option maxHeartbeats 4000000 in
theorem rk_classFrom {sc : pt_Sc} {d : Nat} : wv_C wm_fx sc (d + 1) 434 rk_c434 := by
  rintro as T N I L R q ⟨slot, i, j, n, K, mv, kd, v, rfl, hT, hslot, hT2, ho, hij, hjn, hn, hv, h⟩ w0 HR
  obtain ⟨cb, ci, np, hm⟩ := wM_434
  refine wv_meth (hh := none) rfl (sp := fun _ _ _ _ _ _ _ _ => False) (hd := rk_h434 slot i j mv v T N I L R) (n := 300) (n1 := 300) hm zc_434 rfl (fun k as T N I L R q h => by cases h) ?_ ?_ HR
  · exact ⟨_, 0, rfl, rfl, rfl, rfl, rfl, rfl, rfl, rfl, rfl, by omega, rfl⟩
  · intro pc P hP m lv st T1 N1 I1 L1 R1 nc ns hh
    have hK := hT2.2.2.1
    unfold rk_h434 at hP
    by_cases p6 : pc = 6
    · rw [if_pos p6] at hP
      cases hP
      subst p6
      obtain ⟨m, rfl, rfl, rfl, rfl, rfl, rfl, rfl, rfl, rfl, hm2, rfl⟩ := hh
      have ek := wi_on (n := i + m) (by omega)
      have ekn := wi_onn (n := i + m) (by omega)
      have ej := wi_on (n := j) (by omega)
      have hw := kz_w (v := v) (i := i) m (fun k k1 k2 => (hv k (by omega)).2)
      have hlt := df_run_lt ho _ hw 0 ho.1
      refine ⟨fun w => ?_, fun w => ?_⟩
      · rw [wi_le, ej, ek] at w
        have e : m = j - i := by omega
        subst e
        exact h
      · rw [wi_le, ej, ek] at w
        obtain ⟨v1, v2⟩ := hv (i + m) (by omega)
        refine ⟨_, wm_t hT rfl, pp_b (c := 24) (by omega) (by omega), ?_⟩
        rw [ekn, v1]
        refine ⟨_, wm_t hT rfl, by rw [rk_320, rs_64]; exact pp_b (c := 163840) (by omega) (by omega), ?_⟩
        rw [rk_320, rs_64, wi_onn (by omega), hT2.2.2.2.2 _ _ hlt v2]
        have e1 : df_run mv 0 (kz v i (m + 1)) = mv (df_run mv 0 (kz v i m)) (v (i + m)) := df_run_app mv (kz v i m) [v (i + m)] 0
        refine ⟨j - (i + (m + 1)), by omega, m + 1, ?_, rfl, rfl, rfl, rfl, rfl, rfl, rfl, rfl, by omega, rfl⟩
        unfold rk_l34
        rw [e1, ← Nat.add_assoc, ← wq_4s (i + m)]
        rfl
    rw [if_neg p6] at hP
    cases hP
def rk_c433 : wv_c1 := fun as T N I L R q => ∃ (pi ii jj : Int32) (n : Nat) (v : Nat → Nat) (S : Nat → rn_N) (m0 x : Nat → Nat) (sq : Nat → List Nat) (lo : Nat → Nat → Nat) (U : Nat → Nat → np_A) (cl : Nat → Nat → Nat) (Al : Nat → Nat → Prop), as = [.ref 460, .int pi, .int ii, .int jj] ∧ (∀ p, p < 2 → rk_I T I p (S p) (m0 p) (x p) (sq p)) ∧ I 460 46 = Int32.ofNat n ∧ n ≤ 24 ∧ (∀ k, k < n → I 489 k = Int32.ofNat (v k) ∧ v k < 64) ∧ (rw_bp pi → q (.inl (some (.int 0))) T N (wv_u I 460 0 1) L R 0 0) ∧ (¬ rw_bp pi → rw_br (Int32.ofNat n) ii jj → q (.inl (some (.int 0))) T N (wv_u I 460 0 2) L R 0 0) ∧ ∀ p, p < 2 → pi = Int32.ofNat p → ∀ i j, i ≤ j → j ≤ n → ii = Int32.ofNat i → jj = Int32.ofNat j → rk_Y p (S p) (lo p) (U p) (cl p) (Al p) (sq p) I L (fun I1 => I1 460 0 = 3 → q (.inl (some (.int 0))) T N I1 L R 0 0) (fun I1 => I1 460 0 = 4 → q (.inl (some (.int 0))) T N I1 L R 0 0) (fun K mv kd I1 L1 => I1 460 0 = 0 → q (.inl (some (.int (Int32.ofNat (df_run mv 0 (kz v i (j - i))))))) T N I1 L1 R 0 0)
set_option maxRecDepth 100000 in
theorem wM_433 : ∃ cb ci np, pt_mt 433 = some (32, cb, 4, false, some .int, ci, np) := ⟨_, _, _, rfl⟩
set_option maxRecDepth 100000 in
set_option maxHeartbeats 4000000 in
theorem rk_classOf {sc : pt_Sc} {d : Nat} : wv_C wm_fx sc (d + 1 + 1 + 1 + 1 + 1 + 1 + 1 + 1) 433 rk_c433 := by
  rintro as T N I L R q ⟨pi, ii, jj, n, v, S, m0, x, sq, lo, U, cl, Al, rfl, hI, h46, hn, hv, hb, hr, h⟩ w0 HR
  obtain ⟨cb, ci, np, hm⟩ := wM_433
  have hc345 : wv_C wm_fx sc (d + 1 + 1 + 1 + 1 + 1 + 1 + 1) 345 wp_c345 := wv_C_deep (by omega) (wp_refuse (d := d))
  have hc416 : wv_C wm_fx sc (d + 1 + 1 + 1 + 1 + 1 + 1 + 1) 416 rk_c416 := wv_C_deep (by omega) (rk_classesOf (d := d))
  have hc434 : wv_C wm_fx sc (d + 1 + 1 + 1 + 1 + 1 + 1 + 1) 434 rk_c434 := wv_C_deep (by omega) (rk_classFrom (d := d))
  refine wv_meth (hh := none) rfl (sp := wv_sp [(345, wp_c345), (416, rk_c416), (434, rk_c434)]) (hd := rk_h2 [some (.ref 460), some (.int pi), some (.int ii), some (.int jj), none, none, none, none] pi ii jj n T N I L R) (n := 300) (n1 := 300) hm zc_433 rfl (wv_sp_ok (fun q hq => by
    rcases List.mem_cons.mp hq with h | h
    · rw [h]; exact hc345
    rcases List.mem_cons.mp h with h | h
    · rw [h]; exact hc416
    rw [List.mem_singleton.mp h]; exact hc434)) ?_ ?_ HR
  · refine ⟨fun w => ?_, fun w => ?_⟩
    · exact ⟨_, true, rfl, rfl, rfl, rfl, rfl, rfl, rfl, rfl, rfl, rfl, ⟨fun _ => rw_bp_1.mpr (Or.inl w), fun _ => rfl⟩⟩
    refine ⟨fun w2 => ?_, fun w2 => ?_⟩
    · exact ⟨_, false, rfl, rfl, rfl, rfl, rfl, rfl, rfl, rfl, rfl, rfl, ⟨fun z => (by cases z), fun z => ((rw_bp_1.mp z).elim w (fun y => y w2)).elim⟩⟩
    · exact ⟨_, true, rfl, rfl, rfl, rfl, rfl, rfl, rfl, rfl, rfl, rfl, ⟨fun _ => rw_bp_1.mpr (Or.inr w2), fun _ => rfl⟩⟩
  · intro pc P hP m lv st T1 N1 I1 L1 R1 nc ns hh
    have n10 : ¬ (1 : Int32) = 0 := by decide
    unfold rk_h2 at hP
    by_cases p15 : pc = 15
    · rw [if_pos p15] at hP
      cases hP
      subst p15
      obtain ⟨f, rfl, rfl, rfl, rfl, rfl, rfl, rfl, rfl, rfl, rfl, hf⟩ := hh
      refine ⟨fun w => ?_, fun w => ?_⟩
      · exact ⟨1, by omega, f, true, rfl, rfl, rfl, rfl, rfl, rfl, rfl, rfl, rfl, rfl, hf, ⟨fun _ => Or.inl w, fun _ => rfl⟩⟩
      refine ⟨fun w2 => ?_, fun w2 => ?_⟩
      · rw [h46] at w2
        exact ⟨1, by omega, f, true, rfl, rfl, rfl, rfl, rfl, rfl, rfl, rfl, rfl, rfl, hf, ⟨fun _ => Or.inr (Or.inr w2), fun _ => rfl⟩⟩
      rw [h46] at w2
      refine ⟨fun w3 => ?_, fun w3 => ?_⟩
      · exact ⟨1, by omega, f, false, rfl, rfl, rfl, rfl, rfl, rfl, rfl, rfl, rfl, rfl, hf, ⟨fun z => (by cases z), fun z => (z.elim w (fun y => y.elim (fun y2 => Int32.not_lt.mpr w3 y2) w2)).elim⟩⟩
      · exact ⟨1, by omega, f, true, rfl, rfl, rfl, rfl, rfl, rfl, rfl, rfl, rfl, rfl, hf, ⟨fun _ => Or.inr (Or.inl (Int32.not_le.mp w3)), fun _ => rfl⟩⟩
    rw [if_neg p15] at hP
    by_cases p37 : pc = 37
    · rw [if_pos p37] at hP
      cases hP
      subst p37
      obtain ⟨f, g, rfl, rfl, rfl, rfl, rfl, rfl, rfl, rfl, rfl, rfl, hf, hg⟩ := hh
      refine ⟨_, _, rfl, ?_⟩
      cases f with
      | true =>
        rw [if_neg (by decide)]
        exact ⟨fun _ => hb (hf.mp rfl), fun z => (z n10).elim⟩
      | false =>
        have nf : ¬ rw_bp pi := fun z => by
          have := hf.mpr z
          cases this
        rw [if_pos (by decide)]
        cases g with
        | true =>
          rw [if_neg (by decide)]
          exact ⟨fun _ => hr nf (hg.mp rfl), fun z => (z n10).elim⟩
        | false =>
          have ng : ¬ rw_br (Int32.ofNat n) ii jj := fun z => by
            have := hg.mpr z
            cases this
          rw [if_pos (by decide)]
          refine ⟨fun z => (z rfl).elim, fun _ => ?_⟩
          obtain ⟨p, hp, e⟩ := rw_bp_n nf
          obtain ⟨i, j, ij, jn, ei, ej⟩ := rw_br_n hn ng
          have hY := h p hp e i j ij jn ei ej
          subst e
          subst ei
          subst ej
          have hT := (hI p hp).1
          refine ⟨S p, m0 p, x p, p, 3, sq p, lo p, U p, cl p, Al p, rfl, hp, rk_I_0 (hI p hp), rk_Y_0 hY (fun I1 z e0 => ⟨fun _ => z e0, fun y => absurd rfl y⟩) (fun I1 z e0 => ⟨fun _ => z e0, fun y => absurd rfl y⟩) (fun K mv kd I1 L1 hT2 hdf hG z e0 => ⟨fun y => absurd y (by decide), fun _ => ?_⟩)⟩
          refine ⟨4 * p, i, j, n, K, mv, kd, v, by rw [rk_4 hp]; rfl, hT, by omega, hT2, hdf, ij, jn, hn, fun k hk => ?_, z (e0.trans (wv_u_at _ _ _ _))⟩
          rw [hG _ _ (by omega) (by omega) (by omega) (by omega) (by omega) (by omega) (by omega) (by omega)]
          exact hv k hk
    rw [if_neg p37] at hP
    cases hP
