/-! ===== the reference: classesOf, classes ===== -/
def rk_G (p : Nat) (I I1 : Nat → Nat → Int32) : Prop := ∀ c j, ¬ (469 ≤ c ∧ c ≤ 475) → ¬ (508 ≤ c ∧ c ≤ 511) → ¬ c = 514 → ¬ (516 ≤ c ∧ c ≤ 519) → ¬ (c = 460 ∧ (j = 0 ∨ j = 32 ∨ (37 ≤ j ∧ j ≤ 39) ∨ j = 75 ∨ j = 88)) → ¬ (c = 520 ∧ j = 4 * p) → ¬ (c = 521 ∧ 320 * (4 * p) ≤ j ∧ j < 320 * (4 * p) + 320) → ¬ (c = 522 ∧ 64 * (320 * (4 * p)) ≤ j ∧ j < 64 * (320 * (4 * p) + 320)) → I1 c j = I c j
theorem rk_G_0 {p : Nat} {I I1 : Nat → Nat → Int32} {x : Int32} (h : rk_G p (wv_u I 460 0 x) I1) : rk_G p I I1 := fun c j z1 z2 z3 z4 z5 z6 z7 z8 => by
  rw [h c j z1 z2 z3 z4 z5 z6 z7 z8, wv_u_no _ _ (by omega)]
theorem rk_T_c {slot K : Nat} {mv : Nat → Nat → Nat} {kd : Nat → Nat} {I J : Nat → Nat → Int32} (h : rk_T slot K mv kd I) (g : ∀ c j, 520 ≤ c → c ≤ 522 → J c j = I c j) : rk_T slot K mv kd J := by
  obtain ⟨h1, h2, h3, h4, h5⟩ := h
  refine ⟨(g _ _ (by omega) (by omega)).trans h1, h2, h3, fun c hc => ?_, fun c v hc hv => ?_⟩
  · rw [g _ _ (by omega) (by omega)]
    exact h4 c hc
  · rw [g _ _ (by omega) (by omega)]
    exact h5 c v hc hv
def rk_P (p : Nat) (S : rn_N) (lo : Nat → Nat) (U : Nat → np_A) (y : Nat) (cl : Nat → Nat) (Al : Nat → Prop) (I : Nat → Nat → Int32) : Prop := pb_S S lo U y ∧ rs_cc (U y) cl Al ∧ (I 520 (4 * p) = 0 ∨ ∃ K mv kd, rk_c (U y) K mv kd ∧ rk_T (4 * p) K mv kd I)
theorem rk_P_c {p y : Nat} {S : rn_N} {lo : Nat → Nat} {U : Nat → np_A} {cl : Nat → Nat} {Al : Nat → Prop} {I J : Nat → Nat → Int32} (h : rk_P p S lo U y cl Al I) (g : ∀ c j, 520 ≤ c → c ≤ 522 → J c j = I c j) : rk_P p S lo U y cl Al J := by
  obtain ⟨h1, h2, h3⟩ := h
  refine ⟨h1, h2, ?_⟩
  rcases h3 with h3 | ⟨K, mv, kd, h4, h5⟩
  · exact Or.inl ((g _ _ (by omega) (by omega)).trans h3)
  · exact Or.inr ⟨K, mv, kd, h4, rk_T_c h5 g⟩
/-- what is told of the first sequence: there is none; it is too heavy; its classes -/
def rk_Y (p : Nat) (S : rn_N) (lo : Nat → Nat) (U : Nat → np_A) (cl : Nat → Nat) (Al : Nat → Prop) (sq : List Nat) (I : Nat → Nat → Int32) (L : Nat → Nat → Int64) (b1 b2 : (Nat → Nat → Int32) → Prop) (ok : Nat → (Nat → Nat → Nat) → (Nat → Nat) → (Nat → Nat → Int32) → (Nat → Nat → Int64) → Prop) : Prop := (sq = [] → ∀ I1, rk_G p I I1 → b1 I1) ∧ ∀ y l, sq = y :: l → (y < rn_n S ∧ rn_w S y < 2147483648) ∧ (¬ rn_w S y ≤ 6 → ∀ I1, rk_G p I I1 → b2 I1) ∧ (rn_w S y ≤ 6 → rk_P p S lo U y cl Al I ∧ ∀ K mv kd I1 L1, rk_c (U y) K mv kd → rk_T (4 * p) K mv kd I1 → rk_G p I I1 → rk_FL L L1 → ok K mv kd I1 L1)
theorem rk_Y_0 {p : Nat} {S : rn_N} {lo : Nat → Nat} {U : Nat → np_A} {cl : Nat → Nat} {Al : Nat → Prop} {sq : List Nat} {I : Nat → Nat → Int32} {L : Nat → Nat → Int64} {x : Int32} {b1 b2 c1 c2 : (Nat → Nat → Int32) → Prop} {ok ok2 : Nat → (Nat → Nat → Nat) → (Nat → Nat) → (Nat → Nat → Int32) → (Nat → Nat → Int64) → Prop} (h : rk_Y p S lo U cl Al sq I L b1 b2 ok) (h1 : ∀ I1, b1 I1 → c1 I1) (h2 : ∀ I1, b2 I1 → c2 I1) (h3 : ∀ K mv kd I1 L1, rk_T (4 * p) K mv kd I1 → df_ok K mv → rk_G p I I1 → ok K mv kd I1 L1 → ok2 K mv kd I1 L1) : rk_Y p S lo U cl Al sq (wv_u I 460 0 x) L c1 c2 ok2 := by
  obtain ⟨g1, g2⟩ := h
  refine ⟨fun z I1 y => h1 I1 (g1 z I1 (rk_G_0 y)), fun y l e => ?_⟩
  obtain ⟨k1, k2, k3⟩ := g2 y l e
  refine ⟨k1, fun z I1 f => h2 I1 (k2 z I1 (rk_G_0 f)), fun z => ?_⟩
  obtain ⟨k4, k5⟩ := k3 z
  exact ⟨rk_P_c k4 (fun c j _ _ => wv_u_no _ _ (by omega)), fun K mv kd I1 L1 y1 y2 y3 y4 => h3 K mv kd I1 L1 y2 y1.1 (rk_G_0 y3) (k5 K mv kd I1 L1 y1 y2 (rk_G_0 y3) y4)⟩
/-- what the reference keeps of property p -/
def rk_I (T : wv_T) (I : Nat → Nat → Int32) (p : Nat) (S : rn_N) (m0 x : Nat) (sq : List Nat) : Prop := wm_T T ∧ kp_K I p S m0 x sq ∧ rn_n S ≤ 500 ∧ m0 ≤ 420
theorem rk_I_0 {T : wv_T} {I : Nat → Nat → Int32} {p m0 x : Nat} {S : rn_N} {sq : List Nat} {v : Int32} (h : rk_I T I p S m0 x sq) : rk_I T (wv_u I 460 0 v) p S m0 x sq := ⟨h.1, kp_K_F h.2.1 (fun c j c1 c2 => wv_u_no _ _ (by omega)), h.2.2⟩
theorem rk_4 {p : Nat} (hp : p < 2) : Int32.ofInt 4 * Int32.ofNat p = Int32.ofNat (4 * p) := (Int32.ofNat_mul 4 p).symm
def rk_c416 : wv_c1 := fun as T N I L R q => ∃ (S : rn_N) (m0 x p fr : Nat) (sq : List Nat) (lo : Nat → Nat) (U : Nat → np_A) (cl : Nat → Nat) (Al : Nat → Prop), as = [.ref 460, .int (Int32.ofNat p), .int (Int32.ofNat fr)] ∧ p < 2 ∧ rk_I T I p S m0 x sq ∧ rk_Y p S lo U cl Al sq I L (fun I1 => I1 460 0 = Int32.ofNat fr → q (.inl (some (.int 0))) T N I1 L R 0 0) (fun I1 => I1 460 0 = Int32.ofNat (fr + 1) → q (.inl (some (.int 0))) T N I1 L R 0 0) (fun K mv kd I1 L1 => I1 460 0 = I 460 0 → q (.inl (some (.int 1))) T N I1 L1 R 0 0)
set_option maxRecDepth 100000 in
theorem wM_416 : ∃ cb ci np, pt_mt 416 = some (32, cb, 3, false, some .boolean, ci, np) := ⟨_, _, _, rfl⟩
set_option maxRecDepth 100000 in
set_option maxHeartbeats 4000000 in
theorem rk_classesOf {sc : pt_Sc} {d : Nat} : wv_C wm_fx sc (d + 1 + 1 + 1 + 1 + 1 + 1 + 1) 416 rk_c416 := by
  rintro as T N I L R q ⟨S, m0, x, p, fr, sq, lo, U, cl, Al, rfl, hp, ⟨hT, hK, hn5, hm0⟩, hY1, hY2⟩ w0 HR
  obtain ⟨cb, ci, np, hm⟩ := wM_416
  have hc377 : wv_C wm_fx sc (d + 1 + 1 + 1 + 1 + 1 + 1) 377 mr_c377 := wv_C_deep (by omega) (mr_choose (d := d))
  have hc417 : wv_C wm_fx sc (d + 1 + 1 + 1 + 1 + 1 + 1) 417 rk_c417 := wv_C_deep (by omega) (rk_classify (d := d))
  refine wv_meth (hh := none) rfl (sp := wv_sp [(377, mr_c377), (417, rk_c417)]) (hd := fun _ => none) (n := 0) (n1 := 300) hm zc_416 rfl (wv_sp_ok (fun q hq => by
    rcases List.mem_cons.mp hq with h | h
    · rw [h]; exact hc377
    rw [List.mem_singleton.mp h]; exact hc417)) ?_ (fun pc P h => by cases h) HR
  refine ⟨S, m0, p, x, sq, rfl, hT, hp, hK, hn5, hm0, fun I1 f g1 g2 g3 g4 g5 => ?_⟩
  refine ⟨fun w => ?_, fun w => ?_⟩
  · have w : 0 ≤ I1 460 39 := w
    cases hs : sq with
    | nil =>
      rw [g4, hs] at w
      exact absurd w (by decide)
    | cons y l =>
      obtain ⟨⟨y1, y4⟩, y2, y3⟩ := hY2 y l hs
      have e39 : I1 460 39 = Int32.ofNat y := by
        rw [g4, hs]
        rfl
      have eyn := wi_onn (n := y) (by omega)
      have e473 : I1 473 y = Int32.ofNat (rn_w S y) := (g1 y y1).2.1
      have hw3 : rn_w S y < 2147483648 := y4
      have ew := wi_on hw3
      have e6 : ((Int8.ofInt 6).toInt32).toInt = 6 := rfl
      refine ⟨_, wm_t hT rfl, by rw [e39]; exact pp_b (c := 800) (by omega) (by omega), ?_⟩
      rw [e39, eyn, e473]
      refine ⟨fun w1 => ?_, fun w1 => ?_⟩
      · rw [wi_le, ew, e6] at w1
        obtain ⟨⟨k1, k2, k3⟩, k4⟩ := y3 (by omega)
        have h520 : ∀ c j, 520 ≤ c → c ≤ 522 → I1 c j = I c j := fun c j z1 z2 => f c j (by omega) (by omega)
        have hc : ∃ c0, I 520 (4 * p) = Int32.ofNat c0 ∧ c0 ≤ 320 ∧ (c0 = 0 ∨ ∃ K mv kd, rk_c (U y) K mv kd ∧ rk_T (4 * p) K mv kd I) := by
          rcases k3 with k3 | ⟨K, mv, kd, z1, z2⟩
          · exact ⟨0, k3, by omega, Or.inl rfl⟩
          · exact ⟨K, z2.1, by have := z2.2.2.1; omega, Or.inr ⟨K, mv, kd, z1, z2⟩⟩
        obtain ⟨c0, c1, c2, c3⟩ := hc
        have G0 : rk_G p I I1 := fun c j z1 z2 z3 z4 z5 z6 z7 z8 => f c j (by omega) (by omega)
        have e00 : I1 460 0 = I 460 0 := f _ _ (by omega) (by omega)
        refine ⟨S, m0, 4 * p, y, c0, lo, U, cl, Al, (show [Value.ref 460, Value.int (Int32.ofInt 4 * Int32.ofNat p), Value.int (I1 460 39)] = _ by rw [rk_4 hp, e39]), hT, by omega, (h520 _ _ (by omega) (by omega)).trans c1, c2, fun z => ?_, fun z => ⟨⟨hT, hn5, hm0, g1⟩, g2, k1, k2, fun K mv kd I2 L2 r1 r2 r3 r4 => ?_⟩⟩
        · rcases c3 with c3 | ⟨K, mv, kd, z1, z2⟩
          · omega
          · exact ⟨⟨rfl, rfl⟩, k4 K mv kd I1 L z1 (rk_T_c z2 h520) G0 (fun _ _ _ => rfl) e00⟩
        · refine ⟨⟨rfl, rfl⟩, k4 K mv kd I2 L2 r1 r2 (fun c j z1 z2 z3 z4 z5 z6 z7 z8 => ?_) r4 ?_⟩
          · rw [r3 c j z2 z3 z4 (by omega) z6 z7 z8]
            exact G0 c j z1 z2 z3 z4 z5 z6 z7 z8
          · rw [r3 _ _ (by omega) (by omega) (by omega) (by omega) (by omega) (by omega) (by omega)]
            exact e00
      · rw [wi_le, ew, e6] at w1
        refine ⟨⟨rfl, rfl⟩, y2 (by omega) _ (fun c j z1 z2 z3 z4 z5 z6 z7 z8 => ?_) ?_⟩
        · rw [wv_u_no _ _ (by omega)]
          exact f c j (by omega) (by omega)
        · rw [wv_u_at]
          exact wq_4s fr
  · have w : ¬ 0 ≤ I1 460 39 := w
    cases hs : sq with
    | nil =>
      refine ⟨⟨rfl, rfl⟩, hY1 hs _ (fun c j z1 z2 z3 z4 z5 z6 z7 z8 => ?_) (wv_u_at _ _ _ _)⟩
      rw [wv_u_no _ _ (by omega)]
      exact f c j (by omega) (by omega)
    | cons y l =>
      obtain ⟨⟨y1, y4⟩, y2, y3⟩ := hY2 y l hs
      have e39 : I1 460 39 = Int32.ofNat y := by
        rw [g4, hs]
        rfl
      rw [e39, wi_le, wi_0, wi_on (by omega)] at w
      omega
