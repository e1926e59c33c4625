/-! ===== the reference: row and goesOn ===== -/
def rw_F (I J : Nat → Nat → Int32) : Prop := ∀ c j, ¬ (469 ≤ c ∧ c ≤ 475) → ¬ c = 491 → ¬ c = 495 → ¬ (c = 460 ∧ (j = 0 ∨ j = 32 ∨ (37 ≤ j ∧ j ≤ 39) ∨ j = 49)) → J c j = I c j
theorem rw_F_u {I J : Nat → Nat → Int32} {c j : Nat} {x : Int32} (h : rw_F I J) (hc : (469 ≤ c ∧ c ≤ 475) ∨ c = 491 ∨ c = 495 ∨ (c = 460 ∧ (j = 0 ∨ j = 32 ∨ (37 ≤ j ∧ j ≤ 39) ∨ j = 49))) : rw_F I (wv_u J c j x) := fun d k h1 h2 h3 h4 => by
  rw [wv_u_no _ _ (by omega)]
  exact h d k h1 h2 h3 h4
def rw_MI (T : wv_T) (I : Nat → Nat → Int32) (n : Nat) (v : Nat → Nat) (S : Nat → rn_N) (m0 x : Nat → Nat) (sq : Nat → List Nat) : Prop := wm_T T ∧ I 460 46 = Int32.ofNat n ∧ n ≤ 24 ∧ (∀ k, k < n → I 489 k = Int32.ofNat (v k) ∧ v k < 64) ∧ ∀ p, p < 2 → kp_K I p (S p) (m0 p) (x p) (sq p) ∧ mr_ok (S p) (m0 p) (x p)
theorem rw_bp_1 {pi : Int32} : rw_bp pi ↔ pi < 0 ∨ ¬ pi ≤ Int32.ofInt 1 := by
  unfold rw_bp
  rw [wi_lt, wi_le, wi_le, wi_0]
  have e1 : (Int32.ofInt 1).toInt = 1 := rfl
  have e2 : (Int32.ofInt 2).toInt = 2 := rfl
  rw [e1, e2]
  omega
def rw_l13 (pi ii jj : Int32) (x4 : Option Value) : List (Option Value) := [some (.ref 460), some (.int pi), some (.int ii), some (.int jj), x4, none, none, none, none]
def rw_h413 (pi ii jj : Int32) (n : Nat) (v : Nat → Nat) (S : Nat → rn_N) (m0 : Nat → Nat) (sq : Nat → List Nat) (T : wv_T) (N : Nat) (I : Nat → Nat → Int32) (L : Nat → Nat → Int64) (R : Nat → Nat → Option Nat) : Nat → Option (Nat → wv_P) := fun pc =>
  if pc = 15 then some (fun mm lv st T1 N1 I1 L1 R1 nc ns => ∃ f : Bool, lv = rw_l13 pi ii jj none ∧ st = [.int (wb_i f), .ref 460] ∧ T1 = T ∧ N1 = N ∧ I1 = I ∧ L1 = L ∧ R1 = R ∧ nc = 0 ∧ ns = 0 ∧ mm = 1000 ∧ (f = true ↔ rw_bp pi))
  else if pc = 37 then some (fun mm lv st T1 N1 I1 L1 R1 nc ns => ∃ f g : Bool, lv = rw_l13 pi ii jj none ∧ st = [.int (wb_i g), .int (wb_i f), .ref 460] ∧ T1 = T ∧ N1 = N ∧ I1 = I ∧ L1 = L ∧ R1 = R ∧ nc = 0 ∧ ns = 0 ∧ mm = 999 ∧ (f = true ↔ rw_bp pi) ∧ (g = true ↔ rw_br (Int32.ofNat n) ii jj))
  else if pc = 72 then some (fun mm lv st T1 N1 I1 L1 R1 nc ns => ∃ (k p i j y : Nat), lv = rw_l13 pi ii jj (some (.int (Int32.ofNat k))) ∧ st = [] ∧ T1 = T ∧ N1 = N ∧ L1 = L ∧ R1 = R ∧ nc = 0 ∧ ns = 0 ∧ mm = 500 - k ∧ (p < 2 ∧ pi = Int32.ofNat p ∧ ii = Int32.ofNat i ∧ jj = Int32.ofNat j ∧ i ≤ j ∧ j ≤ n ∧ ¬ rw_br (Int32.ofNat n) ii jj ∧ (sq p)[0]? = some y) ∧ k ≤ j ∧ rw_F I I1 ∧ I1 460 0 = 0 ∧ (∀ x, x < rn_n (S p) → pn_1 (mr_V I1) (S p) (m0 p) x) ∧ I1 460 37 = Int32.ofNat (rn_n (S p)) ∧ I1 460 39 = Int32.ofNat y ∧ I1 460 32 = Int32.ofNat (mr_wd (S p)) ∧ I1 460 49 = Int32.ofNat j ∧ (∀ k, k < n → I1 489 k = Int32.ofNat (v k)) ∧ ∀ a, a < k → I1 491 a = Int32.ofNat (v a))
  else none
/-- writing elsewhere leaves the chosen nodes -/
theorem rw_pn {I J : Nat → Nat → Int32} {S : rn_N} {m0 x : Nat} (h : pn_1 (mr_V I) S m0 x) (g : ∀ c j, 469 ≤ c → c ≤ 475 → J c j = I c j) : pn_1 (mr_V J) S m0 x := by
  have e : ∀ c j, 462 ≤ c → c ≤ 468 → mr_V J c j = mr_V I c j := fun c j h1 h2 => by
    unfold mr_V
    split
    · exact g _ _ (by omega) (by omega)
    split
    · exact g _ _ (by omega) (by omega)
    split
    · exact g _ _ (by omega) (by omega)
    · exact g _ _ (by omega) (by omega)
  obtain ⟨a1, a2, a3, a4⟩ := h
  refine ⟨(e _ _ (by omega) (by omega)).trans a1, (e _ _ (by omega) (by omega)).trans a2, fun z => ?_, fun z => ?_⟩
  · obtain ⟨f, k, f1, f2, f3, f4, f5⟩ := a3 z
    refine ⟨f, k, (e _ _ (by omega) (by omega)).trans f1, (e _ _ (by omega) (by omega)).trans f2, f3, f4, fun u hu => (f5 u hu).trans ⟨?_, ?_⟩⟩
    · rintro ⟨c, c1, c2, c3⟩
      exact ⟨c, c1, c2, by rw [e _ _ (by omega) (by omega)]; exact c3⟩
    · rintro ⟨c, c1, c2, c3⟩
      exact ⟨c, c1, c2, by rw [e _ _ (by omega) (by omega)] at c3; exact c3⟩
  · obtain ⟨f1, f2, f3, f4⟩ := a4 z
    exact ⟨(e _ _ (by omega) (by omega)).trans f1, (e _ _ (by omega) (by omega)).trans f2, fun y => (e _ _ (by omega) (by omega)).trans (f3 y), fun y => (e _ _ (by omega) (by omega)).trans (f4 y)⟩
def rw_MB (q : wv_Q) (pi ii jj : Int32) (T : wv_T) (N : Nat) (I : Nat → Nat → Int32) (L : Nat → Nat → Int64) (R : Nat → Nat → Option Nat) (n : Nat) (v : Nat → Nat) (S : Nat → rn_N) (sq : Nat → List Nat) : Prop := (rw_bp pi → q (.inl (some (.int 0))) T N (wv_u I 460 0 1) L R 0 0) ∧ (¬ rw_bp pi → rw_br (Int32.ofNat n) ii jj → q (.inl (some (.int 0))) T N (wv_u I 460 0 2) L R 0 0) ∧ ∀ p, p < 2 → pi = Int32.ofNat p → ¬ rw_br (Int32.ofNat n) ii jj → (sq p = [] → ∀ I1, rw_F I I1 → I1 460 0 = 3 → q (.inl (some (.int 0))) T N I1 L R 0 0) ∧ ∀ y i j, (sq p)[0]? = some y → i ≤ j → j ≤ n → ii = Int32.ofNat i → jj = Int32.ofNat j → ∀ I1 L1, rw_F I I1 → I1 460 0 = 0 → mr_FL L L1 → I1 460 39 = Int32.ofNat y → I1 460 49 = Int32.ofNat j → I1 460 32 = Int32.ofNat (mr_wd (S p)) → ns_sol (rn_d (S p)) (rn_h (S p)) (pd_wn v j) (j + mr_wd (S p)) (rn_n (S p)) (mr_S L1 (j + mr_wd (S p))) → q (.inl (some (.int 1))) T N I1 L1 R 0 0
def rw_c413 : wv_c1 := fun as T N I L R q => ∃ (pi ii jj : Int32) (n : Nat) (v : Nat → Nat) (S : Nat → rn_N) (m0 x : Nat → Nat) (sq : Nat → List Nat), as = [.ref 460, .int pi, .int ii, .int jj] ∧ rw_MI T I n v S m0 x sq ∧ (∀ p, p < 2 → ∀ y, y ∈ sq p → y < 500) ∧ rw_MB q pi ii jj T N I L R n v S sq
set_option maxRecDepth 100000 in
theorem wM_413 : ∃ cb ci np, pt_mt 413 = some (32, cb, 5, false, some .boolean, ci, np) := ⟨_, _, _, rfl⟩
set_option maxRecDepth 100000 in
set_option maxHeartbeats 4000000 in
theorem rw_begin {sc : pt_Sc} {d : Nat} : wv_C wm_fx sc (d + 1 + 1 + 1 + 1 + 1 + 1 + 1) 413 rw_c413 := by
  rintro as T N I L R q ⟨pi, ii, jj, n, v, S, m0, x, sq, rfl, ⟨hT, h46, hn, hv, hK⟩, hy5, hb, hr, h⟩ w0 HR
  obtain ⟨cb, ci, np, hm⟩ := wM_413
  have hc345 : wv_C wm_fx sc (d + 1 + 1 + 1 + 1 + 1 + 1) 345 wp_c345 := wv_C_deep (by omega) (wp_refuse (d := d))
  have hc377 : wv_C wm_fx sc (d + 1 + 1 + 1 + 1 + 1 + 1) 377 mr_c377 := wv_C_deep (by omega) (mr_choose (d := d))
  have hc378 : wv_C wm_fx sc (d + 1 + 1 + 1 + 1 + 1 + 1) 378 mr_c378 := wv_C_deep (by omega) (mr_look (d := d))
  refine wv_meth (hh := none) rfl (sp := wv_sp [(345, wp_c345), (377, mr_c377), (378, mr_c378)]) (hd := rw_h413 pi ii jj n v S m0 sq T N I L R) (n := 300) (n1 := 300) hm zc_413 rfl (wv_sp_ok (fun q hq => by
    rcases List.mem_cons.mp hq with h | h
    · rw [h]; exact hc345
    rcases List.mem_cons.mp h with h | h
    · rw [h]; exact hc377
    rw [List.mem_singleton.mp h]; exact hc378)) ?_ ?_ HR
  · refine ⟨fun w => ?_, fun w => ?_⟩
    · exact ⟨_, true, rfl, rfl, rfl, rfl, rfl, rfl, rfl, rfl, rfl, rfl, ⟨fun _ => rw_bp_1.mpr (Or.inl w), fun _ => rfl⟩⟩
    refine ⟨fun w2 => ?_, fun w2 => ?_⟩
    · exact ⟨_, false, rfl, rfl, rfl, rfl, rfl, rfl, rfl, rfl, rfl, rfl, ⟨fun z => (by cases z), fun z => ((rw_bp_1.mp z).elim w (fun y => y w2)).elim⟩⟩
    · exact ⟨_, true, rfl, rfl, rfl, rfl, rfl, rfl, rfl, rfl, rfl, rfl, ⟨fun _ => rw_bp_1.mpr (Or.inr w2), fun _ => rfl⟩⟩
  · intro pc P hP m lv st T1 N1 I1 L1 R1 nc ns hh
    have n10 : ¬ (1 : Int32) = 0 := by decide
    unfold rw_h413 at hP
    by_cases p15 : pc = 15
    · rw [if_pos p15] at hP
      cases hP
      subst p15
      obtain ⟨f, rfl, rfl, rfl, rfl, rfl, rfl, rfl, rfl, rfl, rfl, hf⟩ := hh
      refine ⟨fun w => ?_, fun w => ?_⟩
      · exact ⟨999, by omega, f, true, rfl, rfl, rfl, rfl, rfl, rfl, rfl, rfl, rfl, rfl, hf, ⟨fun _ => Or.inl w, fun _ => rfl⟩⟩
      refine ⟨fun w2 => ?_, fun w2 => ?_⟩
      · rw [h46] at w2
        exact ⟨999, by omega, f, true, rfl, rfl, rfl, rfl, rfl, rfl, rfl, rfl, rfl, rfl, hf, ⟨fun _ => Or.inr (Or.inr w2), fun _ => rfl⟩⟩
      rw [h46] at w2
      refine ⟨fun w3 => ?_, fun w3 => ?_⟩
      · exact ⟨999, by omega, f, false, rfl, rfl, rfl, rfl, rfl, rfl, rfl, rfl, rfl, rfl, hf, ⟨fun z => (by cases z), fun z => (z.elim w (fun y => y.elim (fun y2 => Int32.not_lt.mpr w3 y2) w2)).elim⟩⟩
      · exact ⟨999, by omega, f, true, rfl, rfl, rfl, rfl, rfl, rfl, rfl, rfl, rfl, rfl, hf, ⟨fun _ => Or.inr (Or.inl (Int32.not_le.mp w3)), fun _ => rfl⟩⟩
    rw [if_neg p15] at hP
    by_cases p37 : pc = 37
    · rw [if_pos p37] at hP
      cases hP
      subst p37
      obtain ⟨f, g, rfl, rfl, rfl, rfl, rfl, rfl, rfl, rfl, rfl, rfl, hf, hg⟩ := hh
      refine ⟨_, _, rfl, ?_⟩
      cases f with
      | true =>
        rw [if_neg (by decide)]
        exact ⟨fun z => (n10 z).elim, fun _ => ⟨⟨rfl, rfl⟩, hb (hf.mp rfl)⟩⟩
      | false =>
        have nf : ¬ rw_bp pi := fun z => by
          have := hf.mpr z
          cases this
        rw [if_pos (by decide)]
        cases g with
        | true =>
          rw [if_neg (by decide)]
          exact ⟨fun z => (n10 z).elim, fun _ => ⟨⟨rfl, rfl⟩, hr nf (hg.mp rfl)⟩⟩
        | false =>
          have ng : ¬ rw_br (Int32.ofNat n) ii jj := fun z => by
            have := hg.mpr z
            cases this
          rw [if_pos (by decide)]
          refine ⟨fun _ => ?_, fun z => (z rfl).elim⟩
          obtain ⟨p, hp, e⟩ := rw_bp_n nf
          obtain ⟨i, j, ij, jn, ei, ej⟩ := rw_br_n hn ng
          obtain ⟨h1, h2⟩ := h p hp e ng
          obtain ⟨hn5, hm0, hx, hI, hq, hab⟩ := (hK p hp).2
          have hF0 : rw_F I1 (wv_u I1 460 0 0) := rw_F_u (fun _ _ _ _ _ _ => rfl) (by omega)
          refine ⟨S p, m0 p, p, x p, sq p, by rw [e]; rfl, hT, hp, kp_K_F (hK p hp).1 (fun c j c1 c2 => wv_u_no _ _ (by omega)), hn5, hm0, fun I2 hF2 g1 g2 g3 g4 g5 => ?_⟩
          have hF : rw_F I1 I2 := fun c j a1 a2 a3 a4 => (hF2 c j a1 (by omega)).trans (hF0 c j a1 a2 a3 a4)
          have h0 : I2 460 0 = 0 := by
            rw [hF2 _ _ (by omega) (by omega), wv_u_at]
          refine ⟨fun w => ?_, fun w => ?_⟩
          · have w : 0 ≤ I2 460 39 := w
            obtain ⟨y, l, hsq⟩ : ∃ y l, sq p = y :: l := by
              cases hs : sq p with
              | nil =>
                rw [g4, hs] at w
                exact absurd w (by decide)
              | cons y l => exact ⟨y, l, rfl⟩
            have e39 : I2 460 39 = Int32.ofNat y := by
              rw [g4, hsq]
              rfl
            refine ⟨500 - 0, by omega, 0, p, i, j, y, rfl, rfl, rfl, rfl, rfl, rfl, rfl, rfl, rfl, ⟨hp, e, ei, ej, ij, jn, ng, by rw [hsq]; rfl⟩, Nat.zero_le _, rw_F_u hF (by omega), ?_, fun x hx => rw_pn (g1 x hx) (fun c j c1 c2 => wv_u_no _ _ (by omega)), ?_, ?_, ?_, ?_, fun k hk => ?_, fun a ha => by omega⟩
            · rw [wv_u_no _ _ (by omega)]
              exact h0
            · rw [wv_u_no _ _ (by omega)]
              exact g2
            · rw [wv_u_no _ _ (by omega)]
              exact e39
            · rw [wv_u_no _ _ (by omega)]
              exact g5
            · rw [wv_u_at]
              exact ej
            · rw [wv_u_no _ _ (by omega), hF _ _ (by omega) (by omega) (by omega) (by omega)]
              exact (hv k hk).1
          · have w : ¬ 0 ≤ I2 460 39 := w
            refine ⟨⟨rfl, rfl⟩, h1 ?_ _ (rw_F_u hF (by omega)) (wv_u_at _ _ _ _)⟩
            cases hs : sq p with
            | nil => rfl
            | cons y l =>
              exfalso
              apply w
              rw [g4, hs]
              have hy : y < 500 := hy5 p hp y (by rw [hs]; exact List.mem_cons_self)
              show 0 ≤ Int32.ofNat y
              rw [wi_le, wi_on (by omega), wi_0]
              omega
    rw [if_neg p37] at hP
    by_cases p72 : pc = 72
    · rw [if_pos p72] at hP
      cases hP
      subst p72
      obtain ⟨k, p, i, j, y, rfl, rfl, rfl, rfl, rfl, rfl, rfl, rfl, rfl, ⟨hp, e, ei, ej, ij, jn, ng, hy⟩, hk, hF, h0, g1, g2, g3, g4, g5, h489, h491⟩ := hh
      have ek := wi_on (n := k) (by omega)
      have ekn := wi_onn (n := k) (by omega)
      have ejj := wi_on (n := j) (by omega)
      obtain ⟨hn5, hm0, hx, hI, hq, hab⟩ := (hK p hp).2
      refine ⟨fun w => ?_, fun w => ?_⟩
      · rw [ej, wi_le, ejj, ek] at w
        have e2 : k = j := by omega
        subst e2
        have hX : mr_X T1 I1 (S p) (m0 p) k (mr_wd (S p)) v := ⟨hT, ⟨g2, hn5, hm0, g1⟩, g5, by omega, g4, mr_wd_le _, fun a ha => ⟨h491 a ha, (hv a (by omega)).2⟩⟩
        refine ⟨S p, m0 p, k, mr_wd (S p), v, false, rfl, hX, hI, hq, hab, fun I2 L2 f1 f2 f3 _ => ?_⟩
        exact ⟨⟨rfl, rfl⟩, (h p hp e ng).2 y i k hy ij jn ei ej I2 L2 (fun c a a1 a2 a3 a4 => (f1 c a a3).trans (hF c a a1 a2 a3 a4)) ((f1 _ _ (by omega)).trans h0) f2 ((f1 _ _ (by omega)).trans g3) ((f1 _ _ (by omega)).trans g5) ((f1 _ _ (by omega)).trans g4) f3⟩
      rw [ej, wi_le, ejj, ek] at w
      refine ⟨_, wm_t hT rfl, pp_b (c := 24) (by omega) (by omega), ?_⟩
      refine ⟨_, wm_t hT rfl, pp_b (c := 24) (by omega) (by omega), by decide, ?_⟩
      rw [ekn]
      refine ⟨500 - (k + 1), by omega, k + 1, p, i, j, y, by unfold rw_l13; rw [← wq_4s k]; rfl, rfl, rfl, rfl, rfl, rfl, rfl, rfl, rfl, ⟨hp, e, ei, ej, ij, jn, ng, hy⟩, by omega, rw_F_u hF (by omega), ?_, fun x hx => rw_pn (g1 x hx) (fun c j c1 c2 => wv_u_no _ _ (by omega)), ?_, ?_, ?_, ?_, fun a ha => ?_, fun a ha => ?_⟩
      · rw [wv_u_no _ _ (by omega)]
        exact h0
      · rw [wv_u_no _ _ (by omega)]
        exact g2
      · rw [wv_u_no _ _ (by omega)]
        exact g3
      · rw [wv_u_no _ _ (by omega)]
        exact g4
      · rw [wv_u_no _ _ (by omega)]
        exact g5
      · rw [wv_u_no _ _ (by omega)]
        exact h489 a ha
      · by_cases c : a = k
        · subst c
          rw [wv_u_at]
          exact h489 a (by omega)
        · rw [wv_u_no _ _ (by omega)]
          exact h491 a (by omega)
    rw [if_neg p72] at hP
    cases hP
