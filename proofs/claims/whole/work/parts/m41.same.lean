/-! ===== both tell the same classes ===== -/
theorem kc_z_u {A : nt_A} {g k1 k2 : Nat} {z : List Nat} (h1 : kc_z A g z k1) (h2 : kc_z A g z k2) : k1 = k2 := by
  rcases h1 with ⟨a1, a2⟩ | ⟨a1, a2, a3⟩ | ⟨a1, a2, a3⟩
  · rcases h2 with ⟨b1, b2⟩ | ⟨b1, b2, b3⟩ | ⟨b1, b2, b3⟩
    · omega
    · exact (b2 a2).elim
    · exact (b2 a2).elim
  · rcases h2 with ⟨b1, b2⟩ | ⟨b1, b2, b3⟩ | ⟨b1, b2, b3⟩
    · exact (a2 b2).elim
    · omega
    · exact (b3 a3).elim
  · rcases h2 with ⟨b1, b2⟩ | ⟨b1, b2, b3⟩ | ⟨b1, b2, b3⟩
    · exact (a2 b2).elim
    · exact (a3 b3).elim
    · omega
theorem rk_same {E B g K1 K2 : Nat} {A : nt_A} {U : np_A} {I : Nat → Nat → Int32} {mv1 mv2 : Nat → Nat → Nat} {kd1 kd2 : Nat → Nat} (h1 : kc_r E B g A I K1 mv1 kd1) (h2 : rk_c U K2 mv2 kd2) (hs : np_sim U A) (hg : ni_A g A) (hU : np_n U ≤ 64) : K1 = K2 ∧ (∀ c, c < K1 → kd1 c = kd2 c ∧ ∀ v, v < 64 → mv1 c v = mv2 c v) ∧ ∀ z, df_w z → df_run mv1 0 z = df_run mv2 0 z := by
  obtain ⟨rep, Al, hs⟩ := hs
  have hs : rs_sim U A rep Al := hs
  obtain ⟨_, _, _, _, _, _, o1, b1, m1, z1⟩ := h1
  obtain ⟨o2, b2, m2, z2⟩ := h2
  have h0 : df_eq mv1 kd1 mv2 kd2 0 0 := fun z hz => by
    obtain ⟨x, x1, x2⟩ := z2 z hz
    exact kc_z_u (z1 z hz) (rs_kind hs hU hg x1 x2)
  obtain ⟨e1, e2⟩ := df_same o1 o2 b1 b2 m1 m2 h0
  refine ⟨e1, e2, ?_⟩
  have run : ∀ (z : List Nat) (c : Nat), c < K1 → df_w z → df_run mv1 c z = df_run mv2 c z := by
    intro z
    induction z with
    | nil => exact fun c _ _ => rfl
    | cons v z ih =>
      intro c hc hz
      have hv := hz v List.mem_cons_self
      have ev := (e2 c hc).2 v hv
      show df_run mv1 (mv1 c v) z = df_run mv2 (mv2 c v) z
      rw [← ev]
      exact ih _ (o1.2 c hc v hv) (fun u hu => hz u (List.mem_cons_of_mem _ hu))
  exact fun z hz => run z 0 o1.1 hz
/-- what the class holds of its classes, and what it holds behind a call -/
def kc_Sd (C k : Nat) (A : nt_A) (g : Nat) (T : wv_T) (N : Nat) (I : Nat → Nat → Int32) (R : Nat → Nat → Option Nat) : Prop := ∃ B, R (C + 76 + 5 * k) 4 = some B ∧ 535 < N ∧ N < 1000000000 ∧ ((kc_B T R (C + 76 + 5 * k) B ∧ kc_res (C + 76 + 5 * k) B g A I) ∨ (I (C + 76 + 5 * k) 8 = 0 ∧ kc_B T R (C + 76 + 5 * k) B) ∨ (I (C + 76 + 5 * k) 8 = 0 ∧ T B = some (.inr (0, 0))))
def kc_A (C k : Nat) (A : nt_A) (g : Nat) (T : wv_T) (N : Nat) (I : Nat → Nat → Int32) (L : Nat → Nat → Int64) (R : Nat → Nat → Option Nat) (T1 : wv_T) (N1 : Nat) (I1 : Nat → Nat → Int32) (L1 : Nat → Nat → Int64) (R1 : Nat → Nat → Option Nat) (n1 s1 : Nat) : Prop := ∃ B, kc_B T1 R1 (C + 76 + 5 * k) B ∧ kc_res (C + 76 + 5 * k) B g A I1 ∧ ((T1 = T ∧ N1 = N ∧ R1 = R ∧ n1 = 0 ∧ s1 = 0 ∧ kc_bF (C + 76 + 5 * k) B I I1 ∧ kc_FL (C + 76 + 5 * k) L L1) ∨ ((T N = none ∧ ∃ B0, R (C + 76 + 5 * k) 4 = some B0 ∧ T B0 = some (.inr (0, 0))) ∧ B = N ∧ 535 < N ∧ N < 1000000000 ∧ T1 = wv_n T N (.inr (0, 4224)) ∧ N1 = N + 1 ∧ R1 = wv_u (wv_z R N none) (C + 76 + 5 * k) 4 (some N) ∧ n1 = 1 ∧ s1 = 4224 ∧ kc_bF (C + 76 + 5 * k) N (wv_z I N 0) I1 ∧ kc_FL (C + 76 + 5 * k) (wv_z L N 0) L1))
theorem kc_S_of {q : wv_Q} {C k g : Nat} {A : nt_A} {T : wv_T} {N : Nat} {I : Nat → Nat → Int32} {L : Nat → Nat → Int64} {R : Nat → Nat → Option Nat} (h : kc_Sd C k A g T N I R) (hq : ∀ T1 N1 I1 L1 R1 n1 s1, kc_A C k A g T N I L R T1 N1 I1 L1 R1 n1 s1 → q (.inl (some (.ref (C + 76 + 5 * k)))) T1 N1 I1 L1 R1 n1 s1) : kc_S q C k A g T N I L R := by
  obtain ⟨B, h1, h2, h3, h4⟩ := h
  refine ⟨B, h1, h2, h3, ?_⟩
  rcases h4 with ⟨a1, a2⟩ | ⟨a1, a2⟩ | ⟨a1, a2⟩
  · exact Or.inl ⟨a1, a2, hq _ _ _ _ _ _ _ ⟨B, a1, a2, Or.inl ⟨rfl, rfl, rfl, rfl, rfl, fun _ _ _ _ _ => rfl, fun _ _ _ => rfl⟩⟩⟩
  · exact Or.inr (Or.inl ⟨a1, a2, fun I2 L2 y1 y2 y3 => hq _ _ _ _ _ _ _ ⟨B, a2, y1, Or.inl ⟨rfl, rfl, rfl, rfl, rfl, y2, y3⟩⟩⟩)
  · exact Or.inr (Or.inr ⟨a1, a2, fun hN I2 L2 y1 y2 y3 => hq _ _ _ _ _ _ _ ⟨N, ⟨wv_u_at _ _ _ _, if_pos rfl, h2, by omega⟩, y1, Or.inr ⟨⟨hN, B, h1, a2⟩, rfl, h2, h3, rfl, rfl, rfl, rfl, rfl, y2, y3⟩⟩⟩)
/-- what such a call leaves alone -/
theorem kc_A_f {C k g : Nat} {A : nt_A} {T : wv_T} {N : Nat} {I : Nat → Nat → Int32} {L : Nat → Nat → Int64} {R : Nat → Nat → Option Nat} {T1 : wv_T} {N1 : Nat} {I1 : Nat → Nat → Int32} {L1 : Nat → Nat → Int64} {R1 : Nat → Nat → Option Nat} {n1 s1 : Nat} (hE : C + 80 + 5 * k < 460) (h : kc_A C k A g T N I L R T1 N1 I1 L1 R1 n1 s1) : (∀ y v, T y = some v → T1 y = some v) ∧ (∀ c j, 460 ≤ c → (c ≤ 535 ∨ ∃ x, T c = some x ∧ ¬ x = .inr (0, 4224)) → I1 c j = I c j ∧ L1 c j = L c j) := by
  obtain ⟨B, hB, _, h⟩ := h
  obtain ⟨b1, b2, b3, b4⟩ := hB
  rcases h with ⟨rfl, rfl, rfl, rfl, rfl, f, g⟩ | ⟨⟨hN, _⟩, rfl, h5, h6, rfl, rfl, rfl, rfl, rfl, f, g⟩
  · refine ⟨fun _ _ e => e, fun c j hc hx => ⟨f c j (by omega) (by omega) (fun z => ?_), g c j (by omega)⟩⟩
    subst z
    rcases hx with hx | ⟨x, x1, x2⟩
    · omega
    · rw [b2] at x1
      exact x2 (Option.some.inj x1).symm
  · refine ⟨fun y v e => ?_, fun c j hc hx => ?_⟩
    · unfold wv_n
      rw [if_neg (fun z => by rw [z, hN] at e; cases e)]
      exact e
    · have hcN : ¬ c = B := fun z => by
        subst z
        rcases hx with hx | ⟨x, x1, x2⟩
        · omega
        · rw [hN] at x1
          cases x1
      exact ⟨(f c j (by omega) (by omega) hcN).trans (if_neg hcN), (g c j (by omega)).trans (if_neg hcN)⟩
/-- how both sides stand to one another -/
def kl_p (p : Nat) (T : wv_T) (N : Nat) (I : Nat → Nat → Int32) (L : Nat → Nat → Int64) (R : Nat → Nat → Option Nat) (C : Nat) (A : nt_A) (w g : Nat) (S : rn_N) (sq : List Nat) (lo : Nat → Nat) (U : Nat → np_A) (cl : Nat → Nat) (Al : Nat → Prop) : Prop := (sq = [] → I C 9 = 0) ∧ ∀ y l, sq = y :: l → ¬ I C 9 = 0 ∧ (y < rn_n S ∧ rn_w S y < 2147483648) ∧ (I (C + 9 + 0) 2 ≤ kk_s ↔ rn_w S y ≤ 6) ∧ (rn_w S y ≤ 6 → kc_D T R (C + 76 + 5 * 0) ∧ kc_Q T I L R (C + 76 + 5 * 0) (C + 9 + 0) A w g ∧ nt_n A ≤ 6 ∧ kc_Sd C 0 A g T N I R ∧ rk_P p S lo U y cl Al I ∧ np_sim (U y) A ∧ ni_A g A ∧ np_n (U y) ≤ 64)
def rk_L3 (L M : Nat → Nat → Int64) : Prop := ∀ c j, ¬ (c = 506 ∨ c = 507 ∨ c = 512 ∨ c = 513 ∨ c = 515) → ¬ c = 536 → M c j = L c j
def kl_H (Rel : wv_T → Nat → (Nat → Nat → Int32) → (Nat → Nat → Int64) → (Nat → Nat → Option Nat) → Nat → Nat → Nat → Prop) (T : wv_T) (N : Nat) (I : Nat → Nat → Int32) (L : Nat → Nat → Int64) (R : Nat → Nat → Option Nat) (nc ns i : Nat) : Prop := ∃ (C : Nat → Nat) (A : Nat → nt_A) (w g : Nat → Nat) (S : Nat → rn_N) (m0 x : Nat → Nat) (sq : Nat → List Nat) (lo : Nat → Nat → Nat) (U : Nat → Nat → np_A) (cl : Nat → Nat → Nat) (Al : Nat → Nat → Prop) (n : Nat) (v : Nat → Nat), T 536 = some (.inr (1, 1)) ∧ kc_I T R C ∧ (∀ p, p < 2 → rk_I T I p (S p) (m0 p) (x p) (sq p)) ∧ (∀ p, p < 2 → kl_p p T N I L R (C p) (A p) (w p) (g p) (S p) (sq p) (lo p) (U p) (cl p) (Al p)) ∧ (I 0 16 = Int32.ofNat n ∧ I 460 46 = Int32.ofNat n ∧ n ≤ 24 ∧ ∀ k, k < n → I 341 k = Int32.ofNat (v k) ∧ I 489 k = Int32.ofNat (v k) ∧ v k < 64) ∧ (∀ z, Rel T N (wv_u I 460 0 z) L R (nc + 1) (ns + 6) (i + 4)) ∧ (∀ p, p < 2 → (∀ y l, sq p = y :: l → ¬ rn_w (S p) y ≤ 6) → ∀ I1, rk_G p I I1 → Rel T N I1 L R (nc + 1) (ns + 6) (i + 4)) ∧ ∀ p, p < 2 → ∀ y l, sq p = y :: l → rn_w (S p) y ≤ 6 → ∀ T1 N1 I1 L1 R1 n1 s1, kc_A (C p) 0 (A p) (g p) T N I L R T1 N1 I1 L1 R1 n1 s1 → ∀ K mv kd I2 L2, rk_c (U p y) K mv kd → rk_T (4 * p) K mv kd I2 → rk_G p I1 I2 → rk_L3 L1 L2 → ∀ e, e ≤ 1 → Rel T1 N1 I2 L2 R1 (nc + (n1 + e)) (ns + (s1 + 6 * e)) (i + 4)
theorem kl_p2 {pi : Int32} {p p2 : Nat} (hp : p < 2) (hp2 : p2 < 2) (e : pi = Int32.ofNat p) (e2 : pi = Int32.ofNat p2) : p2 = p := by
  have := wi_eq.mp (e.symm.trans e2)
  rw [wi_on (by omega), wi_on (by omega)] at this
  omega
theorem kl_bp {pi : Int32} {p : Nat} (hp : p < 2) (e : pi = Int32.ofNat p) : ¬ rw_bp pi := fun hb => by
  unfold rw_bp at hb
  rw [e, wi_lt, wi_le, wi_on (by omega), wi_0, show (Int32.ofInt 2).toInt = 2 from rfl] at hb
  omega
theorem kl_br {n i j : Nat} {ii jj : Int32} (hn : n ≤ 24) (ij : i ≤ j) (jn : j ≤ n) (ei : ii = Int32.ofNat i) (ej : jj = Int32.ofNat j) : ¬ rw_br (Int32.ofNat n) ii jj := fun hb => by
  unfold rw_br at hb
  rw [ei, ej, wi_lt, wi_lt, wi_lt, wi_on (by omega), wi_on (by omega), wi_on (by omega), wi_0] at hb
  omega
theorem rk_I_c {T T1 : wv_T} {I J : Nat → Nat → Int32} {p m0 x : Nat} {S : rn_N} {sq : List Nat} (h : rk_I T I p S m0 x sq) (hT : ∀ y v, T y = some v → T1 y = some v) (g : ∀ c j, 476 ≤ c → c ≤ 483 → J c j = I c j) : rk_I T1 J p S m0 x sq := ⟨fun a b e => hT _ _ (h.1 a b e), kp_K_F h.2.1 g, h.2.2⟩
