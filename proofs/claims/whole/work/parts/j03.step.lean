/-! ===== the class: a property under way ===== -/
def sc_c174 : wv_c1 := fun as T N I L R q => ∃ c : Int32, as = [.int c] ∧ q (.inl (some (.int (wb_i (decide (0 ≤ c.toInt ∧ c.toInt < 64)))))) T N I L R 0 0
set_option maxRecDepth 100000 in
theorem wM_174 : ∃ cb ci np, pt_mt 174 = some (1, cb, 1, false, some .boolean, ci, np) := ⟨_, _, _, rfl⟩
set_option maxRecDepth 100000 in
set_option maxHeartbeats 4000000 in
theorem sc_isLetter {sc : pt_Sc} {d : Nat} : wv_C wm_fx sc (d + 1) 174 sc_c174 := by
  rintro as T N I L R q ⟨c, rfl, h⟩ w0 HR
  obtain ⟨cb, ci, np, hm⟩ := wM_174
  refine wv_meth (hh := none) rfl (sp := fun _ _ _ _ _ _ _ _ => False) (hd := fun _ => none) (n := 0) (n1 := 300) hm zc_174 rfl (fun k as T N I L R q h => by cases h) ?_ (fun pc P h => by cases h) HR
  refine ⟨fun w => ⟨⟨rfl, rfl⟩, ?_⟩, fun w => ⟨fun w2 => ⟨⟨rfl, rfl⟩, ?_⟩, fun w2 => ⟨⟨rfl, rfl⟩, ?_⟩⟩⟩
  · have w : c < 0 := w
    rw [wi_lt, wi_0] at w
    rw [decide_eq_false (by omega)] at h
    exact h
  · have w : ¬ c < 0 := w
    rw [wi_lt, wi_0] at w
    have w2 : 64 ≤ c.toInt := wi_le.mp w2
    rw [decide_eq_false (by omega)] at h
    exact h
  · have w : ¬ c < 0 := w
    rw [wi_lt, wi_0] at w
    have w2 : ¬ 64 ≤ c.toInt := fun z => w2 (wi_le.mpr z)
    rw [decide_eq_true (by omega)] at h
    exact h
def sc_c178 : wv_c1 := fun as T N I L R q => ∃ (x : Int64) (k : Nat), as = [.long x, .int (Int32.ofNat k)] ∧ k < 64 ∧ q (.inl (some (.int (wb_i (nb x k))))) T N I L R 0 0
set_option maxRecDepth 100000 in
theorem wM_178 : ∃ cb ci np, pt_mt 178 = some (8, cb, 3, false, some .boolean, ci, np) := ⟨_, _, _, rfl⟩
set_option maxRecDepth 100000 in
set_option maxHeartbeats 4000000 in
theorem sc_isIn {sc : pt_Sc} {d : Nat} : wv_C wm_fx sc (d + 1) 178 sc_c178 := by
  rintro as T N I L R q ⟨x, k, rfl, hk, h⟩ w0 HR
  obtain ⟨cb, ci, np, hm⟩ := wM_178
  refine wv_meth (hh := none) rfl (sp := fun _ _ _ _ _ _ _ _ => False) (hd := fun _ => none) (n := 0) (n1 := 300) hm zc_178 rfl (fun k as T N I L R q h => by cases h) ?_ (fun pc P h => by cases h) HR
  refine ⟨fun h1 => ?_, fun h1 => ?_⟩
  · rw [(nb_c0 hk).mp h1] at h
    exact ⟨⟨rfl, rfl⟩, h⟩
  · rw [(nb_c1 hk).mp h1] at h
    exact ⟨⟨rfl, rfl⟩, h⟩
set_option maxRecDepth 100000 in
theorem sc_mk : ∀ k : Fin 40, ∀ i : Fin 64, nb (((2 : Int64) <<< ((Int32.ofNat k.1).toInt64 &&& 63)) - Int64.ofNat 1) i.1 = decide (i.1 ≤ k.1) := by decide +kernel
/-- some bit up to t -/
def sc_any (x : Int64) : Nat → Bool
  | 0 => nb x 0
  | t + 1 => sc_any x t || nb x (t + 1)
theorem sc_any_i {x : Int64} : ∀ {t : Nat}, sc_any x t = true ↔ ∃ i, i ≤ t ∧ nb x i = true
  | 0 => ⟨fun h => ⟨0, Nat.le_refl _, h⟩, fun ⟨i, h1, h2⟩ => by
    have e : i = 0 := by omega
    subst e
    exact h2⟩
  | t + 1 => by
    show (sc_any x t || nb x (t + 1)) = true ↔ _
    rw [Bool.or_eq_true, sc_any_i (t := t)]
    constructor
    · rintro (⟨i, h1, h2⟩ | h)
      · exact ⟨i, by omega, h2⟩
      · exact ⟨t + 1, Nat.le_refl _, h⟩
    · rintro ⟨i, h1, h2⟩
      by_cases e : i = t + 1
      · subst e
        exact Or.inr h2
      · exact Or.inl ⟨i, by omega, h2⟩
theorem sc_hb {x : Int64} {t : Nat} (ht : t < 40) : (x &&& (((2 : Int64) <<< ((Int32.ofNat t).toInt64 &&& 63)) - Int64.ofNat 1)) = 0 ↔ sc_any x t = false := by
  rw [nb_z, Bool.eq_false_iff, ne_eq, sc_any_i]
  constructor
  · rintro h ⟨i, h1, h2⟩
    have := h i (by omega)
    rw [nb_and, h2, sc_mk ⟨t, ht⟩ ⟨i, by omega⟩, decide_eq_true h1] at this
    cases this
  · intro h k hk
    rw [nb_and, sc_mk ⟨t, ht⟩ ⟨k, hk⟩]
    by_cases c : k ≤ t
    · have : nb x k = false := Bool.eq_false_iff.mpr (fun z => h ⟨k, c, z⟩)
      rw [this, Bool.false_and]
    · rw [decide_eq_false c, Bool.and_false]
def sc_c184 : wv_c1 := fun as T N I L R q => ∃ (x : Int64) (k : Nat), as = [.long x, .int (Int32.ofNat k)] ∧ k < 40 ∧ q (.inl (some (.int (wb_i (sc_any x k))))) T N I L R 0 0
set_option maxRecDepth 100000 in
theorem wM_184 : ∃ cb ci np, pt_mt 184 = some (8, cb, 3, false, some .boolean, ci, np) := ⟨_, _, _, rfl⟩
set_option maxRecDepth 100000 in
set_option maxHeartbeats 4000000 in
theorem sc_hasBegun {sc : pt_Sc} {d : Nat} : wv_C wm_fx sc (d + 1) 184 sc_c184 := by
  rintro as T N I L R q ⟨x, k, rfl, hk, h⟩ w0 HR
  obtain ⟨cb, ci, np, hm⟩ := wM_184
  refine wv_meth (hh := none) rfl (sp := fun _ _ _ _ _ _ _ _ => False) (hd := fun _ => none) (n := 0) (n1 := 300) hm zc_184 rfl (fun k as T N I L R q h => by cases h) ?_ (fun pc P h => by cases h) HR
  refine ⟨fun h1 => ?_, fun h1 => ?_⟩
  · rw [(sc_hb hk).mp (lg_cmp_0.mp h1)] at h
    exact ⟨⟨rfl, rfl⟩, h⟩
  · have e : sc_any x k = true := Bool.not_eq_false _ ▸ (fun z => h1 (lg_cmp_0.mpr ((sc_hb hk).mpr z)))
    rw [e] at h
    exact ⟨⟨rfl, rfl⟩, h⟩
/-- the array of states lies apart from the property -/
def sc_h (R : Nat → Nat → Option Nat) (C B : Nat) : Prop := ¬ B = C + 2 ∧ ¬ B = C + 3 ∧ ∀ k, k < 67 → ¬ B = C + 9 + k ∧ ¬ R (C + 9 + k) 0 = some B
def sc_E (T : wv_T) (I : Nat → Nat → Int32) (L : Nat → Nat → Int64) (R : Nat → Nat → Option Nat) (C : Nat) (P : pd_P) (S : rn_N) (sq : List Nat) (B b len : Nat) : Prop := (pp_D T R C ∧ C < 1000000) ∧ pq_M I L C P (pd_m P) ∧ (pq_S T I L R C S sq P ∧ sq.length ≤ 67) ∧ ((∀ i, i < pd_m P → pd_k P i = 1 → I (C + 6) i = Int32.ofNat (pp_sl (I (C + 1)) (pd_m P) i)) ∧ I C 10 = Int32.ofNat (pp_sl (I (C + 1)) (pd_m P) (pd_m P))) ∧ (T B = some (.inr (1, len)) ∧ b + pp_sl (I (C + 1)) (pd_m P) (pd_m P) ≤ len ∧ len < 100000 ∧ B < 1099511627776) ∧ sc_ok P ∧ sc_h R C B
def sc_FB (B b e : Nat) (L L1 : Nat → Nat → Int64) : Prop := ∀ c j, ¬ (c = B ∧ b ≤ j ∧ j < b + e) → L1 c j = L c j
theorem sc_FB_r {B b e : Nat} {L : Nat → Nat → Int64} : sc_FB B b e L L := fun _ _ _ => rfl
theorem sc_FB_t {B b e : Nat} {L L1 L2 : Nat → Nat → Int64} (h : sc_FB B b e L L1) (g : sc_FB B b e L1 L2) : sc_FB B b e L L2 := fun c j z => (g c j z).trans (h c j z)
theorem sc_FB_u {B b e j : Nat} {x : Int64} {L L1 : Nat → Nat → Int64} (h : sc_FB B b e L L1) (h1 : b ≤ j) (h2 : j < b + e) : sc_FB B b e L (wv_u L1 B j x) := fun c k z => by
  rw [wv_u_no _ _ (by omega)]
  exact h c k z
theorem sc_E_L {T : wv_T} {I : Nat → Nat → Int32} {L L1 : Nat → Nat → Int64} {R : Nat → Nat → Option Nat} {C : Nat} {P : pd_P} {S : rn_N} {sq : List Nat} {B b len : Nat} (h : sc_E T I L R C P S sq B b len) (g : ∀ c j, ¬ c = B → L1 c j = L c j) : sc_E T I L1 R C P S sq B b len := by
  obtain ⟨h1, h2, ⟨⟨a1, a2, a3⟩, h3⟩, h4, h5, h6, h7⟩ := h
  refine ⟨h1, pq_M_c h2 (fun _ _ _ => rfl) (fun c j hc => g c j ?_), ⟨⟨a1, fun k y hk => ?_, a3⟩, h3⟩, h4, h5, h6, h7⟩
  · obtain ⟨q1, q2, _⟩ := h7
    rcases hc with e | e
    · rw [e]
      exact fun z => q1 z.symm
    · rw [e]
      exact fun z => q2 z.symm
  · obtain ⟨y1, g0, d, n⟩ := a2 k y hk
    have hk67 : k < 67 := by
      have := (List.getElem?_eq_some_iff.mp hk).1
      omega
    obtain ⟨q1, q2⟩ := h7.2.2 k hk67
    obtain ⟨d1, d2, d3, d4, d5, d6, d7, d8, B2, len2, e1, e2, e3, e4⟩ := d
    refine ⟨y1, g0, ⟨d1, d2, d3, d4, d5, d6, fun t ht => ?_, fun t ht => ?_, B2, len2, e1, e2, e3, fun s v t hs hv hg ht => ?_⟩, n⟩
    · rw [g _ _ (fun z => q1 z.symm)]
      exact d7 t ht
    · rw [g _ _ (fun z => q1 z.symm)]
      exact d8 t ht
    · rw [g _ _ (fun z => q2 (by rw [e1, z]))]
      exact e4 s v t hs hv hg ht
theorem sc_ni {g v s t : Nat} {A : nt_A} (h : ni_A g A) : nz_D A s t (some (v &&& g)) ↔ nz_D A s t (some v) := by
  have e1 : ∀ x y, nt_D A x y (some (v &&& g)) ↔ nt_D A x y (some v) := fun x y => by
    show (x < nt_n A ∧ y < nt_n A ∧ nt_E A x y = true ∧ nt_M A x y (v &&& g) = true) ↔ (x < nt_n A ∧ y < nt_n A ∧ nt_E A x y = true ∧ nt_M A x y v = true)
    rw [h.1]
  have e2 : ∀ y, nt_h A y (some (v &&& g)) ↔ nt_h A y (some v) := fun y => by
    show (y < nt_n A ∧ nt_F A y = true ∧ nt_H A y (v &&& g) = true) ↔ (y < nt_n A ∧ nt_F A y = true ∧ nt_H A y v = true)
    rw [h.2]
  unfold nz_D
  constructor
  · rintro ⟨y, h1, ⟨h2, h3⟩ | ⟨x, h2, h3⟩⟩
    · exact ⟨y, h1, Or.inl ⟨h2, (e2 y).mp h3⟩⟩
    · exact ⟨y, h1, Or.inr ⟨x, h2, (e1 x y).mp h3⟩⟩
  · rintro ⟨y, h1, ⟨h2, h3⟩ | ⟨x, h2, h3⟩⟩
    · exact ⟨y, h1, Or.inl ⟨h2, (e2 y).mpr h3⟩⟩
    · exact ⟨y, h1, Or.inr ⟨x, h2, (e1 x y).mpr h3⟩⟩
/-- the sequence of a part -/
theorem sc_seq {T : wv_T} {I : Nat → Nat → Int32} {L : Nat → Nat → Int64} {R : Nat → Nat → Option Nat} {C : Nat} {P : pd_P} {S : rn_N} {sq : List Nat} {B b len p : Nat} (h : sc_E T I L R C P S sq B b len) (hp : p < pd_m P) (hk : (1 ≤ pd_k P p ∧ pd_k P p ≤ 3) ∨ pd_k P p = 6) : ∃ w g, sq_D T I L R (C + 9 + pd_l P p) (pd_a P p) w g ∧ ni_A g (pd_a P p) ∧ pd_l P p < 67 := by
  obtain ⟨h1, h2, ⟨⟨a1, a2, a3⟩, h3⟩, _⟩ := h
  obtain ⟨y, y1, y2⟩ := a3 p hp hk
  obtain ⟨_, g, d, n⟩ := a2 _ _ y1
  have := (List.getElem?_eq_some_iff.mp y1).1
  rw [y2]
  exact ⟨_, g, d, n, by omega⟩
/-- words of the state -/
def sc_W (L : Nat → Nat → Int64) (B b : Nat) : Nat → Nat → Prop := fun q u => nb (L B (b + q)) u = true
def sc_op (P : pd_P) (v : Nat → Nat) (W : Nat → Nat → Prop) (s n : Nat) : Prop := ∃ i, i < n ∧ W s i ∧ ∀ u, i ≤ u → u < n → pd_c P s (v u) = false
def sc_X (P : pd_P) (v : Nat → Nat) (W : Nat → Nat → Prop) (s n : Nat) (X : Int64) (sl : Nat → Int64) : Prop := (pd_k P s = 2 ∨ pd_k P s = 3 → sc_x (pd_a P s) v (W s) n X) ∧ (pd_k P s = 6 → sc_x (pd_a P s) v (fun i => ∃ i0, i0 ≤ i ∧ W s i0) n X) ∧ (pd_k P s = 8 ∨ pd_k P s = 9 → (X = Int64.ofNat 1 ∧ sc_op P v W s n) ∨ (X = Int64.ofNat 0 ∧ ¬ sc_op P v W s n)) ∧ (pd_k P s = 1 → ∃ c, c ≤ n ∧ X = Int64.ofNat c ∧ sc_L (pd_a P s) v (W s) n n c sl)
def sc_M (P : pd_P) (v : Nat → Nat) (k : Nat → Int32) (B b n p : Nat) (L : Nat → Nat → Int64) : Prop := sc_J P v n p (sc_W L B b) ∧ ∀ s, s < pd_m P → sc_X P v (sc_W L B b) s (if s < p then n + 1 else n) (L B (b + pd_m P + s)) (fun j => L B (b + pp_sl k (pd_m P) s + j))
theorem sc_x_c {A : nt_A} {v : Nat → Nat} {U V : Nat → Prop} {n : Nat} {X : Int64} (h : sc_x A v U n X) (g : ∀ i, i < n → (U i ↔ V i)) : sc_x A v V n X := by
  intro t ht
  rw [h t ht]
  constructor
  · rintro ⟨i, a, b, c⟩
    exact ⟨i, a, (g i a).mp b, c⟩
  · rintro ⟨i, a, b, c⟩
    exact ⟨i, a, (g i a).mpr b, c⟩
theorem sc_L_c {A : nt_A} {v : Nat → Nat} {U V : Nat → Prop} {n M c : Nat} {sl sl2 : Nat → Int64} (h : sc_L A v U n M c sl) (g : ∀ i, i < M → (U i ↔ V i)) (e : ∀ j, j < c → sl2 j = sl j) : sc_L A v V n M c sl2 := by
  obtain ⟨ts, t1, t2, t3, t4⟩ := h
  refine ⟨ts, t1, t2, fun i => ?_, fun j i hj t ht => ?_⟩
  · rw [t3]
    constructor
    · rintro ⟨a, b, c⟩
      exact ⟨a, (g i a).mp b, c⟩
    · rintro ⟨a, b, c⟩
      exact ⟨a, (g i a).mpr b, c⟩
  · have := (List.getElem?_eq_some_iff.mp hj).1
    rw [e j (by omega)]
    exact t4 j i hj t ht
theorem sc_X_c {P : pd_P} {v : Nat → Nat} {W V : Nat → Nat → Prop} {s n : Nat} {X : Int64} {sl sl2 : Nat → Int64} (h : sc_X P v W s n X sl) (g : ∀ i, i < n → (W s i ↔ V s i)) (e : pd_k P s = 1 → ∀ j, j < n → sl2 j = sl j) : sc_X P v V s n X sl2 := by
  obtain ⟨h1, h2, h3, h4⟩ := h
  have op : sc_op P v W s n ↔ sc_op P v V s n := by
    unfold sc_op
    constructor
    · rintro ⟨i, a, b, c⟩
      exact ⟨i, a, (g i a).mp b, c⟩
    · rintro ⟨i, a, b, c⟩
      exact ⟨i, a, (g i a).mpr b, c⟩
  refine ⟨fun k => sc_x_c (h1 k) g, fun k => sc_x_c (h2 k) (fun i hi => ?_), fun k => ?_, fun k => ?_⟩
  · constructor
    · rintro ⟨i0, a, b⟩
      exact ⟨i0, a, (g i0 (by omega)).mp b⟩
    · rintro ⟨i0, a, b⟩
      exact ⟨i0, a, (g i0 (by omega)).mpr b⟩
  · rw [← op]
    exact h3 k
  · obtain ⟨c, c1, c2, c3⟩ := h4 k
    exact ⟨c, c1, c2, sc_L_c c3 g (fun j hj => e k j (by omega))⟩
/-- where the parts' words lie -/
theorem sc_sl {k : Nat → Int32} {m : Nat} : ∀ {i : Nat}, 2 * m ≤ pp_sl k m i
  | 0 => Nat.le_refl _
  | i + 1 => by
    have := sc_sl (k := k) (m := m) (i := i)
    show 2 * m ≤ pp_sl k m i + _
    omega
theorem sc_sl_m {k : Nat → Int32} {m : Nat} {i : Nat} : ∀ d, pp_sl k m i ≤ pp_sl k m (i + d)
  | 0 => Nat.le_refl _
  | d + 1 => by
    have := sc_sl_m (k := k) (m := m) (i := i) d
    show pp_sl k m i ≤ pp_sl k m (i + d) + _
    omega
theorem sc_sl_1 {k : Nat → Int32} {m i j : Nat} (h : i < j) (hk : k i = Int32.ofInt 1) : pp_sl k m i + 24 ≤ pp_sl k m j := by
  have h1 : pp_sl k m (i + 1) = pp_sl k m i + 24 := by
    show pp_sl k m i + (if k i = Int32.ofInt 1 then 24 else 0) = _
    rw [if_pos hk]
  have h2 := sc_sl_m (k := k) (m := m) (i := i + 1) (j - (i + 1))
  rw [show i + 1 + (j - (i + 1)) = j by omega] at h2
  omega
/-- a part's step is done -/
theorem sc_fin {P : pd_P} {v : Nat → Nat} {k : Nat → Int32} {B b n p : Nat} {L L1 : Nat → Nat → Int64} (ho : sc_ok P) (hn : n < 24) (hp : p < pd_m P) (h : sc_M P v k B b n p L)
    (h1 : ∀ q u, q < pd_m P → u < 64 → (sc_W L1 B b q u ↔ sc_W L B b q u ∨ (sc_T P p q ∧ sc_add P v (sc_W L B b) p n u)))
    (h2 : ∀ s, s < pd_m P → ¬ s = p → L1 B (b + pd_m P + s) = L B (b + pd_m P + s))
    (h3 : ∀ s j, s < pd_m P → ¬ s = p → pd_k P s = 1 → j < 24 → L1 B (b + pp_sl k (pd_m P) s + j) = L B (b + pp_sl k (pd_m P) s + j))
    (h4 : sc_X P v (sc_W L B b) p (n + 1) (L1 B (b + pd_m P + p)) (fun j => L1 B (b + pp_sl k (pd_m P) p + j))) : sc_M P v k B b n (p + 1) L1 := by
  obtain ⟨hJ, hX⟩ := h
  have hT : ∀ q, sc_T P p q → p < q := fun q z => (ho.1 p q hp z).1
  refine ⟨sc_part ho (by omega) hJ hp h1, fun s hs => ?_⟩
  by_cases c : s = p
  · subst c
    rw [if_pos (by omega)]
    refine sc_X_c h4 (fun i hi => ?_) (fun _ _ _ => rfl)
    rw [h1 s i hs (by omega)]
    exact ⟨Or.inl, fun z => z.elim id (fun y => by have := hT s y.1; omega)⟩
  · have g := hX s hs
    rw [h2 s hs c]
    by_cases c2 : s < p
    · rw [if_pos c2] at g
      rw [if_pos (by omega)]
      refine sc_X_c g (fun i hi => ?_) (fun hk j hj => h3 s j hs c hk (by omega))
      rw [h1 s i hs (by omega)]
      exact ⟨Or.inl, fun z => z.elim id (fun y => by have := hT s y.1; omega)⟩
    · rw [if_neg c2] at g
      rw [if_neg (by omega)]
      refine sc_X_c g (fun i hi => ?_) (fun hk j hj => h3 s j hs c hk (by omega))
      rw [h1 s i hs (by omega)]
      exact ⟨Or.inl, fun z => z.elim id (fun y => by have := sc_add_le y.2; omega)⟩
