/-! ===== the class: a cycle is tried ===== -/
theorem hu_slm (k : Nat → Int32) (m i : Nat) : ∀ d, pp_sl k m i ≤ pp_sl k m (i + d)
  | 0 => Nat.le_refl _
  | d + 1 => Nat.le_trans (hu_slm k m i d) (Nat.le_add_right _ _)
theorem hu_sl {k : Nat → Int32} {m s : Nat} (h1 : k s = Int32.ofInt 1) (hs : s < m) : pp_sl k m s + 24 ≤ pp_sl k m m := by
  have e : pp_sl k m (s + 1) = pp_sl k m s + 24 := by
    show pp_sl k m s + (if k s = Int32.ofInt 1 then 24 else 0) = _
    rw [if_pos h1]
  have h := hu_slm k m (s + 1) (m - (s + 1))
  rw [show s + 1 + (m - (s + 1)) = m by omega] at h
  omega
theorem hu_sl0 (k : Nat → Int32) (m : Nat) : 2 * m ≤ pp_sl k m m := by
  have h := hu_slm k m 0 m
  rw [Nat.zero_add] at h
  exact h
/-- rows that were copied -/
theorem hu_M_c {P : pd_P} {v : Nat → Nat} {k : Nat → Int32} {B b B2 b2 n : Nat} {L L1 : Nat → Nat → Int64} (h : ∀ j, j < pp_sl k (pd_m P) (pd_m P) → L1 B2 (b2 + j) = L B (b + j)) (hk : ∀ s, s < pd_m P → pd_k P s = 1 → k s = Int32.ofInt 1) (hn : n ≤ 24) (g : sc_M P v k B b n 0 L) : sc_M P v k B2 b2 n 0 L1 := by
  have h0 := hu_sl0 k (pd_m P)
  have eW : ∀ q, q < pd_m P → ∀ u, (sc_W L1 B2 b2 q u ↔ sc_W L B b q u) := fun q hq u => by
    unfold sc_W
    rw [h q (by omega)]
  obtain ⟨gJ, gX⟩ := g
  refine ⟨fun q hq u hu => ?_, fun s hs => ?_⟩
  · rw [eW q hq u, gJ q hq u hu]
    refine or_congr Iff.rfl (exists_congr fun s => and_congr_right fun hs => and_congr_right fun _ => ?_)
    exact ⟨sc_c_c (fun i _ => (eW s hs i).symm), sc_c_c (fun i _ => eW s hs i)⟩
  · have gs := gX s hs
    rw [if_neg (Nat.not_lt_zero _)] at gs ⊢
    have e := h (pd_m P + s) (by omega)
    rw [← Nat.add_assoc, ← Nat.add_assoc] at e
    rw [e]
    refine sc_X_c gs (fun i _ => (eW s hs i).symm) (fun hk1 j hj => ?_)
    have hs24 := hu_sl (hk s hs hk1) hs
    have e2 := h (pp_sl k (pd_m P) s + j) (by omega)
    rw [← Nat.add_assoc, ← Nat.add_assoc] at e2
    exact e2
def hu_e (C : Nat) (P : pd_P) (I : Nat → Nat → Int32) : Nat := pp_sl (I (C + 1)) (pd_m P) (pd_m P)
theorem sc_E_b {T : wv_T} {I : Nat → Nat → Int32} {L : Nat → Nat → Int64} {R : Nat → Nat → Option Nat} {C : Nat} {P : pd_P} {S : rn_N} {sq : List Nat} {B len b b2 : Nat} (h : sc_E T I L R C P S sq B b len) (hb : b2 + hu_e C P I ≤ len) : sc_E T I L R C P S sq B b2 len := by
  obtain ⟨h1, h2, h3, h4, ⟨h5, h6, h7, h8⟩, h9, h10⟩ := h
  exact ⟨h1, h2, h3, h4, ⟨h5, hb, h7, h8⟩, h9, h10⟩
/-- what stands while the hunt goes on -/
def hu_Z (H B len C : Nat) (C1 : Nat) (P1 : pd_P) (S1 : rn_N) (sq1 : List Nat) (C2 : Nat) (P2 : pd_P) (S2 : rn_N) (sq2 : List Nat) (a b g : Nat) (nx : Nat → Nat) (fi : Nat → Bool) (sg on tw : Nat → Nat) (T : wv_T) (I : Nat → Nat → Int32) (L : Nat → Nat → Int64) (R : Nat → Nat → Option Nat) : Prop := (wh_H T R H ∧ R H 7 = some B ∧ H + 8 < 460) ∧ (sc_E T I L R C1 P1 S1 sq1 B 0 len ∧ sc_E T I L R C2 P2 S2 sq2 B 0 len) ∧ (wd_D T R C ∧ C + 6 < 460 ∧ dz_V a b g nx fi sg on tw ∧ tw_N C a b g nx fi sg on tw I ∧ I (C + 6) 0 = 0 ∧ hu_C H a b g nx fi sg on tw I) ∧ (H + 7 < C ∨ C + 6 < H) ∧ ((C1 + 75 < C ∨ C + 6 < C1) ∧ (C1 + 75 < H ∨ H + 7 < C1)) ∧ (C2 + 75 < C ∨ C + 6 < C2) ∧ (C2 + 75 < H ∨ H + 7 < C2)
theorem hu_Z_I {H B len C C1 C2 : Nat} {P1 P2 : pd_P} {S1 S2 : rn_N} {sq1 sq2 : List Nat} {a b g : Nat} {nx : Nat → Nat} {fi : Nat → Bool} {sg on tw : Nat → Nat} {T : wv_T} {I J : Nat → Nat → Int32} {L : Nat → Nat → Int64} {R : Nat → Nat → Option Nat} (h : hu_Z H B len C C1 P1 S1 sq1 C2 P2 S2 sq2 a b g nx fi sg on tw T I L R) (f : ∀ c j, ¬ (H + 1 ≤ c ∧ c ≤ H + 7) → ¬ (c = H ∧ j = 8) → ¬ c = C + 6 → J c j = I c j) (h0 : J (C + 6) 0 = 0) (hC : hu_C H a b g nx fi sg on tw J) : hu_Z H B len C C1 P1 S1 sq1 C2 P2 S2 sq2 a b g nx fi sg on tw T J L R := by
  obtain ⟨h1, ⟨h2, h3⟩, ⟨h4, h5, h6, h7, h8, h9⟩, h10, h11, h12⟩ := h
  refine ⟨h1, ⟨sc_E_I h2 (fun c j c1 c2 => f c j (by omega) (by omega) (by omega)), sc_E_I h3 (fun c j c1 c2 => f c j (by omega) (by omega) (by omega))⟩, ⟨h4, h5, h6, ?_, h0, hC⟩, h10, h11, h12⟩
  obtain ⟨n1, n2, n3, n4, n5, n6⟩ := h7
  exact ⟨(f _ _ (by omega) (by omega) (by omega)).trans n1, (f _ _ (by omega) (by omega) (by omega)).trans n2, (f _ _ (by omega) (by omega) (by omega)).trans n3, fun i hi => ⟨(f _ _ (by omega) (by omega) (by omega)).trans (n4 i hi).1, (f _ _ (by omega) (by omega) (by omega)).trans (n4 i hi).2⟩, fun i hi => (f _ _ (by omega) (by omega) (by omega)).trans (n5 i hi), fun i hi => ⟨(f _ _ (by omega) (by omega) (by omega)).trans (n6 i hi).1, (f _ _ (by omega) (by omega) (by omega)).trans (n6 i hi).2⟩⟩
theorem hu_Z_L {H B len C C1 C2 : Nat} {P1 P2 : pd_P} {S1 S2 : rn_N} {sq1 sq2 : List Nat} {a b g : Nat} {nx : Nat → Nat} {fi : Nat → Bool} {sg on tw : Nat → Nat} {T : wv_T} {I : Nat → Nat → Int32} {L L1 : Nat → Nat → Int64} {R : Nat → Nat → Option Nat} (h : hu_Z H B len C C1 P1 S1 sq1 C2 P2 S2 sq2 a b g nx fi sg on tw T I L R) (f : ∀ c j, ¬ c = B → L1 c j = L c j) : hu_Z H B len C C1 P1 S1 sq1 C2 P2 S2 sq2 a b g nx fi sg on tw T I L1 R := ⟨h.1, ⟨sc_E_L h.2.1.1 f, sc_E_L h.2.1.2 f⟩, h.2.2⟩
/-- the rows of depth d -/
def hu_r (B : Nat) (C1 : Nat) (P1 : pd_P) (S1 : rn_N) (sq1 : List Nat) (C2 : Nat) (P2 : pd_P) (S2 : rn_N) (sq2 : List Nat) (v : Nat → Nat) (I : Nat → Nat → Int32) (L : Nat → Nat → Int64) (d : Nat) : Prop := sc_M P1 v (I (C1 + 1)) B (d * (hu_e C1 P1 I + hu_e C2 P2 I)) d 0 L ∧ sc_M P2 v (I (C2 + 1)) B (d * (hu_e C1 P1 I + hu_e C2 P2 I) + hu_e C1 P1 I) d 0 L
theorem hu_e_c {C : Nat} {P : pd_P} {I J : Nat → Nat → Int32} (h : ∀ j, J (C + 1) j = I (C + 1) j) : hu_e C P J = hu_e C P I := by
  unfold hu_e
  rw [show J (C + 1) = I (C + 1) from funext h]
theorem hu_r_I {B C1 C2 d : Nat} {P1 P2 : pd_P} {S1 S2 : rn_N} {sq1 sq2 : List Nat} {v : Nat → Nat} {I J : Nat → Nat → Int32} {L : Nat → Nat → Int64} (h : hu_r B C1 P1 S1 sq1 C2 P2 S2 sq2 v I L d) (f1 : ∀ j, J (C1 + 1) j = I (C1 + 1) j) (f2 : ∀ j, J (C2 + 1) j = I (C2 + 1) j) : hu_r B C1 P1 S1 sq1 C2 P2 S2 sq2 v J L d := by
  unfold hu_r at h ⊢
  rw [hu_e_c f1, hu_e_c f2, show J (C1 + 1) = I (C1 + 1) from funext f1, show J (C2 + 1) = I (C2 + 1) from funext f2]
  exact h
theorem hu_kd {T : wv_T} {I : Nat → Nat → Int32} {L : Nat → Nat → Int64} {R : Nat → Nat → Option Nat} {C : Nat} {P : pd_P} {S : rn_N} {sq : List Nat} {B b len : Nat} (h : sc_E T I L R C P S sq B b len) : ∀ s, s < pd_m P → pd_k P s = 1 → I (C + 1) s = Int32.ofInt 1 := fun s hs hk => by
  have := (h.2.1.2.2.2 s hs).1
  rw [hk] at this
  exact this
theorem hu_e10 {T : wv_T} {I : Nat → Nat → Int32} {L : Nat → Nat → Int64} {R : Nat → Nat → Option Nat} {C : Nat} {P : pd_P} {S : rn_N} {sq : List Nat} {B b len : Nat} (h : sc_E T I L R C P S sq B b len) : I C 10 = Int32.ofNat (hu_e C P I) ∧ hu_e C P I ≤ len ∧ len < 100000 ∧ T C = some (.inl 7) ∧ T B = some (.inr (1, len)) ∧ B < 1099511627776 := ⟨h.2.2.2.1.2, by have := h.2.2.2.2.1.2.1; unfold hu_e; omega, h.2.2.2.2.1.2.2.1, h.1.1.1, h.2.2.2.2.1.1, h.2.2.2.2.1.2.2.2⟩
theorem hu_y_m {a b g : Nat} {nx : Nat → Nat} {fi : Nat → Bool} {sg on tw : Nat → Nat} {s x : Nat} : hu_y a b g nx fi sg on tw s x % 64 = dz_let a b g nx fi sg on tw s x ∧ hu_y a b g nx fi sg on tw s x / 64 = dz_nx a b g nx fi sg on tw s x := by
  have h1 : dz_let a b g nx fi sg on tw s x < 64 := dz_B_lt _ 6
  unfold hu_y
  omega
/-- rows of lesser depths stay -/
theorem hu_r_L {T : wv_T} {R : Nat → Nat → Option Nat} {B C1 C2 d e len : Nat} {P1 P2 : pd_P} {S1 S2 : rn_N} {sq1 sq2 : List Nat} {v v2 : Nat → Nat} {I : Nat → Nat → Int32} {L L1 : Nat → Nat → Int64} (h : hu_r B C1 P1 S1 sq1 C2 P2 S2 sq2 v I L d) (z1 : sc_E T I L R C1 P1 S1 sq1 B 0 len) (z2 : sc_E T I L R C2 P2 S2 sq2 B 0 len) (hd : d ≤ 24) (hv : ∀ j, j < d → v j = v2 j) (hde : d < e) (f : ∀ j, j < e * (hu_e C1 P1 I + hu_e C2 P2 I) → L1 B j = L B j) : hu_r B C1 P1 S1 sq1 C2 P2 S2 sq2 v2 I L1 d := by
  have hm : d * (hu_e C1 P1 I + hu_e C2 P2 I) + (hu_e C1 P1 I + hu_e C2 P2 I) ≤ e * (hu_e C1 P1 I + hu_e C2 P2 I) := by
    have := Nat.mul_le_mul_right (hu_e C1 P1 I + hu_e C2 P2 I) (show d + 1 ≤ e by omega)
    rw [Nat.succ_mul] at this
    exact this
  obtain ⟨a1, a2⟩ := h
  refine ⟨sc_M_v hv (hu_M_c (fun j hj => f _ ?_) (hu_kd z1) hd a1), sc_M_v hv (hu_M_c (fun j hj => f _ ?_) (hu_kd z2) hd a2)⟩
  · have : j < hu_e C1 P1 I := hj
    omega
  · have : j < hu_e C2 P2 I := hj
    omega
def hu_o (f1 f2 : Bool) : Nat := if f1 = true ∧ f2 = true then 2 else if f1 = true ∨ f2 = true then 1 else 0
def hu_l26 (H C1 C2 C t wd : Nat) (l7 l8 l9 : Option Value) : List (Option Value) := [some (.ref H), some (.ref C1), some (.ref C2), some (.ref C), some (.int (Int32.ofNat t)), some (.int (Int32.ofNat wd)), some (.int (Int32.ofNat ((t + 1) * wd))), l7, l8, l9, none, none, none, none, none]
def hu_h326 (H B len C t : Nat) (c : Nat → Nat) (C1 : Nat) (P1 : pd_P) (S1 : rn_N) (sq1 : List Nat) (C2 : Nat) (P2 : pd_P) (S2 : rn_N) (sq2 : List Nat) (a b g : Nat) (nx : Nat → Nat) (fi : Nat → Bool) (sg on tw : Nat → Nat) (T : wv_T) (N : Nat) (I : Nat → Nat → Int32) (L : Nat → Nat → Int64) (R : Nat → Nat → Option Nat) : Nat → Option (Nat → wv_P) := fun pc =>
  if pc = 40 then some (fun mm lv st T1 N1 I1 L1 R1 nc ns => lv = hu_l26 H C1 C2 C t (hu_e C1 P1 I + hu_e C2 P2 I) none none none ∧ st = [] ∧ T1 = T ∧ N1 = N ∧ I1 = I ∧ R1 = R ∧ nc = 0 ∧ ns = 0 ∧ L1 = wv_cp L B (t * (hu_e C1 P1 I + hu_e C2 P2 I)) B ((t + 1) * (hu_e C1 P1 I + hu_e C2 P2 I)) (hu_e C1 P1 I + hu_e C2 P2 I) ∧ mm = 9)
  else if pc = 87 then some (fun mm lv st T1 N1 I1 L1 R1 nc ns => ∃ l7, lv = hu_l26 H C1 C2 C t (hu_e C1 P1 I + hu_e C2 P2 I) (some (.int l7)) none none ∧ st = [] ∧ T1 = T ∧ N1 = N ∧ R1 = R ∧ nc = 0 ∧ ns = 0 ∧ L1 = wv_cp L B (t * (hu_e C1 P1 I + hu_e C2 P2 I)) B ((t + 1) * (hu_e C1 P1 I + hu_e C2 P2 I)) (hu_e C1 P1 I + hu_e C2 P2 I) ∧ hu_Z H B len C C1 P1 S1 sq1 C2 P2 S2 sq2 a b g nx fi sg on tw T I1 L R ∧ (∀ d j, ¬ d = H + 7 → ¬ d = C + 6 → ¬ (d = H + 3 ∧ j = t) → ¬ (d = H + 2 ∧ j = t + 1) → I1 d j = I d j) ∧ I1 (H + 3) t = Int32.ofNat (dz_w a b g nx fi sg on tw c t) ∧ I1 (H + 2) (t + 1) = Int32.ofNat (dz_r a b g nx fi sg on tw c (t + 1)) ∧ mm = 8)
  else none
theorem hu_f_c {P : pd_P} {v : Nat → Nat} {W V : Nat → Nat → Prop} {n s : Nat} (h : ∀ u, W s u ↔ V s u) : sc_f P v W n s ↔ sc_f P v V n s := by
  have e : W s = V s := funext fun u => propext (h u)
  unfold sc_f
  simp only [e]
def hu_c326 : wv_c1 := fun as T N I L R q => ∃ (H B len C t : Nat) (c : Nat → Nat) (C1 : Nat) (P1 : pd_P) (S1 : rn_N) (sq1 : List Nat) (C2 : Nat) (P2 : pd_P) (S2 : rn_N) (sq2 : List Nat) (a b g : Nat) (nx : Nat → Nat) (fi : Nat → Bool) (sg on tw : Nat → Nat), as = [.ref H, .ref C1, .ref C2, .ref C, .int (Int32.ofNat t)] ∧ hu_Z H B len C C1 P1 S1 sq1 C2 P2 S2 sq2 a b g nx fi sg on tw T I L R ∧ t < 12 ∧ (t + 2) * (hu_e C1 P1 I + hu_e C2 P2 I) ≤ len ∧ I (H + 1) t = Int32.ofNat (c t) ∧ c t < 8 ∧ I (H + 2) t = Int32.ofNat (dz_r a b g nx fi sg on tw c t) ∧ hu_r B C1 P1 S1 sq1 C2 P2 S2 sq2 (dz_w a b g nx fi sg on tw c) I L t ∧ (∀ I1 L1 f1 f2, hu_Z H B len C C1 P1 S1 sq1 C2 P2 S2 sq2 a b g nx fi sg on tw T I1 L1 R → (∀ d j, ¬ d = H + 7 → ¬ d = C + 6 → ¬ (d = H + 3 ∧ j = t) → ¬ (d = H + 2 ∧ j = t + 1) → I1 d j = I d j) → I1 (H + 3) t = Int32.ofNat (dz_w a b g nx fi sg on tw c t) → I1 (H + 2) (t + 1) = Int32.ofNat (dz_r a b g nx fi sg on tw c (t + 1)) → (∀ d j, ¬ d = B → L1 d j = L d j) → (∀ j, j < (t + 1) * (hu_e C1 P1 I + hu_e C2 P2 I) → L1 B j = L B j) → hu_r B C1 P1 S1 sq1 C2 P2 S2 sq2 (dz_w a b g nx fi sg on tw c) I L1 (t + 1) → (f1 = true ↔ ∃ s, s < pd_m P1 ∧ sc_f P1 (dz_w a b g nx fi sg on tw c) (sc_W L1 B ((t + 1) * (hu_e C1 P1 I + hu_e C2 P2 I))) t s) → (f2 = true ↔ ∃ s, s < pd_m P2 ∧ sc_f P2 (dz_w a b g nx fi sg on tw c) (sc_W L1 B ((t + 1) * (hu_e C1 P1 I + hu_e C2 P2 I) + hu_e C1 P1 I)) t s) → q (.inl (some (.int (Int32.ofNat (hu_o f1 f2))))) T N I1 L1 R 0 0)
set_option maxRecDepth 100000 in
theorem wM_326 : ∃ cb ci np, pt_mt 326 = some (16, cb, 10, false, some .int, ci, np) := ⟨_, _, _, rfl⟩
set_option maxRecDepth 100000 in
set_option maxHeartbeats 4000000 in
theorem hu_tryCycle {sc : pt_Sc} {d : Nat} : wv_C wm_fx sc (d + 1 + 1 + 1 + 1 + 1) 326 hu_c326 := by
  rintro as T N I L R q ⟨H, B, len, C, t, c, C1, P1, S1, sq1, C2, P2, S2, sq2, a, b, g, nx, fi, sg, on, tw, rfl, hZ, ht, hl, hx, hx8, hs, hr, hok⟩ w0 HR
  obtain ⟨cb, ci, np, hm⟩ := wM_326
  have hc325 : wv_C wm_fx sc (d + 1 + 1 + 1 + 1) 325 hu_c325 := wv_C_deep (by omega) (hu_rowSize (d := d))
  have hc327 : wv_C wm_fx sc (d + 1 + 1 + 1 + 1) 327 hu_c327 := wv_C_deep (by omega) (hu_cycleOf (d := d))
  have hc176 : wv_C wm_fx sc (d + 1 + 1 + 1 + 1) 176 sc_c176 := wv_C_deep (by omega) (sc_stepM (d := d))
  refine wv_meth (hh := none) rfl (sp := wv_sp [(325, hu_c325), (327, hu_c327), (176, sc_c176)]) (hd := hu_h326 H B len C t c C1 P1 S1 sq1 C2 P2 S2 sq2 a b g nx fi sg on tw T N I L R) (n := 300) (n1 := 300) hm zc_326 rfl (wv_sp_ok (fun q hq => by
    rcases List.mem_cons.mp hq with h | h
    · rw [h]; exact hc325
    rcases List.mem_cons.mp h with h | h
    · rw [h]; exact hc327
    rw [List.mem_singleton.mp h]; exact hc176)) ?_ ?_ HR
  · obtain ⟨⟨hH, hR7, hH4⟩, ⟨z1, z2⟩, ⟨hD, hC4, hV, hM, h0, hC⟩, s1, s2, s3⟩ := id hZ
    obtain ⟨e10, ele, hlen, tC1, tB, hB⟩ := hu_e10 z1
    obtain ⟨f10, fle, _, tC2, _, _⟩ := hu_e10 z2
    obtain ⟨wd, hwd⟩ : ∃ wd, hu_e C1 P1 I + hu_e C2 P2 I = wd := ⟨_, rfl⟩
    have hmul : (t + 1) * wd = t * wd + wd := Nat.succ_mul t wd
    have hmul2 : (t + 2) * wd = (t + 1) * wd + wd := Nat.succ_mul (t + 1) wd
    rw [hwd] at hl hok
    have hwr : (t + 2) * wd ≤ len := hl
    have ewd : I C1 10 + I C2 10 = Int32.ofNat wd := by
      rw [e10, f10, wi_ona, hwd]
    have ebs : (Int32.ofNat t + Int32.ofInt 1) * Int32.ofNat wd = Int32.ofNat ((t + 1) * wd) := by
      rw [wq_4s, Int32.ofNat_mul]
    have esu : Int32.ofNat ((t + 1) * wd) - Int32.ofNat wd = Int32.ofNat (t * wd) := by
      rw [mr_sub (by omega) (by omega), show (t + 1) * wd - wd = t * wd by omega]
    refine ⟨tC1, C1, rfl, tC1, ?_⟩
    refine ⟨tC2, C2, rfl, tC2, ?_⟩
    have b1 := wi_on (n := (t + 1) * wd) (by omega)
    have b2 := wi_on (n := t * wd) (by omega)
    have b3 := wi_on (n := wd) (by omega)
    refine ⟨hH.1, B, hR7, hH.1, B, hR7, ?_⟩
    rw [ewd, ebs, esu]
    refine ⟨1, len, len, ⟨tB, tB⟩, ⟨by decide, Or.inl hB, hB⟩, ⟨?_, ?_, ?_⟩, ⟨?_, ?_⟩, Or.inl (by decide), ?_⟩
    · rw [wi_le, b2, wi_0]
      omega
    · rw [wi_le, b1, wi_0]
      omega
    · rw [wi_le, b3, wi_0]
      omega
    · rw [b2, b3]
      omega
    · rw [b1, b3]
      omega
    rw [if_pos rfl, wi_onn (n := t * wd) (by omega), wi_onn (n := (t + 1) * wd) (by omega), wi_onn (n := wd) (by omega)]
    exact ⟨9, by rw [hwd]; rfl, rfl, rfl, rfl, rfl, rfl, rfl, rfl, by rw [hwd], rfl⟩
  · intro pc P hP m lv st T1 N1 I1 L1 R1 nc ns hh
    obtain ⟨⟨hH, hR7, hH4⟩, ⟨z1, z2⟩, ⟨hD, hC4, hV, hM, h0, hC⟩, s1, s2, s3⟩ := id hZ
    obtain ⟨e10, ele, hlen, tC1, tB, hB⟩ := hu_e10 z1
    obtain ⟨f10, fle, _, tC2, _, _⟩ := hu_e10 z2
    obtain ⟨wd, hwd⟩ : ∃ wd, hu_e C1 P1 I + hu_e C2 P2 I = wd := ⟨_, rfl⟩
    have hmul : (t + 1) * wd = t * wd + wd := Nat.succ_mul t wd
    have hmul2 : (t + 2) * wd = (t + 1) * wd + wd := Nat.succ_mul (t + 1) wd
    rw [hwd] at hl hok
    have hwr : (t + 2) * wd ≤ len := hl
    have etn := wi_onn (n := t) (by omega)
    unfold hu_h326 at hP
    rw [hwd] at hP
    by_cases p40 : pc = 40
    · rw [if_pos p40] at hP
      cases hP
      subst p40
      obtain ⟨rfl, rfl, rfl, rfl, rfl, rfl, rfl, rfl, rfl, rfl⟩ := hh
      have hs32 := dz_r_lt (a := a) (g := g) (nx := nx) (fi := fi) (sg := sg) (on := on) (tw := tw) (u := c) hV.2.2.1 t
      have hy := hu_y_lt (a := a) (g := g) (nx := nx) (fi := fi) (sg := sg) (on := on) (tw := tw) (s := dz_r a b g nx fi sg on tw c t) (x := c t) hV.2.2.1
      obtain ⟨m1, m2⟩ := hu_y_m (a := a) (b := b) (g := g) (nx := nx) (fi := fi) (sg := sg) (on := on) (tw := tw) (s := dz_r a b g nx fi sg on tw c t) (x := c t)
      obtain ⟨g1, g2, _⟩ := ce_A (C := hu_y a b g nx fi sg on tw (dz_r a b g nx fi sg on tw c t) (c t)) (by omega)
      rw [m1] at g1
      rw [m2] at g2
      have a2 : H + 2 < 1099511627776 := by omega
      have a3 : H + 3 < 1099511627776 := by omega
      refine ⟨hH.1, H + 2, hH.2.1 1 (by omega), _, hH.2.2.2.1, pp_b (c := 13) (by omega) (by omega), ?_⟩
      refine ⟨hH.1, H + 1, hH.2.1 0 (by omega), _, hH.2.2.1, pp_b (c := 13) (by omega) (by omega), ?_⟩
      refine ⟨hH.1, H, C, dz_r a b g nx fi sg on tw c t, c t, a, b, g, nx, fi, sg, on, tw, (by first | rfl | exact (by rw [etn, hs, hx]; rfl)), hH, by omega, hD, by omega, s1, hV, hM, h0, hC, hs32, hx8, fun I2 f2 c2 z2' => ?_⟩
      refine ⟨hH.1, H + 3, hH.2.1 2 (by omega), _, hH.2.2.2.2.1, pp_b (c := 13) (by omega) (by omega), a3, ?_⟩
      rw [g1, etn]
      refine ⟨hH.1, H + 2, hH.2.1 1 (by omega), _, hH.2.2.2.1, ?_, a2, ?_⟩
      · rw [wq_4s]
        exact pp_b (c := 13) (by omega) (by omega)
      rw [g2, wq_4s, wi_onn (n := t + 1) (by omega)]
      have f2 : ∀ e j, ¬ e = H + 7 → ¬ e = C + 6 → I2 e j = I1 e j := f2
      refine ⟨8, by omega, Int32.ofNat (hu_y a b g nx fi sg on tw (dz_r a b g nx fi sg on tw c t) (c t)), (by rw [hwd]; rfl), rfl, rfl, rfl, rfl, rfl, rfl, (by rw [hwd]), hu_Z_I hZ (fun d j d1 d2 d3 => ?_) ?_ (fun s x hs hx => ?_), fun d j d1 d2 d3 d4 => ?_, ?_, ?_, rfl⟩
      · rw [wv_u_no _ _ (by omega), wv_u_no _ _ (by omega)]
        exact f2 d j (by omega) d3
      · rw [wv_u_no _ _ (by omega), wv_u_no _ _ (by omega)]
        exact z2'
      · rw [wv_u_no _ _ (by omega), wv_u_no _ _ (by omega)]
        exact c2 s x hs hx
      · rw [wv_u_no _ _ d4, wv_u_no _ _ d3]
        exact f2 d j d1 d2
      · rw [wv_u_no _ _ (by omega), wv_u_at]
        rfl
      · rw [wv_u_at]
        rfl
    rw [if_neg p40] at hP
    by_cases p87 : pc = 87
    · rw [if_pos p87] at hP
      cases hP
      subst p87
      obtain ⟨l7, rfl, rfl, rfl, rfl, rfl, rfl, rfl, rfl, hZ1, hf, h3, h2, rfl⟩ := hh
      obtain ⟨_, ⟨y1, y2⟩, _⟩ := id hZ1
      have k1 : ∀ j, I1 (C1 + 1) j = I (C1 + 1) j := fun j => hf _ _ (by omega) (by omega) (by omega) (by omega)
      have k2 : ∀ j, I1 (C2 + 1) j = I (C2 + 1) j := fun j => hf _ _ (by omega) (by omega) (by omega) (by omega)
      have q1 : hu_e C1 P1 I1 = hu_e C1 P1 I := hu_e_c k1
      have q2 : hu_e C2 P2 I1 = hu_e C2 P2 I := hu_e_c k2
      obtain ⟨M, hM'⟩ : ∃ M, M = wv_cp L B (t * wd) B ((t + 1) * wd) wd := ⟨_, rfl⟩
      rw [← hM']
      have Mo : ∀ d j, ¬ d = B → M d j = L d j := fun d j hd => by
        rw [hM']
        exact if_neg (fun y => hd y.1)
      have Ml : ∀ j, j < (t + 1) * wd → M B j = L B j := fun j hj => by
        rw [hM']
        exact if_neg (by omega)
      have Mc : ∀ j, j < wd → M B ((t + 1) * wd + j) = L B (t * wd + j) := fun j hj => by
        rw [hM']
        show (if B = B ∧ (t + 1) * wd ≤ (t + 1) * wd + j ∧ (t + 1) * wd + j < (t + 1) * wd + wd then L B (t * wd + ((t + 1) * wd + j - (t + 1) * wd)) else _) = _
        rw [if_pos ⟨rfl, by omega, by omega⟩, show (t + 1) * wd + j - (t + 1) * wd = j by omega]
      have hr2 := hr
      unfold hu_r at hr2
      rw [hwd] at hr2
      obtain ⟨r1, r2⟩ := hr2
      have n1 : sc_M P1 (dz_w a b g nx fi sg on tw c) (I (C1 + 1)) B ((t + 1) * wd) t 0 M := hu_M_c (fun j hj => Mc j (by have : j < hu_e C1 P1 I := hj; omega)) (hu_kd z1) (by omega) r1
      have n2 : sc_M P2 (dz_w a b g nx fi sg on tw c) (I (C2 + 1)) B ((t + 1) * wd + hu_e C1 P1 I) t 0 M := hu_M_c (fun j hj => by
        have : j < hu_e C2 P2 I := hj
        rw [Nat.add_assoc, Nat.add_assoc]
        exact Mc _ (by omega)) (hu_kd z2) (by omega) r2
      rw [← show I1 (C1 + 1) = I (C1 + 1) from funext k1] at n1
      rw [← show I1 (C2 + 1) = I (C2 + 1) from funext k2] at n2
      have E1 : sc_E T1 I1 M R1 C1 P1 S1 sq1 B ((t + 1) * wd) len := sc_E_b (sc_E_L y1 Mo) (by omega)
      have lv64 : dz_w a b g nx fi sg on tw c t < 64 := dz_w_lt
      refine ⟨hH.1, B, hR7, hH.1, H + 3, hH.2.1 2 (by omega), _, hH.2.2.2.2.1, pp_b (c := 13) (by omega) (by omega), ?_⟩
      rw [etn, h3]
      refine ⟨tC1, C1, P1, S1, sq1, B, (t + 1) * wd, len, t, dz_w a b g nx fi sg on tw c t, dz_w a b g nx fi sg on tw c, rfl, E1, n1, by omega, rfl, lv64, fun L2 f1 x1 x2 x3 => ?_⟩
      have x3 : ∀ d j, ¬ (d = B ∧ (t + 1) * wd ≤ j ∧ j < (t + 1) * wd + hu_e C1 P1 I1) → L2 d j = M d j := x3
      rw [q1] at x3
      have n3 : sc_M P2 (dz_w a b g nx fi sg on tw c) (I1 (C2 + 1)) B ((t + 1) * wd + hu_e C1 P1 I) t 0 L2 := hu_M_c (fun j hj => x3 _ _ (by omega)) (hu_kd y2) (by omega) n2
      have E2 : sc_E T1 I1 L2 R1 C2 P2 S2 sq2 B ((t + 1) * wd + hu_e C1 P1 I) len := sc_E_b (sc_E_L y2 (fun d j hd => (x3 d j (fun y => hd y.1)).trans (Mo d j hd))) (by omega)
      refine ⟨hH.1, B, hR7, tC1, C1, rfl, tC1, ?_⟩
      refine ⟨hH.1, H + 3, hH.2.1 2 (by omega), _, hH.2.2.2.2.1, pp_b (c := 13) (by omega) (by omega), ?_⟩
      rw [etn, h3]
      have ea : Int32.ofNat ((t + 1) * wd) + I1 C1 10 = Int32.ofNat ((t + 1) * wd + hu_e C1 P1 I) := by
        rw [hf _ _ (by omega) (by omega) (by omega) (by omega), e10, wi_ona]
      refine ⟨tC2, C2, P2, S2, sq2, B, (t + 1) * wd + hu_e C1 P1 I, len, t, dz_w a b g nx fi sg on tw c t, dz_w a b g nx fi sg on tw c, (by first | rfl | exact (by rw [ea]; rfl)), E2, n3, by omega, rfl, lv64, fun L3 f2 w1 w2 w3 => ?_⟩
      have w3 : ∀ d j, ¬ (d = B ∧ (t + 1) * wd + hu_e C1 P1 I ≤ j ∧ j < (t + 1) * wd + hu_e C1 P1 I + hu_e C2 P2 I1) → L3 d j = L2 d j := w3
      rw [q2] at w3
      have g1 : sc_M P1 (dz_w a b g nx fi sg on tw c) (I1 (C1 + 1)) B ((t + 1) * wd) (t + 1) 0 L3 := hu_M_c (fun j hj => w3 _ _ (by have : j < hu_e C1 P1 I1 := hj; omega)) (hu_kd y1) (by omega) x1
      have eW : ∀ s u, s < pd_m P1 → (sc_W L3 B ((t + 1) * wd) s u ↔ sc_W L2 B ((t + 1) * wd) s u) := fun s u hs => by
        have h0 := hu_sl0 (I1 (C1 + 1)) (pd_m P1)
        have h0 : 2 * pd_m P1 ≤ hu_e C1 P1 I1 := h0
        unfold sc_W
        rw [w3 _ _ (by omega)]
      have hfin := hok I1 L3 f1 f2 (hu_Z_L hZ1 (fun d j hd => (w3 d j (fun y => hd y.1)).trans ((x3 d j (fun y => hd y.1)).trans (Mo d j hd)))) hf h3 h2 (fun d j hd => (w3 d j (fun y => hd y.1)).trans ((x3 d j (fun y => hd y.1)).trans (Mo d j hd))) (fun j hj => (w3 B j (by omega)).trans ((x3 B j (by omega)).trans (Ml j hj))) ?_ (x2.trans ?_) w2
      rotate_left
      · rw [show I1 (C1 + 1) = I (C1 + 1) from funext k1] at g1
        rw [show I1 (C2 + 1) = I (C2 + 1) from funext k2] at w1
        unfold hu_r
        rw [hwd]
        exact ⟨g1, w1⟩
      · exact exists_congr fun s => and_congr_right fun hs => hu_f_c (fun u => (eW s u hs).symm)
      unfold hu_o at hfin
      cases f1 with
      | true =>
        refine ⟨fun w => absurd w (by decide), fun _ => ?_⟩
        cases f2 with
        | true => exact ⟨fun w => absurd w (by decide), fun _ => hfin⟩
        | false => exact ⟨fun _ => ⟨fun _ => hfin, fun w => absurd (by decide) w⟩, fun w => absurd (by decide) w⟩
      | false =>
        refine ⟨fun _ => ⟨fun w => absurd (by decide) w, fun _ => ?_⟩, fun w => absurd (by decide) w⟩
        cases f2 with
        | true => exact ⟨fun w => absurd w (by decide), fun _ => hfin⟩
        | false => exact ⟨fun _ => hfin, fun w => absurd (by decide) w⟩
    rw [if_neg p87] at hP
    cases hP
