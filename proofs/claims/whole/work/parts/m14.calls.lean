/-! ===== the class: classOf, kind ===== -/
def kc_r (E B g : Nat) (A : nt_A) (I : Nat → Nat → Int32) (K : Nat) (mv : Nat → Nat → Nat) (kd : Nat → Nat) : Prop := K ≤ 65 ∧ I E 5 = Int32.ofNat g ∧ g < 64 ∧ I E 8 = Int32.ofNat K ∧ (∀ c, c < K → I (E + 2) c = Int32.ofNat (kd c) ∧ kd c ≤ 3) ∧ (∀ c v, c < K → v < 64 → I B (c * 64 + (v &&& g)) = Int32.ofNat (mv c v)) ∧ df_ok K mv ∧ df_bf K mv ∧ df_min K mv kd ∧ ∀ z, df_w z → kc_z A g z (kd (df_run mv 0 z))
def kc_c216 : wv_c1 := fun as T N I L R q => ∃ (pi ii jj : Int32) (n : Nat) (v : Nat → Nat) (C : Nat → Nat) (A : Nat → nt_A) (w g : Nat → Nat), as = [.ref 0, .int pi, .int ii, .int jj] ∧ wm_T T ∧ kc_I T R C ∧ I 0 16 = Int32.ofNat n ∧ n ≤ 24 ∧ (∀ k, k < n → I 341 k = Int32.ofNat (v k) ∧ v k < 64) ∧ (rw_bp pi → q (.inr 2) T N I L R 1 6) ∧ (¬ rw_bp pi → rw_br (Int32.ofNat n) ii jj → q (.inr 0) T N I L R 1 6) ∧ ∀ p, p < 2 → pi = Int32.ofNat p → ∀ i j, i ≤ j → j ≤ n → ii = Int32.ofNat i → jj = Int32.ofNat j → kc_W q (fun _ T1 N1 I1 L1 R1 nc ns => ∀ B K mv kd, kc_r (C p + 76 + 5 * 0) B (g p) (A p) I1 K mv kd → q (.inl (some (.int (Int32.ofNat (df_run mv 0 (kz v i (j - i))))))) T1 N1 I1 L1 R1 nc ns) (C p) (A p) (w p) (g p) T N I L R
set_option maxRecDepth 100000 in
theorem wM_216 : ∃ cb ci np, pt_mt 216 = some (1, cb, 4, false, some .int, ci, np) := ⟨_, _, _, rfl⟩
set_option maxRecDepth 100000 in
set_option maxHeartbeats 4000000 in
theorem kc_classOf {sc : pt_Sc} {d : Nat} : wv_C wm_fx sc (d + 1 + 1 + 1 + 1 + 1) 216 kc_c216 := by
  rintro as T N I L R q ⟨pi, ii, jj, n, v, C, A, w, g, rfl, hT, ⟨t27, hR⟩, h16, hn, hv, hb, hr, h⟩ w0 HR
  obtain ⟨cb, ci, np, hm⟩ := wM_216
  have hc190 : wv_C wm_fx sc (d + 1 + 1 + 1 + 1) 190 rw_c190 := wv_C_deep (by omega) (rw_checkRow (d := d))
  have hc201 : wv_C wm_fx sc (d + 1 + 1 + 1 + 1) 201 kc_c201 := wv_C_deep (by omega) (kc_checkClasses (d := d))
  have hc203 : wv_C wm_fx sc (d + 1 + 1 + 1 + 1) 203 kc_c203 := wv_C_deep (by omega) (kc_classesOf (d := d))
  have hc217 : wv_C wm_fx sc (d + 1 + 1 + 1 + 1) 217 kc_c217 := wv_C_deep (by omega) (kc_ofRow (d := d))
  refine wv_meth (hh := none) rfl (sp := wv_sp [(190, rw_c190), (201, kc_c201), (203, kc_c203), (217, kc_c217)]) (hd := fun _ => none) (n := 0) (n1 := 300) hm zc_216 rfl (wv_sp_ok (fun q hq => by
    rcases List.mem_cons.mp hq with h | h
    · rw [h]; exact hc190
    rcases List.mem_cons.mp h with h | h
    · rw [h]; exact hc201
    rcases List.mem_cons.mp h with h | h
    · rw [h]; exact hc203
    rw [List.mem_singleton.mp h]; exact hc217)) ?_ (fun pc P h => by cases h) HR
  refine ⟨pi, ii, jj, C, rfl, t27, fun p hp => ⟨(hR p hp).1, (hR p hp).2.1.1⟩, fun z => ⟨Or.inl rfl, hb z⟩, fun z1 z2 => ?_, fun p hp e nr => ?_⟩
  · rw [h16] at z2
    exact ⟨Or.inl rfl, hr z1 z2⟩
  rw [h16] at nr
  obtain ⟨i, j, hij, hjn, ei, ej⟩ := rw_br_n hn nr
  obtain ⟨h1, h2⟩ := h p hp e i j hij hjn ei ej
  obtain ⟨q1, q2, q3⟩ := hR p hp
  refine ⟨fun y => ⟨Or.inl rfl, h1 y⟩, fun y => ?_⟩
  have hbp : ¬ rw_bp pi := by
    rw [e]
    unfold rw_bp
    rw [wi_lt, wi_le, wi_on (by omega), wi_0]
    have e2 : (Int32.ofInt 2).toInt = 2 := rfl
    rw [e2]
    omega
  refine ⟨pi, C, rfl, t27, fun p hp => ⟨(hR p hp).1, (hR p hp).2.1⟩, fun z => (hbp z).elim, fun p2 hp2 e2 => ?_⟩
  have ep : p2 = p := by
    have := wi_eq.mp (e.symm.trans e2)
    rw [wi_on (by omega), wi_on (by omega)] at this
    omega
  subst ep
  obtain ⟨k1, t27⟩ := t27
  refine ⟨fun z => (y z).elim, fun _ => ⟨fun z => ⟨Or.inl rfl, (h2 y).1 z⟩, fun z => ?_⟩⟩
  obtain ⟨u1, u2, u3, u4⟩ := (h2 y).2 z
  refine ⟨_, _, _, t27, by rw [e]; exact pp_b (c := 2) hp (by omega), by rw [e, wi_onn (by omega)]; exact q1, ?_⟩
  refine ⟨q2.1, C p2, 0, w p2, g p2, A p2, rfl, q2, q3, by omega, u1, u2, u3, kc_S_m u1 u4 (fun T1 N1 I1 L1 R1 nc ns B y1 y2 y3 y4 y5 y6 => ?_)⟩
  obtain ⟨K, mv, kd, k1, k2, k3, k4, k5, k6, k7, k8, k9, k10⟩ := y3
  have t341 : T 341 = some (.inr (0, 24)) := wm_t hT rfl
  refine ⟨y1.1, C p2 + 76 + 5 * 0, B, g p2, K, 341, 24, i, j, mv, v, by rw [ei, ej]; rfl, y1, y2, k2, k3, k1, k6, k7, y4 _ _ t341, hij, by omega, by omega, fun k a1 a2 => by rw [y5 _ _ t341]; exact hv k (by omega), ?_⟩
  show q (.inl (some (.int (Int32.ofNat (df_run mv 0 (kz v i (j - i))))))) T1 N1 I1 L1 R1 (0 + 0 + 0 + nc + 0) (0 + 0 + 0 + ns + 0)
  rw [show 0 + 0 + 0 + nc + 0 = nc by omega, show 0 + 0 + 0 + ns + 0 = ns by omega]
  exact y6 B K mv kd ⟨k1, k2, k3, k4, k5, k6, k7, k8, k9, k10⟩
def kc_c222 : wv_c1 := fun as T N I L R q => ∃ (pi di : Int32) (C : Nat → Nat) (A : Nat → nt_A) (w g : Nat → Nat), as = [.ref 0, .int pi, .int di] ∧ kc_I T R C ∧ (rw_bp pi → q (.inr 2) T N I L R 1 6) ∧ ∀ p, p < 2 → pi = Int32.ofNat p → kc_W q (fun _ T1 N1 I1 L1 R1 nc ns => ∀ B K mv kd, kc_r (C p + 76 + 5 * 0) B (g p) (A p) I1 K mv kd → ((di < 0 ∨ Int32.ofNat K ≤ di) → q (.inr 0) T1 N1 I1 L1 R1 (nc + 1) (ns + 6)) ∧ ∀ c, c < K → di = Int32.ofNat c → q (.inl (some (.int (Int32.ofNat (kd c))))) T1 N1 I1 L1 R1 nc ns) (C p) (A p) (w p) (g p) T N I L R
set_option maxRecDepth 100000 in
theorem wM_222 : ∃ cb ci np, pt_mt 222 = some (1, cb, 4, false, some .int, ci, np) := ⟨_, _, _, rfl⟩
set_option maxRecDepth 100000 in
set_option maxHeartbeats 4000000 in
theorem kc_kind {sc : pt_Sc} {d : Nat} : wv_C wm_fx sc (d + 1 + 1 + 1 + 1 + 1) 222 kc_c222 := by
  rintro as T N I L R q ⟨pi, di, C, A, w, g, rfl, ⟨t27, hR⟩, hb, h⟩ w0 HR
  obtain ⟨cb, ci, np, hm⟩ := wM_222
  have hc201 : wv_C wm_fx sc (d + 1 + 1 + 1 + 1) 201 kc_c201 := wv_C_deep (by omega) (kc_checkClasses (d := d))
  have hc203 : wv_C wm_fx sc (d + 1 + 1 + 1 + 1) 203 kc_c203 := wv_C_deep (by omega) (kc_classesOf (d := d))
  have hc214 : wv_C wm_fx sc (d + 1 + 1 + 1 + 1) 214 kc_c214 := wv_C_deep (by omega) (kc_count (d := d))
  have hc223 : wv_C wm_fx sc (d + 1 + 1 + 1 + 1) 223 kc_c223 := wv_C_deep (by omega) (kc_kindOf (d := d))
  refine wv_meth (hh := none) rfl (sp := wv_sp [(201, kc_c201), (203, kc_c203), (214, kc_c214), (223, kc_c223)]) (hd := fun _ => none) (n := 0) (n1 := 300) hm zc_222 rfl (wv_sp_ok (fun q hq => by
    rcases List.mem_cons.mp hq with h | h
    · rw [h]; exact hc201
    rcases List.mem_cons.mp h with h | h
    · rw [h]; exact hc203
    rcases List.mem_cons.mp h with h | h
    · rw [h]; exact hc214
    rw [List.mem_singleton.mp h]; exact hc223)) ?_ (fun pc P h => by cases h) HR
  refine ⟨pi, C, rfl, t27, fun p hp => ⟨(hR p hp).1, (hR p hp).2.1⟩, fun z => ⟨Or.inl rfl, hb z⟩, fun p hp e => ?_⟩
  obtain ⟨h1, h2⟩ := h p hp e
  obtain ⟨q1, q2, q3⟩ := hR p hp
  obtain ⟨k1, t27⟩ := t27
  refine ⟨fun y => ⟨Or.inl rfl, h1 y⟩, fun y => ⟨fun z => ⟨Or.inl rfl, (h2 y).1 z⟩, fun z => ?_⟩⟩
  obtain ⟨u1, u2, u3, u4⟩ := (h2 y).2 z
  refine ⟨_, _, _, t27, by rw [e]; exact pp_b (c := 2) hp (by omega), by rw [e, wi_onn (by omega)]; exact q1, ?_⟩

  refine ⟨q2.1, C p, 0, w p, g p, A p, rfl, q2, q3, by omega, u1, u2, u3, kc_S_m u1 u4 (fun T1 N1 I1 L1 R1 nc ns B y1 y2 y3 y4 y5 y6 => ?_)⟩
  obtain ⟨K, mv, kd, k1, k2, k3, k4, k5, k6, k7, k8, k9, k10⟩ := y3
  obtain ⟨o1, o2⟩ := y6 B K mv kd ⟨k1, k2, k3, k4, k5, k6, k7, k8, k9, k10⟩
  have en : 0 + 0 + nc = nc := by omega
  have es : 0 + 0 + ns = ns := by omega
  rw [← en, ← es] at o1 o2
  refine ⟨fun w1 => ?_, fun w1 => ?_⟩
  · exact o1 (Or.inl w1)
  refine ⟨y1.1, C p + 76 + 5 * 0, rfl, y1.1, ?_⟩
  rw [k4]
  refine ⟨fun w2 => ?_, fun w2 => ?_⟩
  · have w1 : ¬ di < 0 := w1
    have w2 : di < Int32.ofNat K := w2
    rw [wi_lt, wi_0] at w1
    rw [wi_lt, wi_on (by omega)] at w2
    have ec : di = Int32.ofNat di.toInt.toNat := wi_eq.mpr (by rw [wi_on (by omega)]; omega)
    refine ⟨y1.1, C p + 76 + 5 * 0, di.toInt.toNat, by rw [← ec]; rfl, y1, by omega, ?_⟩
    rw [(k5 di.toInt.toNat (by omega)).1]
    exact o2 _ (by omega) ec
  · exact o1 (Or.inr (Int32.not_lt.mp w2))
