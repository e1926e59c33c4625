/-! ===== the class: classBehind ===== -/
def kc_c220 : wv_c1 := fun as T N I L R q => ∃ (pi di ei : Int32) (C : Nat → Nat) (A : Nat → nt_A) (w g : Nat → Nat), as = [.ref 0, .int pi, .int di, .int ei] ∧ kc_I T R C ∧ (rw_bp pi → q (.inr 2) T N I L R 1 6) ∧ ∀ p, p < 2 → pi = Int32.ofNat p → kc_W q (fun _ T1 N1 I1 L1 R1 nc ns => ∀ B K mv kd, kc_r (C p + 76 + 5 * 0) B (g p) (A p) I1 K mv kd → ((di < 0 ∨ Int32.ofNat K ≤ di ∨ ¬ (0 ≤ ei.toInt ∧ ei.toInt < 64)) → q (.inr 0) T1 N1 I1 L1 R1 (nc + 1) (ns + 6)) ∧ ∀ c v, c < K → di = Int32.ofNat c → v < 64 → ei = Int32.ofNat v → q (.inl (some (.int (Int32.ofNat (mv c v))))) T1 N1 I1 L1 R1 nc ns) (C p) (A p) (w p) (g p) T N I L R
set_option maxRecDepth 100000 in
theorem wM_220 : ∃ cb ci np, pt_mt 220 = some (1, cb, 5, false, some .int, ci, np) := ⟨_, _, _, rfl⟩
set_option maxRecDepth 100000 in
set_option maxHeartbeats 4000000 in
theorem kc_classBehind {sc : pt_Sc} {d : Nat} : wv_C wm_fx sc (d + 1 + 1 + 1 + 1 + 1) 220 kc_c220 := by
  rintro as T N I L R q ⟨pi, di, ei, C, A, w, g, rfl, ⟨t27, hR⟩, hb, h⟩ w0 HR
  obtain ⟨cb, ci, np, hm⟩ := wM_220
  have hc201 : wv_C wm_fx sc (d + 1 + 1 + 1 + 1) 201 kc_c201 := wv_C_deep (by omega) (kc_checkClasses (d := d))
  have hc203 : wv_C wm_fx sc (d + 1 + 1 + 1 + 1) 203 kc_c203 := wv_C_deep (by omega) (kc_classesOf (d := d))
  have hc214 : wv_C wm_fx sc (d + 1 + 1 + 1 + 1) 214 kc_c214 := wv_C_deep (by omega) (kc_count (d := d))
  have hc174 : wv_C wm_fx sc (d + 1 + 1 + 1 + 1) 174 sc_c174 := wv_C_deep (by omega) (sc_isLetter (d := d))
  have hc218 : wv_C wm_fx sc (d + 1 + 1 + 1 + 1) 218 kc_c218 := wv_C_deep (by omega) (kc_behind (d := d))
  refine wv_meth (hh := none) rfl (sp := wv_sp [(201, kc_c201), (203, kc_c203), (214, kc_c214), (174, sc_c174), (218, kc_c218)]) (hd := fun _ => none) (n := 0) (n1 := 300) hm zc_220 rfl (wv_sp_ok (fun q hq => by
    rcases List.mem_cons.mp hq with h | h
    · rw [h]; exact hc201
    rcases List.mem_cons.mp h with h | h
    · rw [h]; exact hc203
    rcases List.mem_cons.mp h with h | h
    · rw [h]; exact hc214
    rcases List.mem_cons.mp h with h | h
    · rw [h]; exact hc174
    rw [List.mem_singleton.mp h]; exact hc218)) ?_ (fun pc P h => by cases h) HR
  refine ⟨pi, C, rfl, t27, fun p hp => ⟨(hR p hp).1, (hR p hp).2.1⟩, fun z => ⟨Or.inl rfl, hb z⟩, fun p hp e => ?_⟩
  obtain ⟨h1, h2⟩ := h p hp e
  obtain ⟨q1, q2, q3⟩ := hR p hp
  obtain ⟨k1, t27⟩ := t27
  refine ⟨fun y => ⟨Or.inl rfl, h1 y⟩, fun y => ⟨fun z => ⟨Or.inl rfl, (h2 y).1 z⟩, fun z => ?_⟩⟩
  obtain ⟨u1, u2, u3, u4⟩ := (h2 y).2 z
  refine ⟨_, _, _, t27, by rw [e]; exact pp_b (c := 2) hp (by omega), by rw [e, wi_onn (by omega)]; exact q1, ?_⟩

  refine ⟨q2.1, C p, 0, w p, g p, A p, rfl, q2, q3, by omega, u1, u2, u3, kc_S_m u1 u4 (fun T1 N1 I1 L1 R1 nc ns B y1 y2 y3 y4 y5 y6 => ?_)⟩
  obtain ⟨K, mv, kd, k1, k2, k3, k4, k5, k6, k7, k8, k9, k10⟩ := y3
  obtain ⟨o1, o2⟩ := y6 B K mv kd ⟨k1, k2, k3, k4, k5, k6, k7, k8, k9, k10⟩
  have en : 0 + 0 + nc = nc := by omega
  have es : 0 + 0 + ns = ns := by omega
  rw [← en, ← es] at o1 o2
  refine ⟨fun w1 => ?_, fun w1 => ?_⟩
  · exact o1 (Or.inl w1)
  refine ⟨y1.1, C p + 76 + 5 * 0, rfl, y1.1, ?_⟩
  rw [k4]
  refine ⟨fun w2 => ?_, fun w2 => ?_⟩
  · exact o1 (Or.inr (Or.inl w2))
  have w1 : ¬ di < 0 := w1
  have w2 : ¬ Int32.ofNat K ≤ di := w2
  rw [wi_lt, wi_0] at w1
  rw [wi_le, wi_on (by omega)] at w2
  have ec : di = Int32.ofNat di.toInt.toNat := wi_eq.mpr (by rw [wi_on (by omega)]; omega)
  refine ⟨ei, rfl, ?_⟩
  by_cases hl : 0 ≤ ei.toInt ∧ ei.toInt < 64
  · rw [decide_eq_true hl]
    refine ⟨fun _ => ?_, fun z => absurd (by decide) z⟩
    have ev : ei = Int32.ofNat ei.toInt.toNat := wi_eq.mpr (by rw [wi_on (by omega)]; omega)
    refine ⟨y1.1, C p + 76 + 5 * 0, B, di.toInt.toNat, ei.toInt.toNat, g p, by rw [← ec, ← ev]; rfl, y1, y2, k2, k3, by omega, by omega, ?_⟩
    rw [k6 _ _ (by omega) (by omega)]
    exact o2 _ _ (by omega) ec (by omega) ev
  · rw [decide_eq_false hl]
    refine ⟨fun z => absurd rfl z, fun _ => ?_⟩
    exact o1 (Or.inr (Or.inr hl))
