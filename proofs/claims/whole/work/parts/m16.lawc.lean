/-! ===== the law: classes, classOf, classBehind, kind of the class ===== -/
def kc_V (e3 e1 : Prop) (q1 : wv_Q) (C : Nat) (A : nt_A) (w g : Nat) (T : wv_T) (N : Nat) (I : Nat → Nat → Int32) (L : Nat → Nat → Int64) (R : Nat → Nat → Option Nat) : Prop := (I C 9 = 0 → e3) ∧ (¬ I C 9 = 0 → (¬ I (C + 9 + 0) 2 ≤ kk_s → e1) ∧ (I (C + 9 + 0) 2 ≤ kk_s → kc_D T R (C + 76 + 5 * 0) ∧ kc_Q T I L R (C + 76 + 5 * 0) (C + 9 + 0) A w g ∧ nt_n A ≤ 6 ∧ kc_S q1 C 0 A g T N I L R))
def wl_c199 : wv_c1 := fun as T N I L R q => ∃ (pi : Int32) (C : Nat → Nat) (A : Nat → nt_A) (w g : Nat → Nat), as = [.ref 0, .int pi, .ref 536] ∧ T 536 = some (.inr (1, 1)) ∧ kc_I T R C ∧ (rw_bp pi → q (.inl (some (.int 1))) T N I L R 1 6) ∧ ∀ p, p < 2 → pi = Int32.ofNat p → kc_V (q (.inl (some (.int 2))) T N I L R 1 6) (q (.inl (some (.int 3))) T N I L R 1 6) (fun _ T1 N1 I1 L1 R1 nc ns => q (.inl (some (.int 0))) T1 N1 I1 (wv_u L1 536 0 (I1 (C p + 76 + 5 * 0) 8).toInt64) R1 nc ns) (C p) (A p) (w p) (g p) T N I L R
set_option maxRecDepth 100000 in
theorem wM_199 : ∃ cb ci np, pt_mt 199 = some (0, cb, 4, false, some .int, ci, np) := ⟨_, _, _, rfl⟩
set_option maxRecDepth 100000 in
theorem wl_199 : wl_ok 199 4 [(2, 1), (3, 2), (1, 3)] = true := by decide +kernel
set_option maxRecDepth 100000 in
set_option maxHeartbeats 4000000 in
theorem wl_classes {sc : pt_Sc} {d : Nat} : wv_C wm_fx sc (d + 1 + 1 + 1 + 1 + 1 + 1) 199 wl_c199 := by
  rintro as T N I L R q ⟨pi, C, A, w, g, rfl, h537, hI, hb, h⟩ w0 HR
  obtain ⟨cb, ci, np, hm⟩ := wM_199
  have hc200 : wv_C wm_fx sc (d + 1 + 1 + 1 + 1 + 1) 200 kc_c200 := wv_C_deep (by omega) (kc_classes (d := d))
  refine wv_meth (hh := some (wl_f 4 [(2, 1), (3, 2), (1, 3)])) rfl (sp := wv_sp [(200, kc_c200)]) (hd := fun _ => none) (n := 0) (n1 := 300) hm zc_199 (wl_HH hm wl_199) (wv_sp_ok (fun q hq => by rw [List.mem_singleton.mp hq]; exact hc200)) ?_ (fun pc P h => by cases h) HR
  refine ⟨pi, C, A, w, g, rfl, hI, fun z => ⟨Or.inl rfl, hb z⟩, fun p hp e => ?_⟩
  obtain ⟨h1, h2⟩ := h p hp e
  refine ⟨fun y => ⟨Or.inl rfl, h1 y⟩, fun y => ⟨fun z => ⟨Or.inl rfl, (h2 y).1 z⟩, fun z => ?_⟩⟩
  obtain ⟨u1, u2, u3, u4⟩ := (h2 y).2 z
  refine ⟨u1, u2, u3, kc_S_m u1 u4 (fun T1 N1 I1 L1 R1 nc ns B y1 y2 y3 y4 y5 y6 => ?_)⟩
  refine ⟨_, y4 _ _ h537, ⟨by decide, by decide⟩, by decide, ?_⟩
  show q (.inl (some (.int 0))) T1 N1 I1 (wv_u L1 536 0 (I1 (C p + 76 + 5 * 0) 8).toInt64) R1 (0 + nc) (0 + ns)
  rw [show 0 + nc = nc by omega, show 0 + ns = ns by omega]
  exact y6
def wl_c215 : wv_c1 := fun as T N I L R q => ∃ (pi ii jj : Int32) (n : Nat) (v : Nat → Nat) (C : Nat → Nat) (A : Nat → nt_A) (w g : Nat → Nat), as = [.ref 0, .int pi, .int ii, .int jj, .ref 536] ∧ T 536 = some (.inr (1, 1)) ∧ wm_T T ∧ kc_I T R C ∧ I 0 16 = Int32.ofNat n ∧ n ≤ 24 ∧ (∀ k, k < n → I 341 k = Int32.ofNat (v k) ∧ v k < 64) ∧ (rw_bp pi → q (.inl (some (.int 1))) T N I L R 1 6) ∧ (¬ rw_bp pi → rw_br (Int32.ofNat n) ii jj → q (.inl (some (.int 2))) T N I L R 1 6) ∧ ∀ p, p < 2 → pi = Int32.ofNat p → ∀ i j, i ≤ j → j ≤ n → ii = Int32.ofNat i → jj = Int32.ofNat j → kc_V (q (.inl (some (.int 3))) T N I L R 1 6) (q (.inl (some (.int 4))) T N I L R 1 6) (fun _ T1 N1 I1 L1 R1 nc ns => ∀ B K mv kd, kc_r (C p + 76 + 5 * 0) B (g p) (A p) I1 K mv kd → q (.inl (some (.int 0))) T1 N1 I1 (wv_u L1 536 0 (Int32.ofNat (df_run mv 0 (kz v i (j - i)))).toInt64) R1 nc ns) (C p) (A p) (w p) (g p) T N I L R
set_option maxRecDepth 100000 in
theorem wM_215 : ∃ cb ci np, pt_mt 215 = some (0, cb, 6, false, some .int, ci, np) := ⟨_, _, _, rfl⟩
set_option maxRecDepth 100000 in
theorem wl_215 : wl_ok 215 7 [(2, 1), (0, 2), (3, 3), (1, 4)] = true := by decide +kernel
set_option maxRecDepth 100000 in
set_option maxHeartbeats 4000000 in
theorem wl_classOf {sc : pt_Sc} {d : Nat} : wv_C wm_fx sc (d + 1 + 1 + 1 + 1 + 1 + 1) 215 wl_c215 := by
  rintro as T N I L R q ⟨pi, ii, jj, n, v, C, A, w, g, rfl, h537, hT, hI, h16, hn, hv, hb, hr, h⟩ w0 HR
  obtain ⟨cb, ci, np, hm⟩ := wM_215
  have hc216 : wv_C wm_fx sc (d + 1 + 1 + 1 + 1 + 1) 216 kc_c216 := wv_C_deep (by omega) (kc_classOf (d := d))
  refine wv_meth (hh := some (wl_f 7 [(2, 1), (0, 2), (3, 3), (1, 4)])) rfl (sp := wv_sp [(216, kc_c216)]) (hd := fun _ => none) (n := 0) (n1 := 300) hm zc_215 (wl_HH hm wl_215) (wv_sp_ok (fun q hq => by rw [List.mem_singleton.mp hq]; exact hc216)) ?_ (fun pc P h => by cases h) HR
  refine ⟨pi, ii, jj, n, v, C, A, w, g, rfl, hT, hI, h16, hn, hv, fun z => ⟨Or.inl rfl, hb z⟩, fun z1 z2 => ⟨Or.inl rfl, hr z1 z2⟩, fun p hp e i j a1 a2 a3 a4 => ?_⟩
  obtain ⟨h1, h2⟩ := h p hp e i j a1 a2 a3 a4
  refine ⟨fun y => ⟨Or.inl rfl, h1 y⟩, fun y => ⟨fun z => ⟨Or.inl rfl, (h2 y).1 z⟩, fun z => ?_⟩⟩
  obtain ⟨u1, u2, u3, u4⟩ := (h2 y).2 z
  refine ⟨u1, u2, u3, kc_S_m u1 u4 (fun T1 N1 I1 L1 R1 nc ns B y1 y2 y3 y4 y5 y6 B2 K mv kd hkr => ?_)⟩
  refine ⟨_, y4 _ _ h537, ⟨by decide, by decide⟩, by decide, ?_⟩
  show q (.inl (some (.int 0))) T1 N1 I1 (wv_u L1 536 0 (Int32.ofNat (df_run mv 0 (kz v i (j - i)))).toInt64) R1 (0 + nc) (0 + ns)
  rw [show 0 + nc = nc by omega, show 0 + ns = ns by omega]
  exact y6 B2 K mv kd hkr
def wl_c221 : wv_c1 := fun as T N I L R q => ∃ (pi di : Int32) (C : Nat → Nat) (A : Nat → nt_A) (w g : Nat → Nat), as = [.ref 0, .int pi, .int di, .ref 536] ∧ T 536 = some (.inr (1, 1)) ∧ kc_I T R C ∧ (rw_bp pi → q (.inl (some (.int 1))) T N I L R 1 6) ∧ ∀ p, p < 2 → pi = Int32.ofNat p → kc_V (q (.inl (some (.int 2))) T N I L R 1 6) (q (.inl (some (.int 3))) T N I L R 1 6) (fun _ T1 N1 I1 L1 R1 nc ns => ∀ B K mv kd, kc_r (C p + 76 + 5 * 0) B (g p) (A p) I1 K mv kd → ((di < 0 ∨ Int32.ofNat K ≤ di) → q (.inl (some (.int 4))) T1 N1 I1 L1 R1 (nc + 1) (ns + 6)) ∧ ∀ c, c < K → di = Int32.ofNat c → q (.inl (some (.int 0))) T1 N1 I1 (wv_u L1 536 0 (Int32.ofNat (kd c)).toInt64) R1 nc ns) (C p) (A p) (w p) (g p) T N I L R
set_option maxRecDepth 100000 in
theorem wM_221 : ∃ cb ci np, pt_mt 221 = some (0, cb, 5, false, some .int, ci, np) := ⟨_, _, _, rfl⟩
set_option maxRecDepth 100000 in
theorem wl_221 : wl_ok 221 5 [(2, 1), (3, 2), (1, 3), (0, 4)] = true := by decide +kernel
set_option maxRecDepth 100000 in
set_option maxHeartbeats 4000000 in
theorem wl_kind {sc : pt_Sc} {d : Nat} : wv_C wm_fx sc (d + 1 + 1 + 1 + 1 + 1 + 1) 221 wl_c221 := by
  rintro as T N I L R q ⟨pi, di, C, A, w, g, rfl, h537, hI, hb, h⟩ w0 HR
  obtain ⟨cb, ci, np, hm⟩ := wM_221
  have hc222 : wv_C wm_fx sc (d + 1 + 1 + 1 + 1 + 1) 222 kc_c222 := wv_C_deep (by omega) (kc_kind (d := d))
  refine wv_meth (hh := some (wl_f 5 [(2, 1), (3, 2), (1, 3), (0, 4)])) rfl (sp := wv_sp [(222, kc_c222)]) (hd := fun _ => none) (n := 0) (n1 := 300) hm zc_221 (wl_HH hm wl_221) (wv_sp_ok (fun q hq => by rw [List.mem_singleton.mp hq]; exact hc222)) ?_ (fun pc P h => by cases h) HR
  refine ⟨pi, di, C, A, w, g, rfl, hI, fun z => ⟨Or.inl rfl, hb z⟩, fun p hp e => ?_⟩
  obtain ⟨h1, h2⟩ := h p hp e
  refine ⟨fun y => ⟨Or.inl rfl, h1 y⟩, fun y => ⟨fun z => ⟨Or.inl rfl, (h2 y).1 z⟩, fun z => ?_⟩⟩
  obtain ⟨u1, u2, u3, u4⟩ := (h2 y).2 z
  refine ⟨u1, u2, u3, kc_S_m u1 u4 (fun T1 N1 I1 L1 R1 nc ns B y1 y2 y3 y4 y5 y6 B2 K mv kd hkr => ?_)⟩
  obtain ⟨o1, o2⟩ := y6 B2 K mv kd hkr
  have en : 0 + nc = nc := by omega
  have es : 0 + ns = ns := by omega
  have en1 : 0 + (nc + 1) = nc + 1 := by omega
  have es1 : 0 + (ns + 6) = ns + 6 := by omega
  rw [← en1, ← es1] at o1
  rw [← en, ← es] at o2
  refine ⟨fun w1 => ⟨Or.inl rfl, o1 w1⟩, fun c hc ec => ?_⟩
  exact ⟨_, y4 _ _ h537, ⟨by decide, by decide⟩, by decide, o2 c hc ec⟩
def wl_c219 : wv_c1 := fun as T N I L R q => ∃ (pi di ei : Int32) (C : Nat → Nat) (A : Nat → nt_A) (w g : Nat → Nat), as = [.ref 0, .int pi, .int di, .int ei, .ref 536] ∧ T 536 = some (.inr (1, 1)) ∧ kc_I T R C ∧ (rw_bp pi → q (.inl (some (.int 1))) T N I L R 1 6) ∧ ∀ p, p < 2 → pi = Int32.ofNat p → kc_V (q (.inl (some (.int 2))) T N I L R 1 6) (q (.inl (some (.int 3))) T N I L R 1 6) (fun _ T1 N1 I1 L1 R1 nc ns => ∀ B K mv kd, kc_r (C p + 76 + 5 * 0) B (g p) (A p) I1 K mv kd → ((di < 0 ∨ Int32.ofNat K ≤ di ∨ ¬ (0 ≤ ei.toInt ∧ ei.toInt < 64)) → q (.inl (some (.int 4))) T1 N1 I1 L1 R1 (nc + 1) (ns + 6)) ∧ ∀ c v, c < K → di = Int32.ofNat c → v < 64 → ei = Int32.ofNat v → q (.inl (some (.int 0))) T1 N1 I1 (wv_u L1 536 0 (Int32.ofNat (mv c v)).toInt64) R1 nc ns) (C p) (A p) (w p) (g p) T N I L R
set_option maxRecDepth 100000 in
theorem wM_219 : ∃ cb ci np, pt_mt 219 = some (0, cb, 6, false, some .int, ci, np) := ⟨_, _, _, rfl⟩
set_option maxRecDepth 100000 in
theorem wl_219 : wl_ok 219 7 [(2, 1), (3, 2), (1, 3), (0, 4)] = true := by decide +kernel
set_option maxRecDepth 100000 in
set_option maxHeartbeats 4000000 in
theorem wl_classBehind {sc : pt_Sc} {d : Nat} : wv_C wm_fx sc (d + 1 + 1 + 1 + 1 + 1 + 1) 219 wl_c219 := by
  rintro as T N I L R q ⟨pi, di, ei, C, A, w, g, rfl, h537, hI, hb, h⟩ w0 HR
  obtain ⟨cb, ci, np, hm⟩ := wM_219
  have hc220 : wv_C wm_fx sc (d + 1 + 1 + 1 + 1 + 1) 220 kc_c220 := wv_C_deep (by omega) (kc_classBehind (d := d))
  refine wv_meth (hh := some (wl_f 7 [(2, 1), (3, 2), (1, 3), (0, 4)])) rfl (sp := wv_sp [(220, kc_c220)]) (hd := fun _ => none) (n := 0) (n1 := 300) hm zc_219 (wl_HH hm wl_219) (wv_sp_ok (fun q hq => by rw [List.mem_singleton.mp hq]; exact hc220)) ?_ (fun pc P h => by cases h) HR
  refine ⟨pi, di, ei, C, A, w, g, rfl, hI, fun z => ⟨Or.inl rfl, hb z⟩, fun p hp e => ?_⟩
  obtain ⟨h1, h2⟩ := h p hp e
  refine ⟨fun y => ⟨Or.inl rfl, h1 y⟩, fun y => ⟨fun z => ⟨Or.inl rfl, (h2 y).1 z⟩, fun z => ?_⟩⟩
  obtain ⟨u1, u2, u3, u4⟩ := (h2 y).2 z
  refine ⟨u1, u2, u3, kc_S_m u1 u4 (fun T1 N1 I1 L1 R1 nc ns B y1 y2 y3 y4 y5 y6 B2 K mv kd hkr => ?_)⟩
  obtain ⟨o1, o2⟩ := y6 B2 K mv kd hkr
  have en : 0 + nc = nc := by omega
  have es : 0 + ns = ns := by omega
  have en1 : 0 + (nc + 1) = nc + 1 := by omega
  have es1 : 0 + (ns + 6) = ns + 6 := by omega
  rw [← en1, ← es1] at o1
  rw [← en, ← es] at o2
  refine ⟨fun w1 => ⟨Or.inl rfl, o1 w1⟩, fun c v hc ec hv ev => ?_⟩
  exact ⟨_, y4 _ _ h537, ⟨by decide, by decide⟩, by decide, o2 c v hc ec hv ev⟩
