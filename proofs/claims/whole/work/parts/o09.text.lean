/-! ===== the class: StringBuilder, texts, lengths, signs ===== -/
def bu_c262 : wv_c1 := fun as T N I L R q => ∃ (B s : Nat), as = [.ref B, .ref s] ∧ T B = some (.inl 13) ∧ I B 1 = 0 ∧ T s = some (.inl 14) ∧ I s 1 = 0 ∧ q (.inl none) T N I L R 0 0
set_option maxRecDepth 100000 in
theorem wM_262 : ∃ cb ci np, pt_mt 262 = some (13, cb, 2, false, none, ci, np) := ⟨_, _, _, rfl⟩
set_option maxRecDepth 100000 in
set_option maxHeartbeats 4000000 in
theorem bu_inflate {sc : pt_Sc} {d : Nat} : wv_C wm_fx sc (d + 1 + 1) 262 bu_c262 := by
  rintro as T N I L R q ⟨B, s, rfl, h1, h2, h3, h4, h⟩ w0 HR
  obtain ⟨cb, ci, np, hm⟩ := wM_262
  have hc35 : wv_C wm_fx sc (d + 1) 35 wt_c35 := wv_C_deep (by omega) (wt_coder (d := d))
  refine wv_meth (hh := none) rfl (sp := wv_sp [(35, wt_c35)]) (hd := fun _ => none) (n := 0) (n1 := 300) hm zc_262 rfl (wv_sp_ok (fun q hq => by rw [List.mem_singleton.mp hq]; exact hc35)) ?_ (fun pc P h => by cases h) HR
  refine ⟨fun z => (by cases z), fun _ => ?_⟩
  refine ⟨h1, h3, s, rfl, h3, h4, ?_⟩
  refine ⟨fun _ => h, fun w => absurd h2 w⟩
def bu_c269 : wv_c1 := fun as T N I L R q => ∃ (s a V cap ps : Nat) (w : List Nat), as = [.ref s, .ref V, .int (Int32.ofNat ps), .int 0] ∧ wt_s T I R s a w ∧ T V = some (.inr (3, cap)) ∧ V < 1099511627776 ∧ ps + w.length ≤ cap ∧ cap < 100000 ∧ q (.inl none) T N (wv_cp I a 0 V ps w.length) L R 0 0
set_option maxRecDepth 100000 in
theorem wM_269 : ∃ cb ci np, pt_mt 269 = some (17, cb, 4, false, none, ci, np) := ⟨_, _, _, rfl⟩
set_option maxRecDepth 100000 in
set_option maxHeartbeats 4000000 in
theorem bu_getBytes {sc : pt_Sc} {d : Nat} : wv_C wm_fx sc (d + 1 + 1) 269 bu_c269 := by
  rintro as T N I L R q ⟨s, a, V, cap, ps, w, rfl, hs, hV, hV2, hl, hc, h⟩ w0 HR
  obtain ⟨cb, ci, np, hm⟩ := wM_269
  have hc35 : wv_C wm_fx sc (d + 1) 35 wt_c35 := wv_C_deep (by omega) (wt_coder (d := d))
  refine wv_meth (hh := none) rfl (sp := wv_sp [(35, wt_c35)]) (hd := fun _ => none) (n := 0) (n1 := 300) hm zc_269 rfl (wv_sp_ok (fun q hq => by rw [List.mem_singleton.mp hq]; exact hc35)) ?_ (fun pc P h => by cases h) HR
  obtain ⟨h1, h2, h3, h4, h5, h6⟩ := id hs
  have ep := wi_on (n := ps) (by omega)
  have ew := wi_on (n := w.length) (by omega)
  refine ⟨h1, s, rfl, h1, h3, ?_⟩
  refine ⟨fun w1 => absurd rfl w1, fun _ => ?_⟩
  refine ⟨h1, a, h2, h1, a, h2, _, _, h4, ?_⟩
  rw [bu_sl]
  refine ⟨3, w.length, cap, ⟨h4, hV⟩, ⟨by decide, Or.inr rfl, hV2⟩, ⟨by decide, by rw [wi_le, ep, wi_0]; omega, by rw [wi_le, ew, wi_0]; omega⟩, ⟨?_, ?_⟩, Or.inr (fun k hk => ?_), ?_⟩
  · rw [ew]
    show (0 : Int) + w.length ≤ w.length
    omega
  · rw [ep, ew]
    omega
  · rw [ew] at hk
    have hk2 : k < w.length := by omega
    obtain ⟨c1, c2⟩ := h6 k _ (List.getElem?_eq_getElem hk2)
    show fits .byte (.int (I a (0 + k))) = true
    rw [Nat.zero_add, c1]
    exact bu_fit _ c2
  · have e0 : (Int32.ofInt 0).toNatClampNeg = 0 := rfl
    rw [wi_onn (by omega), wi_onn (by omega), e0, if_neg (by decide)]
    exact h
def bu_c261 : wv_c1 := fun as T N I L R q => ∃ (B V s a cap ps : Nat) (w : List Nat), as = [.ref B, .int (Int32.ofNat ps), .ref s] ∧ T B = some (.inl 13) ∧ R B 0 = some V ∧ I B 1 = 0 ∧ wt_s T I R s a w ∧ T V = some (.inr (3, cap)) ∧ V < 1099511627776 ∧ ps + w.length ≤ cap ∧ cap < 100000 ∧ q (.inl none) T N (wv_cp I a 0 V ps w.length) L R 0 0
set_option maxRecDepth 100000 in
theorem wM_261 : ∃ cb ci np, pt_mt 261 = some (13, cb, 3, false, none, ci, np) := ⟨_, _, _, rfl⟩
set_option maxRecDepth 100000 in
set_option maxHeartbeats 4000000 in
theorem bu_putString {sc : pt_Sc} {d : Nat} : wv_C wm_fx sc (d + 1 + 1 + 1) 261 bu_c261 := by
  rintro as T N I L R q ⟨B, V, s, a, cap, ps, w, rfl, h1, h2, h3, hs, hV, hV2, hl, hc, h⟩ w0 HR
  obtain ⟨cb, ci, np, hm⟩ := wM_261
  have hc262 : wv_C wm_fx sc (d + 1 + 1) 262 bu_c262 := wv_C_deep (by omega) (bu_inflate (d := d))
  have hc269 : wv_C wm_fx sc (d + 1 + 1) 269 bu_c269 := wv_C_deep (by omega) (bu_getBytes (d := d))
  refine wv_meth (hh := none) rfl (sp := wv_sp [(262, bu_c262), (269, bu_c269)]) (hd := fun _ => none) (n := 0) (n1 := 300) hm zc_261 rfl (wv_sp_ok (fun q hq => by
    rcases List.mem_cons.mp hq with h | h
    · rw [h]; exact hc262
    rw [List.mem_singleton.mp h]; exact hc269)) ?_ (fun pc P h => by cases h) HR
  refine ⟨h1, B, s, rfl, h1, h3, hs.1, hs.2.2.1, ?_⟩
  refine ⟨h1, V, h2, h1, hs.1, s, a, V, cap, ps, w, (by first | rfl | exact congrArg (fun y => [Value.ref s, Value.ref V, Value.int (Int32.ofNat ps), Value.int y]) h3), hs, hV, hV2, hl, hc, h⟩
theorem bu_s_G {B V cap V1 cap1 n1 s1 s a : Nat} {w : List Nat} {T : wv_T} {N : Nat} {I : Nat → Nat → Int32} {L : Nat → Nat → Int64} {R : Nat → Nat → Option Nat} {T1 : wv_T} {N1 : Nat} {I1 : Nat → Nat → Int32} {L1 : Nat → Nat → Int64} {R1 : Nat → Nat → Option Nat} (h : bu_G B V cap T N I L R V1 cap1 T1 N1 I1 L1 R1 n1 s1) (hB : B < 1099511627776) (hV : V < 1099511627776) (hN : N1 < 1099511627776) (h1 : 1099511627776 ≤ s) (h2 : 1099511627776 ≤ a) (hs : wt_s T I R s a w) : wt_s T1 I1 R1 s a w := by
  obtain ⟨g1, _, _, _, _, g6, _, _, g9⟩ := h
  obtain ⟨s1, s2, s3, s4, s5, s6⟩ := hs
  exact ⟨g1 _ _ s1, (g9 _ _ (by omega) (by omega)).trans s2, (g6 _ _ (by omega) (by omega) (by omega)).trans s3, g1 _ _ s4, s5, fun k c hk => ⟨(g6 _ _ (by omega) (by omega) (by omega)).trans (s6 k c hk).1, (s6 k c hk).2⟩⟩
def bu_c248 : wv_c1 := fun as T N I L R q => ∃ (B V cap s a : Nat) (z w : List Nat), as = [.ref B, .ref s] ∧ bu_D T I R B V cap z ∧ wt_s T I R s a w ∧ 1099511627776 ≤ s ∧ 1099511627776 ≤ a ∧ z.length < 10000 ∧ N < 1000000000 ∧ ∀ V1 cap1 T1 N1 I1 L1 R1 n1 s1, bu_D T1 I1 R1 B V1 cap1 (z ++ w) → bu_G B V cap T N I L R V1 cap1 T1 N1 I1 L1 R1 n1 s1 → q (.inl (some (.ref B))) T1 N1 I1 L1 R1 n1 s1
set_option maxRecDepth 100000 in
theorem wM_248 : ∃ cb ci np, pt_mt 248 = some (13, cb, 3, false, some (.object "java/lang/AbstractStringBuilder"), ci, np) := ⟨_, _, _, rfl⟩
set_option maxRecDepth 100000 in
set_option maxHeartbeats 4000000 in
theorem bu_appendS {sc : pt_Sc} {d : Nat} : wv_C wm_fx sc (d + 1 + 1 + 1 + 1) 248 bu_c248 := by
  rintro as T N I L R q ⟨B, V, cap, s, a, z, w, rfl, hD, hs, hs1, ha1, hz, hN, h⟩ w0 HR
  obtain ⟨cb, ci, np, hm⟩ := wM_248
  have hc34 : wv_C wm_fx sc (d + 1 + 1 + 1) 34 wt_c34 := wv_C_deep (by omega) (wt_length (d := d))
  have hc250 : wv_C wm_fx sc (d + 1 + 1 + 1) 250 bu_c250b := wv_C_deep (by omega) (bu_ensureb (d := d))
  have hc261 : wv_C wm_fx sc (d + 1 + 1 + 1) 261 bu_c261 := wv_C_deep (by omega) (bu_putString (d := d))
  refine wv_meth (hh := none) rfl (sp := wv_sp [(34, wt_c34), (250, bu_c250b), (261, bu_c261)]) (hd := fun _ => none) (n := 0) (n1 := 300) hm zc_248 rfl (wv_sp_ok (fun q hq => by
    rcases List.mem_cons.mp hq with h | h
    · rw [h]; exact hc34
    rcases List.mem_cons.mp h with h | h
    · rw [h]; exact hc250
    rw [List.mem_singleton.mp h]; exact hc261)) ?_ (fun pc P h => by cases h) HR
  have hw8 := hs.2.2.2.2.1
  have e9 := hD.2.1
  refine ⟨hs.1, s, a, w, rfl, hs, ?_⟩
  refine ⟨hD.1.1, hD.1.1, B, V, cap, z.length + w.length, z, (by first | rfl | exact congrArg (fun y => [Value.ref B, Value.int y]) (by rw [e9, wi_ona])), hD, by omega, hN, fun V1 cap1 T1 N1 I1 L1 R1 n1 s1 hD1 hle hG => ?_⟩
  have hVB := bu_VB hD1
  obtain ⟨⟨h1, h2, h3, h4, h5, h6, h7, h8⟩, h9, h10, h11, h12⟩ := id hD1
  have hN1 := bu_nb hG h6
  have hs2 := bu_s_G hG h8 hD.1.2.2.2.2.2.2.1 (by omega) hs1 ha1 hs
  refine ⟨h1, h1, B, V1, s, a, cap1, z.length, w, (by first | rfl | exact congrArg (fun y => [Value.ref B, Value.int y, Value.ref s]) h9), h1, h2, h3, hs2, h4, h7, hle, h6, ?_⟩
  have eB : wv_cp I1 a 0 V1 z.length w.length B 3 = Int32.ofNat z.length := (if_neg (fun y => hVB y.1.symm)).trans h9
  refine ⟨h1, ⟨h1, h8⟩, ?_⟩
  rw [eB, wi_ona]
  have hq := h V1 cap1 T1 N1 (wv_u (wv_cp I1 a 0 V1 z.length w.length) B 3 (Int32.ofNat (z.length + w.length))) L1 R1 (n1 + 0) (s1 + 0) (bu_putl hD1 hle (fun k c hk => (hs.2.2.2.2.2 k c hk).2) (fun j hj => ?_) (fun k c hk => ?_) ?_ ?_) (bu_G_t hG (bu_G_I (fun b j a1 a2 => ?_) (fun j a1 a2 => ?_)))
  rotate_left
  · rw [wv_u_no _ _ (fun y => hVB y.1)]
    exact if_neg (by omega)
  · have hkl : k < w.length := by
      rcases Nat.lt_or_ge k w.length with y | y
      · exact y
      · rw [List.getElem?_eq_none y] at hk
        cases hk
    rw [wv_u_no _ _ (fun y => hVB y.1)]
    show (if V1 = V1 ∧ z.length ≤ z.length + k ∧ z.length + k < z.length + w.length then I1 a (0 + (z.length + k - z.length)) else _) = _
    rw [if_pos ⟨rfl, by omega, by omega⟩, show 0 + (z.length + k - z.length) = k by omega]
    exact (hs2.2.2.2.2.2 k c hk).1
  · rw [wv_u_no _ _ (by omega)]
    exact if_neg (fun y => hVB y.1.symm)
  · rw [wv_u_at]
  · rw [wv_u_no _ _ (by omega)]
    exact if_neg (fun y => a2 y.1)
  · rw [wv_u_no _ _ (by omega)]
    exact if_neg (fun y => hVB y.1.symm)
  have e1 : 0 + 0 + n1 + 0 = n1 + 0 := by omega
  have e2 : 0 + 0 + s1 + 0 = s1 + 0 := by omega
  rw [← e1, ← e2] at hq
  exact hq
set_option maxRecDepth 100000 in
theorem wM_247 : ∃ cb ci np, pt_mt 247 = some (12, cb, 2, false, some (.object "java/lang/StringBuilder"), ci, np) := ⟨_, _, _, rfl⟩
set_option maxRecDepth 100000 in
set_option maxHeartbeats 4000000 in
theorem bu_appendS2 {sc : pt_Sc} {d : Nat} : wv_C wm_fx sc (d + 1 + 1 + 1 + 1 + 1) 247 bu_c248 := by
  rintro as T N I L R q ⟨B, V, cap, s, a, z, w, rfl, hD, hs, hs1, ha1, hz, hN, h⟩ w0 HR
  obtain ⟨cb, ci, np, hm⟩ := wM_247
  have hc248 : wv_C wm_fx sc (d + 1 + 1 + 1 + 1) 248 bu_c248 := wv_C_deep (by omega) (bu_appendS (d := d))
  refine wv_meth (hh := none) rfl (sp := wv_sp [(248, bu_c248)]) (hd := fun _ => none) (n := 0) (n1 := 300) hm zc_247 rfl (wv_sp_ok (fun q hq => by rw [List.mem_singleton.mp hq]; exact hc248)) ?_ (fun pc P h => by cases h) HR
  refine ⟨hD.1.1, B, V, cap, s, a, z, w, rfl, hD, hs, hs1, ha1, hz, hN, fun V1 cap1 T1 N1 I1 L1 R1 n1 s1 hD1 hG => ?_⟩
  have hq := h V1 cap1 T1 N1 I1 L1 R1 n1 s1 hD1 hG
  rw [← Nat.zero_add n1, ← Nat.zero_add s1] at hq
  exact hq
theorem bu_nil {T : wv_T} {I J : Nat → Nat → Int32} {R : Nat → Nat → Option Nat} {B V cap : Nat} {z : List Nat} (h : bu_D T I R B V cap z) (j1 : ∀ j, J V j = I V j) (j3 : J B 1 = I B 1) (j4 : J B 3 = 0) : bu_D T J R B V cap [] := by
  obtain ⟨⟨h1, h2, h3, h4, h5, h6, h7, h8⟩, h9, h10, h11, h12⟩ := h
  exact ⟨⟨h1, h2, j3.trans h3, h4, h5, h6, h7, h8⟩, j4, Nat.zero_le _, fun k hk => by rw [j1 k]; exact h11 k hk, fun k c hk => by cases hk⟩
def bu_c245 : wv_c1 := fun as T N I L R q => ∃ (B V cap : Nat) (z : List Nat), as = [.ref B, .int 0] ∧ bu_D T I R B V cap z ∧ N < 1000000000 ∧ ∀ V1 cap1 T1 N1 I1 L1 R1 n1 s1, bu_D T1 I1 R1 B V1 cap1 ([]) → bu_G B V cap T N I L R V1 cap1 T1 N1 I1 L1 R1 n1 s1 → q (.inl none) T1 N1 I1 L1 R1 n1 s1
set_option maxRecDepth 100000 in
theorem wM_245 : ∃ cb ci np, pt_mt 245 = some (13, cb, 2, false, none, ci, np) := ⟨_, _, _, rfl⟩
set_option maxRecDepth 100000 in
set_option maxHeartbeats 4000000 in
theorem bu_setLength {sc : pt_Sc} {d : Nat} : wv_C wm_fx sc (d + 1 + 1 + 1 + 1) 245 bu_c245 := by
  rintro as T N I L R q ⟨B, V, cap, z, rfl, hD, hN, h⟩ w0 HR
  obtain ⟨cb, ci, np, hm⟩ := wM_245
  have hc250 : wv_C wm_fx sc (d + 1 + 1 + 1) 250 bu_c250b := wv_C_deep (by omega) (bu_ensureb (d := d))
  refine wv_meth (hh := none) rfl (sp := wv_sp [(250, bu_c250b)]) (hd := fun _ => none) (n := 0) (n1 := 300) hm zc_245 rfl (wv_sp_ok (fun q hq => by rw [List.mem_singleton.mp hq]; exact hc250)) ?_ (fun pc P h => by cases h) HR
  refine ⟨fun _ => ?_, fun w1 => absurd (by decide) w1⟩
  refine ⟨hD.1.1, B, V, cap, 0, z, rfl, hD, by omega, hN, fun V1 cap1 T1 N1 I1 L1 R1 n1 s1 hD1 hle hG => ?_⟩
  have hVB := bu_VB hD1
  obtain ⟨⟨h1, h2, h3, h4, h5, h6, h7, h8⟩, h9, h10, h11, h12⟩ := id hD1
  have el := wi_on (n := z.length) (by omega)
  refine ⟨h1, fun _ => ?_, fun w1 => ?_⟩
  rotate_left
  · have w1 : ¬ 0 ≤ I1 B 3 := w1
    rw [h9, wi_le, el, wi_0] at w1
    omega
  refine ⟨h1, fun w2 => ?_, fun w2 => ?_⟩
  · refine ⟨⟨h1, h8⟩, ?_⟩
    have hq := h V1 cap1 T1 N1 (wv_u I1 B 3 (Int32.ofInt 0)) L1 R1 (n1 + 0) (s1 + 0) (bu_nil hD1 (fun j => ?_) ?_ ?_) (bu_G_t hG (bu_G_I (fun b j a1 a2 => ?_) (fun j a1 a2 => ?_)))
    rotate_left
    · rw [wv_u_no _ _ (fun y => hVB y.1)]
    · rw [wv_u_no _ _ (by omega)]
    · exact wv_u_at _ _ _ _
    · rw [wv_u_no _ _ (by omega)]
    · rw [wv_u_no _ _ (by omega)]
    have e1 : 0 + n1 = n1 + 0 := by omega
    have e2 : 0 + s1 = s1 + 0 := by omega
    rw [← e1, ← e2] at hq
    exact hq
  · refine ⟨⟨h1, h8⟩, ⟨rfl, rfl⟩, ⟨h1, h8⟩, ?_⟩
    have hq := h V1 cap1 T1 N1 (wv_u (wv_u I1 B 2 (Int32.ofInt 1)) B 3 (Int32.ofInt 0)) L1 R1 (n1 + 0) (s1 + 0) (bu_nil hD1 (fun j => ?_) ?_ ?_) (bu_G_t hG (bu_G_I (fun b j a1 a2 => ?_) (fun j a1 a2 => ?_)))
    rotate_left
    · rw [wv_u_no _ _ (fun y => hVB y.1), wv_u_no _ _ (fun y => hVB y.1)]
    · rw [wv_u_no _ _ (by omega), wv_u_no _ _ (by omega)]
    · exact wv_u_at _ _ _ _
    · rw [wv_u_no _ _ (by omega), wv_u_no _ _ (by omega)]
    · rw [wv_u_no _ _ (by omega), wv_u_no _ _ (by omega)]
    have e1 : 0 + n1 = n1 + 0 := by omega
    have e2 : 0 + s1 = s1 + 0 := by omega
    rw [← e1, ← e2] at hq
    exact hq
set_option maxRecDepth 100000 in
theorem wM_244 : ∃ cb ci np, pt_mt 244 = some (12, cb, 2, false, none, ci, np) := ⟨_, _, _, rfl⟩
set_option maxRecDepth 100000 in
set_option maxHeartbeats 4000000 in
theorem bu_setLength2 {sc : pt_Sc} {d : Nat} : wv_C wm_fx sc (d + 1 + 1 + 1 + 1 + 1) 244 bu_c245 := by
  rintro as T N I L R q ⟨B, V, cap, z, rfl, hD, hN, h⟩ w0 HR
  obtain ⟨cb, ci, np, hm⟩ := wM_244
  have hc245 : wv_C wm_fx sc (d + 1 + 1 + 1 + 1) 245 bu_c245 := wv_C_deep (by omega) (bu_setLength (d := d))
  refine wv_meth (hh := none) rfl (sp := wv_sp [(245, bu_c245)]) (hd := fun _ => none) (n := 0) (n1 := 300) hm zc_244 rfl (wv_sp_ok (fun q hq => by rw [List.mem_singleton.mp hq]; exact hc245)) ?_ (fun pc P h => by cases h) HR
  refine ⟨hD.1.1, B, V, cap, z, rfl, hD, hN, fun V1 cap1 T1 N1 I1 L1 R1 n1 s1 hD1 hG => ?_⟩
  have hq := h V1 cap1 T1 N1 I1 L1 R1 n1 s1 hD1 hG
  rw [← Nat.zero_add n1, ← Nat.zero_add s1] at hq
  exact hq
def bu_c304 : wv_c1 := fun as T N I L R q => ∃ (B V cap k c : Nat) (z : List Nat), as = [.ref B, .int (Int32.ofNat k)] ∧ bu_D T I R B V cap z ∧ z[k]? = some c ∧ q (.inl (some (.int (Int32.ofNat c)))) T N I L R 0 0
set_option maxRecDepth 100000 in
theorem wM_304 : ∃ cb ci np, pt_mt 304 = some (13, cb, 5, false, some .char, ci, np) := ⟨_, _, _, rfl⟩
set_option maxRecDepth 100000 in
set_option maxHeartbeats 4000000 in
theorem bu_charAt {sc : pt_Sc} {d : Nat} (hf : wt_fv sc) : wv_C wm_fx sc (d + 1 + 1 + 1) 304 bu_c304 := by
  rintro as T N I L R q ⟨B, V, cap, k, c, z, rfl, hD, hk, h⟩ w0 HR
  obtain ⟨cb, ci, np, hm⟩ := wM_304
  have hc40 : wv_C wm_fx sc (d + 1 + 1) 40 wt_c40 := wv_C_deep (by omega) (wt_checkIndex hf (d := d))
  refine wv_meth (hh := none) rfl (sp := wv_sp [(40, wt_c40)]) (hd := fun _ => none) (n := 0) (n1 := 300) hm zc_304 rfl (wv_sp_ok (fun q hq => by rw [List.mem_singleton.mp hq]; exact hc40)) ?_ (fun pc P h => by cases h) HR
  obtain ⟨⟨h1, h2, h3, h4, h5, h6, h7, h8⟩, h9, h10, h11, h12⟩ := hD
  have hkl : k < z.length := by
    rcases Nat.lt_or_ge k z.length with y | y
    · exact y
    · rw [List.getElem?_eq_none y] at hk
      cases hk
  obtain ⟨c1, c2⟩ := h12 k c hk
  refine ⟨h1, h1, V, h2, h1, _, _, h4, ?_⟩
  rw [h3, h9]
  have em : (if Int32.ofNat cap >>> ((0 : Int32) &&& 31) < Int32.ofNat z.length then Int32.ofNat cap >>> ((0 : Int32) &&& 31) else Int32.ofNat z.length) = Int32.ofNat z.length := if_neg (by rw [bu_sh, wi_lt, wi_on (by omega), wi_on (by omega)]; omega)
  refine ⟨k, z.length, (by first | rfl | exact congrArg (fun y => [Value.int (Int32.ofNat k), Value.int y]) em), hkl, by omega, ?_⟩
  refine ⟨fun w1 => absurd rfl w1, fun _ => ?_⟩
  refine ⟨3, _, Or.inr rfl, h4, pp_b (c := cap) (by omega) (by omega), ?_⟩
  rw [wi_onn (by omega), c1]
  have ech := wt_ch2 c c2
  have hq := h
  rw [← ech] at hq
  refine ⟨?_, hq⟩
  rw [ech]
  exact wt_ch c c2
set_option maxRecDepth 100000 in
theorem wM_303 : ∃ cb ci np, pt_mt 303 = some (12, cb, 2, false, some .char, ci, np) := ⟨_, _, _, rfl⟩
set_option maxRecDepth 100000 in
set_option maxHeartbeats 4000000 in
theorem bu_charAt2 {sc : pt_Sc} {d : Nat} (hf : wt_fv sc) : wv_C wm_fx sc (d + 1 + 1 + 1 + 1) 303 bu_c304 := by
  rintro as T N I L R q ⟨B, V, cap, k, c, z, rfl, hD, hk, h⟩ w0 HR
  obtain ⟨cb, ci, np, hm⟩ := wM_303
  have hc304 : wv_C wm_fx sc (d + 1 + 1 + 1) 304 bu_c304 := wv_C_deep (by omega) (bu_charAt hf (d := d))
  refine wv_meth (hh := none) rfl (sp := wv_sp [(304, bu_c304)]) (hd := fun _ => none) (n := 0) (n1 := 300) hm zc_303 rfl (wv_sp_ok (fun q hq => by rw [List.mem_singleton.mp hq]; exact hc304)) ?_ (fun pc P h => by cases h) HR
  have hc : c < 128 := (hD.2.2.2.2 k c hk).2
  refine ⟨hD.1.1, B, V, cap, k, c, z, rfl, hD, hk, ?_⟩
  exact ⟨wt_ch c hc, h⟩
