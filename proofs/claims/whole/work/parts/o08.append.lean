/-! ===== the class: StringBuilder, numbers and texts ===== -/
theorem bu_putl {T : wv_T} {I J : Nat → Nat → Int32} {R : Nat → Nat → Option Nat} {B V cap : Nat} {z w : List Nat} (h : bu_D T I R B V cap z) (hl : z.length + w.length ≤ cap) (hw : ∀ (k c : Nat), w[k]? = some c → c < 128) (j1 : ∀ j, ¬ (z.length ≤ j ∧ j < z.length + w.length) → J V j = I V j) (j2 : ∀ (k c : Nat), w[k]? = some c → J V (z.length + k) = Int32.ofNat c) (j3 : J B 1 = I B 1) (j4 : J B 3 = Int32.ofNat (z.length + w.length)) : bu_D T J R B V cap (z ++ w) := by
  obtain ⟨⟨h1, h2, h3, h4, h5, h6, h7, h8⟩, h9, h10, h11, h12⟩ := h
  refine ⟨⟨h1, h2, j3.trans h3, h4, h5, h6, h7, h8⟩, ?_, by simp; omega, fun k hk => ?_, fun k d hd => ?_⟩
  · rw [j4, List.length_append]
  · by_cases e : z.length ≤ k ∧ k < z.length + w.length
    · have hk2 : k - z.length < w.length := by omega
      have e2 := List.getElem?_eq_getElem hk2
      have e3 := j2 _ _ e2
      rw [show z.length + (k - z.length) = k by omega] at e3
      exact ⟨_, hw _ _ e2, e3⟩
    · rw [j1 k e]
      exact h11 k hk
  · by_cases e : z.length ≤ k
    · rw [List.getElem?_append_right e] at hd
      have e3 := j2 _ _ hd
      rw [show z.length + (k - z.length) = k by omega] at e3
      exact ⟨e3, hw _ _ hd⟩
    · rw [List.getElem?_append_left (by omega)] at hd
      rw [j1 k (by omega)]
      exact h12 k d hd
theorem tw_d_c {x : Nat} (hx : x < 1000) {k c : Nat} (h : (tw_d x)[k]? = some c) : c < 128 := by
  have h1 : c ∈ tw_d x := List.mem_of_getElem? h
  unfold tw_d at h1
  rcases List.mem_append.mp h1 with h1 | h1
  · split at h1
    · rw [List.mem_singleton.mp h1]
      omega
    · cases h1
  · rcases List.mem_append.mp h1 with h1 | h1
    · split at h1
      · rw [List.mem_singleton.mp h1]
        omega
      · cases h1
    · rw [List.mem_singleton.mp h1]
      omega
theorem bu_nb {B V cap V1 cap1 n1 s1 : Nat} {T : wv_T} {N : Nat} {I : Nat → Nat → Int32} {L : Nat → Nat → Int64} {R : Nat → Nat → Option Nat} {T1 : wv_T} {N1 : Nat} {I1 : Nat → Nat → Int32} {L1 : Nat → Nat → Int64} {R1 : Nat → Nat → Option Nat} (h : bu_G B V cap T N I L R V1 cap1 T1 N1 I1 L1 R1 n1 s1) (hc : cap1 < 100000) : N1 < N + 5600 := by
  obtain ⟨_, h2, h3, _⟩ := h
  omega
theorem bu_T_G {B V cap V1 cap1 n1 s1 : Nat} {T : wv_T} {N : Nat} {I : Nat → Nat → Int32} {L : Nat → Nat → Int64} {R : Nat → Nat → Option Nat} {T1 : wv_T} {N1 : Nat} {I1 : Nat → Nat → Int32} {L1 : Nat → Nat → Int64} {R1 : Nat → Nat → Option Nat} (h : bu_G B V cap T N I L R V1 cap1 T1 N1 I1 L1 R1 n1 s1) (hB : B < 1099511627776) (hV : V < 1099511627776) (hN : N1 < 1099511627776) (hT : bu_T T I) : bu_T T1 I1 := by
  obtain ⟨h1, _, _, _, _, h6, _⟩ := h
  obtain ⟨t1, t2, t3⟩ := hT
  exact ⟨h1 _ _ t1, h1 _ _ t2, fun r hr => ⟨(h6 _ _ (by omega) (by omega) (by omega)).trans (t3 r hr).1, (h6 _ _ (by omega) (by omega) (by omega)).trans (t3 r hr).2⟩⟩
def bu_c271 : wv_c1 := fun as T N I L R q => ∃ (B V cap x : Nat) (z : List Nat), as = [.ref B, .int (Int32.ofNat x)] ∧ bu_D T I R B V cap z ∧ bu_T T I ∧ x < 1000 ∧ z.length < 10000 ∧ N < 1000000000 ∧ ∀ V1 cap1 T1 N1 I1 L1 R1 n1 s1, bu_D T1 I1 R1 B V1 cap1 (z ++ tw_d x) → bu_G B V cap T N I L R V1 cap1 T1 N1 I1 L1 R1 n1 s1 → q (.inl (some (.ref B))) T1 N1 I1 L1 R1 n1 s1
set_option maxRecDepth 100000 in
theorem wM_271 : ∃ cb ci np, pt_mt 271 = some (13, cb, 4, false, some (.object "java/lang/AbstractStringBuilder"), ci, np) := ⟨_, _, _, rfl⟩
set_option maxRecDepth 100000 in
set_option maxHeartbeats 4000000 in
theorem bu_appendI {sc : pt_Sc} {d : Nat} : wv_C wm_fx sc (d + 1 + 1 + 1 + 1) 271 bu_c271 := by
  rintro as T N I L R q ⟨B, V, cap, x, z, rfl, hD, hT, hx, hz, hN, h⟩ w0 HR
  obtain ⟨cb, ci, np, hm⟩ := wM_271
  have hc250 : wv_C wm_fx sc (d + 1 + 1 + 1) 250 bu_c250b := wv_C_deep (by omega) (bu_ensureb (d := d))
  have hc255 : wv_C wm_fx sc (d + 1 + 1 + 1) 255 bu_c255 := wv_C_deep (by omega) (bu_isLatin (d := d))
  have hc272 : wv_C wm_fx sc (d + 1 + 1 + 1) 272 bu_c272 := wv_C_deep (by omega) (bu_stringSize (d := d))
  have hc273 : wv_C wm_fx sc (d + 1 + 1 + 1) 273 bu_c273 := wv_C_deep (by omega) (bu_getChars (d := d))
  refine wv_meth (hh := none) rfl (sp := wv_sp [(250, bu_c250b), (255, bu_c255), (272, bu_c272), (273, bu_c273)]) (hd := fun _ => none) (n := 0) (n1 := 300) hm zc_271 rfl (wv_sp_ok (fun q hq => by
    rcases List.mem_cons.mp hq with h | h
    · rw [h]; exact hc250
    rcases List.mem_cons.mp h with h | h
    · rw [h]; exact hc255
    rcases List.mem_cons.mp h with h | h
    · rw [h]; exact hc272
    rw [List.mem_singleton.mp h]; exact hc273)) ?_ (fun pc P h => by cases h) HR
  have l3 : tw_dl x ≤ 3 := by
    unfold tw_dl
    split
    · omega
    · split <;> omega
  have e9 := hD.2.1
  refine ⟨hD.1.1, x, rfl, hx, ?_⟩
  refine ⟨hD.1.1, B, V, cap, z.length + tw_dl x, z, (by first | rfl | exact congrArg (fun y => [Value.ref B, Value.int y]) (by rw [e9, wi_ona])), hD, by omega, hN, fun V1 cap1 T1 N1 I1 L1 R1 n1 s1 hD1 hle hG => ?_⟩
  rw [e9, wi_ona]
  have hVB := bu_VB hD1
  obtain ⟨⟨h1, h2, h3, h4, h5, h6, h7, h8⟩, h9, h10, h11, h12⟩ := id hD1
  have hN1 := bu_nb hG h6
  refine ⟨h1, B, rfl, h1, h3, ?_⟩
  refine ⟨fun w1 => absurd w1 (by decide), fun _ => ?_⟩
  refine ⟨h1, V1, h2, x, z.length + tw_dl x, V1, cap1, rfl, hx, bu_T_G hG h8 hD.1.2.2.2.2.2.2.1 (by omega) hT, h4, h7, by omega, hle, h6, ?_⟩
  refine ⟨⟨h1, h8⟩, ?_⟩
  have hq := h V1 cap1 T1 N1 (wv_u (bu_gc x (z.length + tw_dl x) V1 I1) B 3 (Int32.ofNat (z.length + tw_dl x))) L1 R1 (n1 + 0) (s1 + 0) (bu_putl hD1 (by rw [tw_d_l]; exact hle) (fun k c => tw_d_c hx) (fun j hj => ?_) (fun k c hk => ?_) ?_ ?_) (bu_G_t hG (bu_G_I (fun b j a1 a2 => ?_) (fun j a1 a2 => ?_)))
  rotate_left
  · rw [tw_d_l] at hj
    rw [wv_u_no _ _ (fun y => hVB y.1)]
    exact if_neg (by omega)
  · have hkl : k < tw_dl x := by
      rw [← tw_d_l]
      rcases Nat.lt_or_ge k (tw_d x).length with y | y
      · exact y
      · rw [List.getElem?_eq_none y] at hk
        cases hk
    rw [wv_u_no _ _ (fun y => hVB y.1)]
    unfold bu_gc
    rw [if_pos ⟨rfl, by omega, by omega⟩, show z.length + k - (z.length + tw_dl x - tw_dl x) = k by omega, List.getD_eq_getElem?_getD, hk]
    rfl
  · rw [wv_u_no _ _ (by omega)]
    exact if_neg (fun y => hVB y.1.symm)
  · rw [wv_u_at, tw_d_l]
  · rw [wv_u_no _ _ (by omega)]
    exact if_neg (fun y => a2 y.1)
  · rw [wv_u_no _ _ (by omega)]
    exact if_neg (fun y => hVB y.1.symm)
  have e1 : 0 + 0 + n1 + 0 + 0 = n1 + 0 := by omega
  have e2 : 0 + 0 + s1 + 0 + 0 = s1 + 0 := by omega
  rw [← e1, ← e2] at hq
  exact hq
set_option maxRecDepth 100000 in
theorem wM_270 : ∃ cb ci np, pt_mt 270 = some (12, cb, 2, false, some (.object "java/lang/StringBuilder"), ci, np) := ⟨_, _, _, rfl⟩
set_option maxRecDepth 100000 in
set_option maxHeartbeats 4000000 in
theorem bu_appendI2 {sc : pt_Sc} {d : Nat} : wv_C wm_fx sc (d + 1 + 1 + 1 + 1 + 1) 270 bu_c271 := by
  rintro as T N I L R q ⟨B, V, cap, x, z, rfl, hD, hT, hx, hz, hN, h⟩ w0 HR
  obtain ⟨cb, ci, np, hm⟩ := wM_270
  have hc271 : wv_C wm_fx sc (d + 1 + 1 + 1 + 1) 271 bu_c271 := wv_C_deep (by omega) (bu_appendI (d := d))
  refine wv_meth (hh := none) rfl (sp := wv_sp [(271, bu_c271)]) (hd := fun _ => none) (n := 0) (n1 := 300) hm zc_270 rfl (wv_sp_ok (fun q hq => by rw [List.mem_singleton.mp hq]; exact hc271)) ?_ (fun pc P h => by cases h) HR
  refine ⟨hD.1.1, B, V, cap, x, z, rfl, hD, hT, hx, hz, hN, fun V1 cap1 T1 N1 I1 L1 R1 n1 s1 hD1 hG => ?_⟩
  have hq := h V1 cap1 T1 N1 I1 L1 R1 n1 s1 hD1 hG
  rw [← Nat.zero_add n1, ← Nat.zero_add s1] at hq
  exact hq
def bu_c298 : wv_c1 := fun as T N I L R q => ∃ (C B V cap x : Nat) (z : List Nat), as = [.ref C, .int (Int32.ofNat x)] ∧ T C = some (.inl 10) ∧ R C 6 = some B ∧ C < N ∧ ¬ C = B ∧ bu_D T I R B V cap z ∧ bu_T T I ∧ x < 1000 ∧ z.length + 1 < 10000 ∧ N + 6000 < 1000000000 ∧ ∀ V1 cap1 T1 N1 I1 L1 R1 n1 s1, bu_D T1 I1 R1 B V1 cap1 (z ++ tw_n x) → bu_G B V cap T N I L R V1 cap1 T1 N1 I1 L1 R1 n1 s1 → q (.inl none) T1 N1 I1 L1 R1 n1 s1
set_option maxRecDepth 100000 in
theorem wM_298 : ∃ cb ci np, pt_mt 298 = some (11, cb, 2, false, none, ci, np) := ⟨_, _, _, rfl⟩
set_option maxRecDepth 100000 in
set_option maxHeartbeats 4000000 in
theorem bu_writeNumber {sc : pt_Sc} {d : Nat} : wv_C wm_fx sc (d + 1 + 1 + 1 + 1 + 1 + 1) 298 bu_c298 := by
  rintro as T N I L R q ⟨C, B, V, cap, x, z, rfl, hC, hR, hCN, hCB, hD, hT, hx, hz, hN, h⟩ w0 HR
  obtain ⟨cb, ci, np, hm⟩ := wM_298
  have hc299 : wv_C wm_fx sc (d + 1 + 1 + 1 + 1 + 1) 299 bu_c300 := wv_C_deep (by omega) (bu_appendC2 (d := d))
  have hc270 : wv_C wm_fx sc (d + 1 + 1 + 1 + 1 + 1) 270 bu_c271 := wv_C_deep (by omega) (bu_appendI2 (d := d))
  refine wv_meth (hh := none) rfl (sp := wv_sp [(299, bu_c300), (270, bu_c271)]) (hd := fun _ => none) (n := 0) (n1 := 300) hm zc_298 rfl (wv_sp_ok (fun q hq => by
    rcases List.mem_cons.mp hq with h | h
    · rw [h]; exact hc299
    rw [List.mem_singleton.mp h]; exact hc270)) ?_ (fun pc P h => by cases h) HR
  refine ⟨hC, B, hR, hD.1.1, B, V, cap, 32, z, rfl, hD, by omega, by omega, by omega, fun V1 cap1 T1 N1 I1 L1 R1 n1 s1 hD1 hG => ?_⟩
  have hN1 := bu_nb hG hD1.1.2.2.2.2.2.1
  refine ⟨hG.1 _ _ hC, B, (hG.2.2.2.2.2.2.2.2 C 6 (Or.inl hCN) (fun y => hCB y.1)).trans hR, hD1.1.1, B, V1, cap1, x, z ++ [32], rfl, hD1, bu_T_G hG hD.1.2.2.2.2.2.2.2 hD.1.2.2.2.2.2.2.1 (by omega) hT, hx, by simp; omega, by omega, fun V2 cap2 T2 N2 I2 L2 R2 n2 s2 hD2 hG2 => ?_⟩
  rw [List.append_assoc] at hD2
  have hq := h V2 cap2 T2 N2 I2 L2 R2 (n1 + n2) (s1 + s2) hD2 (bu_G_t hG hG2)
  rw [← Nat.zero_add n1, ← Nat.zero_add s1] at hq
  exact hq
