/-! ===== the class: StringBuilder, a sign more ===== -/
/-- a StringBuilder B with its row V of cap bytes holds the signs z -/
def bu_D (T : wv_T) (I : Nat → Nat → Int32) (R : Nat → Nat → Option Nat) (B V cap : Nat) (z : List Nat) : Prop := (T B = some (.inl 13) ∧ R B 0 = some V ∧ I B 1 = 0 ∧ T V = some (.inr (3, cap)) ∧ 16 ≤ cap ∧ cap < 100000 ∧ V < 1099511627776 ∧ B < 1099511627776) ∧ I B 3 = Int32.ofNat z.length ∧ z.length ≤ cap ∧ bu_b I V cap ∧ ∀ k c, z[k]? = some c → I V k = Int32.ofNat c ∧ c < 128
/-- what has changed, and what was made -/
def bu_G (B V cap : Nat) (T : wv_T) (N : Nat) (I : Nat → Nat → Int32) (L : Nat → Nat → Int64) (R : Nat → Nat → Option Nat) (V1 cap1 : Nat) (T1 : wv_T) (N1 : Nat) (I1 : Nat → Nat → Int32) (L1 : Nat → Nat → Int64) (R1 : Nat → Nat → Option Nat) (n1 s1 : Nat) : Prop := (∀ y v, T y = some v → T1 y = some v) ∧ N1 = N + n1 ∧ 18 * n1 + cap ≤ cap1 ∧ s1 + 2 * cap ≤ 2 * cap1 ∧ (V1 = V ∨ (N ≤ V1 ∧ V1 < N1)) ∧ (∀ c j, ¬ c = B → ¬ c = V → (c < N ∨ N1 ≤ c) → I1 c j = I c j) ∧ (∀ j, ¬ j = 2 → ¬ j = 3 → I1 B j = I B j) ∧ (∀ c j, (c < N ∨ N1 ≤ c) → L1 c j = L c j) ∧ ∀ c j, (c < N ∨ N1 ≤ c) → ¬ (c = B ∧ j = 0) → R1 c j = R c j
theorem bu_VB {T : wv_T} {I : Nat → Nat → Int32} {R : Nat → Nat → Option Nat} {B V cap : Nat} {z : List Nat} (h : bu_D T I R B V cap z) : ¬ V = B := fun e => by
  obtain ⟨⟨h1, _, _, h4, _⟩, _⟩ := h
  rw [e, h1] at h4
  cases h4
theorem bu_G_I {B V cap : Nat} {T : wv_T} {N : Nat} {I : Nat → Nat → Int32} {L : Nat → Nat → Int64} {R : Nat → Nat → Option Nat} {J : Nat → Nat → Int32} (h : ∀ c j, ¬ c = B → ¬ c = V → J c j = I c j) (g : ∀ j, ¬ j = 2 → ¬ j = 3 → J B j = I B j) : bu_G B V cap T N I L R V cap T N J L R 0 0 := ⟨fun _ _ e => e, rfl, by omega, by omega, Or.inl rfl, fun c j a b _ => h c j a b, g, fun _ _ _ => rfl, fun _ _ _ _ => rfl⟩
theorem bu_G_t {B V cap V1 cap1 V2 cap2 n1 s1 n2 s2 : Nat} {T : wv_T} {N : Nat} {I : Nat → Nat → Int32} {L : Nat → Nat → Int64} {R : Nat → Nat → Option Nat} {T1 : wv_T} {N1 : Nat} {I1 : Nat → Nat → Int32} {L1 : Nat → Nat → Int64} {R1 : Nat → Nat → Option Nat} {T2 : wv_T} {N2 : Nat} {I2 : Nat → Nat → Int32} {L2 : Nat → Nat → Int64} {R2 : Nat → Nat → Option Nat} (h : bu_G B V cap T N I L R V1 cap1 T1 N1 I1 L1 R1 n1 s1) (g : bu_G B V1 cap1 T1 N1 I1 L1 R1 V2 cap2 T2 N2 I2 L2 R2 n2 s2) : bu_G B V cap T N I L R V2 cap2 T2 N2 I2 L2 R2 (n1 + n2) (s1 + s2) := by
  obtain ⟨h1, h2, h3, h4, h5, h6, h7, h8, h9⟩ := h
  obtain ⟨g1, g2, g3, g4, g5, g6, g7, g8, g9⟩ := g
  exact ⟨fun y v e => g1 y v (h1 y v e), by omega, by omega, by omega, by omega, fun c j a b d => (g6 c j a (by omega) (by omega)).trans (h6 c j a b (by omega)), fun j a b => (g7 j a b).trans (h7 j a b), fun c j a => (g8 c j (by omega)).trans (h8 c j (by omega)), fun c j a b => (g9 c j (by omega) b).trans (h9 c j (by omega) b)⟩
def bu_c250b : wv_c1 := fun as T N I L R q => ∃ (B V cap mn : Nat) (z : List Nat), as = [.ref B, .int (Int32.ofNat mn)] ∧ bu_D T I R B V cap z ∧ mn < 40000 ∧ N < 1000000000 ∧ ∀ V1 cap1 T1 N1 I1 L1 R1 n1 s1, bu_D T1 I1 R1 B V1 cap1 z → mn ≤ cap1 → bu_G B V cap T N I L R V1 cap1 T1 N1 I1 L1 R1 n1 s1 → q (.inl none) T1 N1 I1 L1 R1 n1 s1
theorem bu_ensureb {sc : pt_Sc} {d : Nat} : wv_C wm_fx sc (d + 1 + 1 + 1) 250 bu_c250b := by
  rintro as T N I L R q ⟨B, V, cap, mn, z, rfl, hD, hmn, hN, h⟩ w0 HR
  have hVB := bu_VB hD
  obtain ⟨⟨h1, h2, h3, h4, h5, h6, h7, h8⟩, h9, h10, h11, h12⟩ := id hD
  refine bu_ensure _ T N I L R q ⟨B, V, cap, mn, rfl, h1, h2, h3, h4, h6, by omega, h7, h8, hN, h11, fun hle => ?_, fun hlt hNn => ?_⟩ w0 HR
  · exact h V cap T N I L R 0 0 hD hle (bu_G_I (fun _ _ _ _ => rfl) (fun _ _ _ => rfl))
  have hg : mn ≤ bu_g cap mn ∧ 2 * cap + 2 ≤ bu_g cap mn ∧ bu_g cap mn < 100000 := by
    unfold bu_g
    split <;> omega
  have hBN : ¬ B = N := fun e => by
    rw [e, hNn] at h1
    cases h1
  have hVN : ¬ V = N := fun e => by
    rw [e, hNn] at h4
    cases h4
  have eo : ∀ c j, ¬ c = N → wv_cp (wv_z I N 0) V 0 N 0 cap c j = I c j := fun c j hc => by
    show (if c = N ∧ _ then _ else wv_z I N 0 c j) = _
    rw [if_neg (fun y => hc y.1)]
    exact if_neg hc
  have ei : ∀ j, j < cap → wv_cp (wv_z I N 0) V 0 N 0 cap N j = I V j := fun j hj => by
    show (if N = N ∧ 0 ≤ j ∧ j < 0 + cap then wv_z I N 0 V (0 + (j - 0)) else _) = _
    rw [if_pos ⟨rfl, Nat.zero_le _, by omega⟩, Nat.zero_add, Nat.sub_zero]
    exact if_neg hVN
  have ej : ∀ j, ¬ j < cap → wv_cp (wv_z I N 0) V 0 N 0 cap N j = 0 := fun j hj => by
    show (if N = N ∧ 0 ≤ j ∧ j < 0 + cap then _ else wv_z I N 0 N j) = _
    rw [if_neg (by omega)]
    exact if_pos rfl
  refine h N (bu_g cap mn) _ _ _ _ _ _ _ ⟨⟨(if_neg hBN).trans h1, wv_u_at _ _ _ _, (eo _ _ hBN).trans h3, if_pos rfl, by omega, by omega, by omega, h8⟩, (eo _ _ hBN).trans h9, by omega, fun k hk => ?_, fun k c hkc => ?_⟩ hg.1 ⟨fun y v e => (if_neg (fun e2 => by rw [e2, hNn] at e; cases e)).trans e, rfl, by omega, by omega, Or.inr ⟨Nat.le_refl _, Nat.lt_succ_self _⟩, fun c j a b e => eo c j (by omega), fun j _ _ => eo _ _ hBN, fun c j a => if_neg (by omega), fun c j a b => ?_⟩
  · by_cases hc : k < cap
    · rw [ei k hc]
      exact h11 k hc
    · rw [ej k hc]
      exact ⟨0, by omega, rfl⟩
  · have hk : k < z.length := by
      rcases Nat.lt_or_ge k z.length with y | y
      · exact y
      · rw [List.getElem?_eq_none y] at hkc
        cases hkc
    rw [ei k (by omega)]
    exact h12 k c hkc
  · rw [wv_u_no _ _ b]
    exact if_neg (by omega)
/-- one sign stored -/
theorem bu_put {T : wv_T} {I J : Nat → Nat → Int32} {R : Nat → Nat → Option Nat} {B V cap c : Nat} {z : List Nat} (h : bu_D T I R B V cap z) (hl : z.length + 1 ≤ cap) (hc : c < 128) (hJ : ∀ b j, J b j = if b = V ∧ j = z.length then Int32.ofNat c else if b = B ∧ j = 3 then Int32.ofNat (z.length + 1) else I b j) : bu_D T J R B V cap (z ++ [c]) := by
  have hVB := bu_VB h
  obtain ⟨⟨h1, h2, h3, h4, h5, h6, h7, h8⟩, h9, h10, h11, h12⟩ := h
  have hV : ∀ j, ¬ j = z.length → J V j = I V j := fun j hj => by
    rw [hJ, if_neg (fun y => hj y.2), if_neg (fun y => hVB y.1)]
  have hV2 : J V z.length = Int32.ofNat c := by
    rw [hJ, if_pos ⟨rfl, rfl⟩]
  refine ⟨⟨h1, h2, ?_, h4, h5, h6, h7, h8⟩, ?_, by simp; omega, fun k hk => ?_, fun k d hd => ?_⟩
  · rw [hJ, if_neg (fun y => hVB y.1.symm), if_neg (by omega)]
    exact h3
  · rw [hJ, if_neg (fun y => hVB y.1.symm), if_pos ⟨rfl, rfl⟩]
    simp
  · by_cases e : k = z.length
    · rw [e, hV2]
      exact ⟨c, hc, rfl⟩
    · rw [hV k e]
      exact h11 k hk
  · by_cases e : k = z.length
    · subst e
      rw [List.getElem?_append_right (Nat.le_refl _), Nat.sub_self] at hd
      have e2 : c = d := by
        injection hd
      rw [hV2, ← e2]
      exact ⟨rfl, hc⟩
    · have hk : k < z.length := by
        rcases Nat.lt_or_ge k z.length with y | y
        · exact y
        · rw [List.getElem?_eq_none (by simp; omega)] at hd
          cases hd
      rw [List.getElem?_append_left hk] at hd
      rw [hV k e]
      exact h12 k d hd
def bu_c301 : wv_c1 := fun as T N I L R q => ∃ c : Nat, as = [.int (Int32.ofNat c)] ∧ c < 128 ∧ q (.inl (some (.int 1))) T N I L R 0 0
set_option maxRecDepth 100000 in
theorem wM_301 : ∃ cb ci np, pt_mt 301 = some (18, cb, 1, false, some .boolean, ci, np) := ⟨_, _, _, rfl⟩
set_option maxRecDepth 100000 in
set_option maxHeartbeats 4000000 in
theorem bu_canEncode {sc : pt_Sc} {d : Nat} : wv_C wm_fx sc (d + 1) 301 bu_c301 := by
  rintro as T N I L R q ⟨c, rfl, hc, h⟩ w0 HR
  obtain ⟨cb, ci, np, hm⟩ := wM_301
  refine wv_meth (hh := none) rfl (sp := fun _ _ _ _ _ _ _ _ => False) (hd := fun _ => none) (n := 0) (n1 := 300) hm zc_301 rfl (fun k as T N I L R q h => by cases h) ?_ (fun pc P h => by cases h) HR
  refine ⟨fun w1 => ?_, fun _ => ⟨⟨rfl, rfl⟩, h⟩⟩
  have w1 : Int32.ofNat 255 < Int32.ofNat c := w1
  rw [wi_lt, wi_on (by omega), wi_on (by omega)] at w1
  omega
theorem bu_nar : ∀ m, m < 128 → vp_nar .byte ((Int32.ofNat m).toInt8.toInt32) = Int32.ofNat m := by decide +kernel
def bu_c300 : wv_c1 := fun as T N I L R q => ∃ (B V cap c : Nat) (z : List Nat), as = [.ref B, .int (Int32.ofNat c)] ∧ bu_D T I R B V cap z ∧ c < 128 ∧ z.length < 10000 ∧ N < 1000000000 ∧ ∀ V1 cap1 T1 N1 I1 L1 R1 n1 s1, bu_D T1 I1 R1 B V1 cap1 (z ++ [c]) → bu_G B V cap T N I L R V1 cap1 T1 N1 I1 L1 R1 n1 s1 → q (.inl (some (.ref B))) T1 N1 I1 L1 R1 n1 s1
set_option maxRecDepth 100000 in
theorem wM_300 : ∃ cb ci np, pt_mt 300 = some (13, cb, 2, false, some (.object "java/lang/AbstractStringBuilder"), ci, np) := ⟨_, _, _, rfl⟩
set_option maxRecDepth 100000 in
set_option maxHeartbeats 4000000 in
theorem bu_appendC {sc : pt_Sc} {d : Nat} : wv_C wm_fx sc (d + 1 + 1 + 1 + 1) 300 bu_c300 := by
  rintro as T N I L R q ⟨B, V, cap, c, z, rfl, hD, hc, hz, hN, h⟩ w0 HR
  obtain ⟨cb, ci, np, hm⟩ := wM_300
  have hc250 : wv_C wm_fx sc (d + 1 + 1 + 1) 250 bu_c250b := wv_C_deep (by omega) (bu_ensureb (d := d))
  have hc255 : wv_C wm_fx sc (d + 1 + 1 + 1) 255 bu_c255 := wv_C_deep (by omega) (bu_isLatin (d := d))
  have hc301 : wv_C wm_fx sc (d + 1 + 1 + 1) 301 bu_c301 := wv_C_deep (by omega) (bu_canEncode (d := d))
  refine wy_meth (hh := none) rfl (sp := wv_sp [(250, bu_c250b), (255, bu_c255), (301, bu_c301)]) (hd := fun _ => none) (n := 0) (n1 := 300) hm zc_300 rfl (wv_sp_ok (fun q hq => by
    rcases List.mem_cons.mp hq with h | h
    · rw [h]; exact hc250
    rcases List.mem_cons.mp h with h | h
    · rw [h]; exact hc255
    rw [List.mem_singleton.mp h]; exact hc301)) ?_ (fun pc P h => by cases h) HR
  refine ⟨hD.1.1, hD.1.1, B, V, cap, z.length + 1, z, (by first | rfl | exact congrArg (fun y => [Value.ref B, Value.int y]) (by rw [hD.2.1, wq_4s])), hD, by omega, hN, fun V1 cap1 T1 N1 I1 L1 R1 n1 s1 hD1 hle hG => ?_⟩
  have hVB := bu_VB hD1
  obtain ⟨⟨h1, h2, h3, h4, h5, h6, h7, h8⟩, h9, h10, h11, h12⟩ := id hD1
  refine ⟨h1, B, rfl, h1, h3, ?_⟩
  refine ⟨fun w1 => absurd w1 (by decide), fun _ => ?_⟩
  refine ⟨c, rfl, hc, ?_⟩
  refine ⟨fun w1 => absurd w1 (by decide), fun _ => ?_⟩
  refine ⟨h1, V1, h2, h1, ⟨h1, h8⟩, ?_⟩
  refine ⟨_, h4, by rw [h9]; exact pp_b (c := cap1) (by omega) (by omega), h7, ?_⟩
  have hq := h V1 cap1 T1 N1 (wv_u (wv_u I1 B 3 (I1 B 3 + Int32.ofInt 1)) V1 (I1 B 3).toNatClampNeg (vp_nar .byte ((Int32.ofNat c).toInt8.toInt32))) L1 R1 (n1 + 0) (s1 + 0) (bu_put hD1 hle hc (fun b j => ?_)) (bu_G_t hG (bu_G_I (fun b j a1 a2 => ?_) (fun j a1 a2 => ?_)))
  rotate_left
  · rw [h9, wi_onn (by omega), bu_nar c hc, wq_4s]
    by_cases e : b = V1 ∧ j = z.length
    · obtain ⟨rfl, rfl⟩ := e
      rw [wv_u_at, if_pos ⟨rfl, rfl⟩]
    · rw [wv_u_no _ _ e, if_neg e]
      rfl
  · rw [wv_u_no _ _ (by omega), wv_u_no _ _ (by omega)]
  · rw [wv_u_no _ _ (fun y => hVB y.1.symm), wv_u_no _ _ (by omega)]
  have e1 : 0 + n1 + 0 + 0 = n1 + 0 := by omega
  have e2 : 0 + s1 + 0 + 0 = s1 + 0 := by omega
  rw [← e1, ← e2] at hq
  exact hq
set_option maxRecDepth 100000 in
theorem wM_299 : ∃ cb ci np, pt_mt 299 = some (12, cb, 2, false, some (.object "java/lang/StringBuilder"), ci, np) := ⟨_, _, _, rfl⟩
set_option maxRecDepth 100000 in
set_option maxHeartbeats 4000000 in
theorem bu_appendC2 {sc : pt_Sc} {d : Nat} : wv_C wm_fx sc (d + 1 + 1 + 1 + 1 + 1) 299 bu_c300 := by
  rintro as T N I L R q ⟨B, V, cap, c, z, rfl, hD, hc, hz, hN, h⟩ w0 HR
  obtain ⟨cb, ci, np, hm⟩ := wM_299
  have hc300 : wv_C wm_fx sc (d + 1 + 1 + 1 + 1) 300 bu_c300 := wv_C_deep (by omega) (bu_appendC (d := d))
  refine wv_meth (hh := none) rfl (sp := wv_sp [(300, bu_c300)]) (hd := fun _ => none) (n := 0) (n1 := 300) hm zc_299 rfl (wv_sp_ok (fun q hq => by rw [List.mem_singleton.mp hq]; exact hc300)) ?_ (fun pc P h => by cases h) HR
  refine ⟨hD.1.1, B, V, cap, c, z, rfl, hD, hc, hz, hN, fun V1 cap1 T1 N1 I1 L1 R1 n1 s1 hD1 hG => ?_⟩
  have hq := h V1 cap1 T1 N1 I1 L1 R1 n1 s1 hD1 hG
  rw [← Nat.zero_add n1, ← Nat.zero_add s1] at hq
  exact hq
