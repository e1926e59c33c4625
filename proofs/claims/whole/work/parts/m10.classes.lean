/-! ===== the class: the classes of a property ===== -/
/-- classes of the sequence k of the property at C: built, or to be built -/
def kc_S (q : wv_Q) (C k : Nat) (A : nt_A) (g : Nat) (T : wv_T) (N : Nat) (I : Nat → Nat → Int32) (L : Nat → Nat → Int64) (R : Nat → Nat → Option Nat) : Prop := ∃ B, R (C + 76 + 5 * k) 4 = some B ∧ 535 < N ∧ N < 1000000000 ∧ ((kc_B T R (C + 76 + 5 * k) B ∧ kc_res (C + 76 + 5 * k) B g A I ∧ q (.inl (some (.ref (C + 76 + 5 * k)))) T N I L R 0 0) ∨ (I (C + 76 + 5 * k) 8 = 0 ∧ kc_B T R (C + 76 + 5 * k) B ∧ kc_co (C + 76 + 5 * k) B g A (fun _ => q (.inl (some (.ref (C + 76 + 5 * k))))) T N I L R 0 0) ∨ (I (C + 76 + 5 * k) 8 = 0 ∧ T B = some (.inr (0, 0)) ∧ (T N = none → kc_co (C + 76 + 5 * k) N g A (fun _ => q (.inl (some (.ref (C + 76 + 5 * k))))) (wv_n T N (.inr (0, 4224))) (N + 1) (wv_z I N 0) (wv_z L N 0) (wv_u (wv_z R N none) (C + 76 + 5 * k) 4 (some N)) 1 (0 + 4224))))
def kc_c203 : wv_c1 := fun as T N I L R q => ∃ (C k w g : Nat) (A : nt_A), as = [.ref C, .int (Int32.ofNat k)] ∧ pp_D T R C ∧ C + 100 < 460 ∧ k < 4 ∧ kc_D T R (C + 76 + 5 * k) ∧ kc_Q T I L R (C + 76 + 5 * k) (C + 9 + k) A w g ∧ nt_n A ≤ 6 ∧ kc_S q C k A g T N I L R
set_option maxRecDepth 100000 in
theorem wM_203 : ∃ cb ci np, pt_mt 203 = some (8, cb, 2, false, some (.object "AssertionBench$Classes"), ci, np) := ⟨_, _, _, rfl⟩
set_option maxRecDepth 100000 in
set_option maxHeartbeats 4000000 in
theorem kc_classesOf {sc : pt_Sc} {d : Nat} : wv_C wm_fx sc (d + 1 + 1 + 1 + 1) 203 kc_c203 := by
  rintro as T N I L R q ⟨C, k, w, g, A, rfl, hP, hC, hk, hD, hQ, hA, B, hR, hN1, hN2, h⟩ w0 HR
  obtain ⟨cb, ci, np, hm⟩ := wM_203
  obtain ⟨p1, ⟨_, _, _, _, _, _, p5, p2⟩, _, ⟨k7, p6⟩, ⟨k8, p3⟩, hsq, hcl⟩ := hP
  have p4 := (hcl k hk).1
  have p7 := (hsq k (by omega)).1
  have ekn := wi_onn (n := k) (by omega)
  have hc204 : wv_C wm_fx sc (d + 1 + 1 + 1) 204 kc_c204 := wv_C_deep (by omega) (kc_isBuilt (d := d))
  have hc205 : wv_C wm_fx sc (d + 1 + 1 + 1) 205 kc_c205 := wv_C_deep (by omega) (kc_build (d := d))
  refine wv_meth (hh := none) rfl (sp := wv_sp [(204, kc_c204), (205, kc_c205)]) (hd := fun _ => none) (n := 0) (n1 := 300) hm zc_203 rfl (wv_sp_ok (fun q hq => by
    rcases List.mem_cons.mp hq with h | h
    · rw [h]; exact hc204
    rw [List.mem_singleton.mp h]; exact hc205)) ?_ (fun pc P h => by cases h) HR
  refine ⟨p1, _, p2, _, _, _, p3, pp_b (c := 4) hk (by omega), by rw [ekn]; exact p4, ?_⟩
  rcases h with ⟨hB, hres, h⟩ | ⟨h8, hB, h⟩ | ⟨h8, hB, h⟩
  · obtain ⟨K, mv, kd, u1, u2, u3, u4, u5, u6, u7, u8⟩ := hres
    refine ⟨hD.1, C + 76 + 5 * k, K, rfl, hD.1, u4, by omega, fun z => ?_, fun z => ?_⟩
    · have := u7.1
      omega
    · refine ⟨fun _ => ?_, fun z => absurd (by decide) z⟩
      refine ⟨p1, _, p2, _, _, _, p3, pp_b (c := 4) hk (by omega), by rw [ekn]; exact p4, ?_⟩
      exact h
  · refine ⟨hD.1, C + 76 + 5 * k, 0, rfl, hD.1, h8, by omega, fun z => ?_, fun z => by omega⟩
    refine ⟨fun z => absurd rfl z, fun _ => ?_⟩
    refine ⟨p1, _, p2, _, _, _, p3, pp_b (c := 4) hk (by omega), by rw [ekn]; exact p4, p1, _, p5, _, _, _, p6, pp_b (c := 67) (by omega) (by omega), by rw [ekn]; exact p7, ?_⟩
    refine ⟨hD.1, C + 76 + 5 * k, B, C + 9 + k, w, g, A, rfl, hD, hQ, hA, hR, hN1, hN2, Or.inl ⟨hB.2.1, hB.2.2.1, hB.2.2.2, fun I2 L2 y1 y2 y3 => ?_⟩⟩
    refine ⟨p1, _, p2, _, _, _, p3, pp_b (c := 4) hk (by omega), by rw [ekn]; exact p4, ?_⟩
    exact h I2 L2 y1 y2 y3
  · refine ⟨hD.1, C + 76 + 5 * k, 0, rfl, hD.1, h8, by omega, fun z => ?_, fun z => by omega⟩
    refine ⟨fun z => absurd rfl z, fun _ => ?_⟩
    refine ⟨p1, _, p2, _, _, _, p3, pp_b (c := 4) hk (by omega), by rw [ekn]; exact p4, p1, _, p5, _, _, _, p6, pp_b (c := 67) (by omega) (by omega), by rw [ekn]; exact p7, ?_⟩
    refine ⟨hD.1, C + 76 + 5 * k, B, C + 9 + k, w, g, A, rfl, hD, hQ, hA, hR, hN1, hN2, Or.inr ⟨hB, fun hNn I2 L2 y1 y2 y3 => ?_⟩⟩
    have eT : ∀ y v, T y = some v → wv_n T N (.inr (0, 4224)) y = some v := fun y v hy => by
      unfold wv_n
      rw [if_neg (fun z => by rw [z, hNn] at hy; cases hy)]
      exact hy
    have eR : ∀ y j, y < 460 → ¬ y = C + 76 + 5 * k → wv_u (wv_z R N none) (C + 76 + 5 * k) 4 (some N) y j = R y j := fun y j h1 h2 => by
      rw [wv_u_no _ _ (fun z => h2 z.1)]
      exact if_neg (by omega)
    refine ⟨eT _ _ p1, _, (eR _ _ (by omega) (by omega)).trans p2, _, _, _, eT _ _ p3, pp_b (c := 4) hk (by omega), by rw [ekn, eR _ _ (by omega) (by omega)]; exact p4, ?_⟩
    exact h hNn I2 L2 y1 y2 y3
