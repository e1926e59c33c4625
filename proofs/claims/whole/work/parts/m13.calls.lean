/-! ===== the class: classes, classOf, classBehind, kind ===== -/
theorem kc_S_m {q1 q2 : wv_Q} {C k g : Nat} {A : nt_A} {T : wv_T} {N : Nat} {I : Nat → Nat → Int32} {L : Nat → Nat → Int64} {R : Nat → Nat → Option Nat} (hD : kc_D T R (C + 76 + 5 * k)) (h : kc_S q1 C k A g T N I L R) (hq : ∀ T1 N1 I1 L1 R1 nc ns B, kc_D T1 R1 (C + 76 + 5 * k) → kc_B T1 R1 (C + 76 + 5 * k) B → kc_res (C + 76 + 5 * k) B g A I1 → (∀ y v, T y = some v → T1 y = some v) → (∀ c j, T c = some (.inr (0, 24)) → I1 c j = I c j) → q1 (.inl (some (.ref (C + 76 + 5 * k)))) T1 N1 I1 L1 R1 nc ns → q2 (.inl (some (.ref (C + 76 + 5 * k)))) T1 N1 I1 L1 R1 nc ns) : kc_S q2 C k A g T N I L R := by
  obtain ⟨B, hR, hN1, hN2, h⟩ := h
  have fr : ∀ B2 (I0 I2 : Nat → Nat → Int32) c j, (T B2 = some (.inr (0, 4224)) ∨ T B2 = none) → kc_bF (C + 76 + 5 * k) B2 I0 I2 → T c = some (.inr (0, 24)) → I2 c j = I0 c j := fun B2 I0 I2 c j hB hF hc => by
    obtain ⟨d0, _, _, _, _, t1, t2, t3, t4, _⟩ := hD
    refine hF c j (fun z => ?_) (fun z => ?_) (fun z => ?_)
    · rw [z.1, d0] at hc
      cases hc
    · rcases (by omega : c = C + 76 + 5 * k + 2 ∨ c = C + 76 + 5 * k + 3 ∨ c = C + 76 + 5 * k + 4) with e | e | e
      · rw [e, t2] at hc
        cases hc
      · rw [e, t3] at hc
        cases hc
      · rw [e, t4] at hc
        cases hc
    · rw [z] at hc
      rcases hB with e | e
      · rw [e] at hc
        cases hc
      · rw [e] at hc
        cases hc
  refine ⟨B, hR, hN1, hN2, ?_⟩
  rcases h with ⟨h1, h2, h3⟩ | ⟨h1, h2, h3⟩ | ⟨h1, h2, h3⟩
  · exact Or.inl ⟨h1, h2, hq _ _ _ _ _ _ _ B hD h1 h2 (fun _ _ e => e) (fun _ _ _ => rfl) h3⟩
  · exact Or.inr (Or.inl ⟨h1, h2, fun I2 L2 y1 y2 y3 => hq _ _ _ _ _ _ _ B hD h2 y1 (fun _ _ e => e) (fun c j e => fr B I I2 c j (Or.inl h2.2.1) y2 e) (h3 I2 L2 y1 y2 y3)⟩)
  · refine Or.inr (Or.inr ⟨h1, h2, fun hNn I2 L2 y1 y2 y3 => ?_⟩)
    refine hq _ _ _ _ _ _ _ N (kc_D_T hNn hD) ⟨wv_u_at _ _ _ _, if_pos rfl, hN1, by omega⟩ y1 (fun y v e => ?_) (fun c j e => ?_) (h3 hNn I2 L2 y1 y2 y3)
    · unfold wv_n
      rw [if_neg (fun z => by rw [z, hNn] at e; cases e)]
      exact e
    · rw [fr N _ I2 c j (Or.inr hNn) y2 e]
      exact if_neg (fun z => by rw [z, hNn] at e; cases e)
/-- what the calls about classes are given, and what they answer with -/
def kc_I (T : wv_T) (R : Nat → Nat → Option Nat) (C : Nat → Nat) : Prop := (∃ k1, T 27 = some (.inr (k1 + 4, 2))) ∧ ∀ p, p < 2 → R 27 p = some (C p) ∧ pp_D T R (C p) ∧ C p + 100 < 460
def kc_W (q q1 : wv_Q) (C : Nat) (A : nt_A) (w g : Nat) (T : wv_T) (N : Nat) (I : Nat → Nat → Int32) (L : Nat → Nat → Int64) (R : Nat → Nat → Option Nat) : Prop := (I C 9 = 0 → q (.inr 3) T N I L R 1 6) ∧ (¬ I C 9 = 0 → (¬ I (C + 9 + 0) 2 ≤ kk_s → q (.inr 1) T N I L R 1 6) ∧ (I (C + 9 + 0) 2 ≤ kk_s → kc_D T R (C + 76 + 5 * 0) ∧ kc_Q T I L R (C + 76 + 5 * 0) (C + 9 + 0) A w g ∧ nt_n A ≤ 6 ∧ kc_S q1 C 0 A g T N I L R))
def kc_c200 : wv_c1 := fun as T N I L R q => ∃ (pi : Int32) (C : Nat → Nat) (A : Nat → nt_A) (w g : Nat → Nat), as = [.ref 0, .int pi] ∧ kc_I T R C ∧ (rw_bp pi → q (.inr 2) T N I L R 1 6) ∧ ∀ p, p < 2 → pi = Int32.ofNat p → kc_W q (fun _ T1 N1 I1 L1 R1 nc ns => q (.inl (some (.int (I1 (C p + 76 + 5 * 0) 8)))) T1 N1 I1 L1 R1 nc ns) (C p) (A p) (w p) (g p) T N I L R
set_option maxRecDepth 100000 in
theorem wM_200 : ∃ cb ci np, pt_mt 200 = some (1, cb, 2, false, some .int, ci, np) := ⟨_, _, _, rfl⟩
set_option maxRecDepth 100000 in
set_option maxHeartbeats 4000000 in
theorem kc_classes {sc : pt_Sc} {d : Nat} : wv_C wm_fx sc (d + 1 + 1 + 1 + 1 + 1) 200 kc_c200 := by
  rintro as T N I L R q ⟨pi, C, A, w, g, rfl, ⟨t27, hR⟩, hb, h⟩ w0 HR
  obtain ⟨cb, ci, np, hm⟩ := wM_200
  have hc201 : wv_C wm_fx sc (d + 1 + 1 + 1 + 1) 201 kc_c201 := wv_C_deep (by omega) (kc_checkClasses (d := d))
  have hc203 : wv_C wm_fx sc (d + 1 + 1 + 1 + 1) 203 kc_c203 := wv_C_deep (by omega) (kc_classesOf (d := d))
  have hc214 : wv_C wm_fx sc (d + 1 + 1 + 1 + 1) 214 kc_c214 := wv_C_deep (by omega) (kc_count (d := d))
  refine wv_meth (hh := none) rfl (sp := wv_sp [(201, kc_c201), (203, kc_c203), (214, kc_c214)]) (hd := fun _ => none) (n := 0) (n1 := 300) hm zc_200 rfl (wv_sp_ok (fun q hq => by
    rcases List.mem_cons.mp hq with h | h
    · rw [h]; exact hc201
    rcases List.mem_cons.mp h with h | h
    · rw [h]; exact hc203
    rw [List.mem_singleton.mp h]; exact hc214)) ?_ (fun pc P h => by cases h) HR
  refine ⟨pi, C, rfl, t27, fun p hp => ⟨(hR p hp).1, (hR p hp).2.1⟩, fun z => ⟨Or.inl rfl, hb z⟩, fun p hp e => ?_⟩
  obtain ⟨h1, h2⟩ := h p hp e
  obtain ⟨q1, q2, q3⟩ := hR p hp
  obtain ⟨k1, t27⟩ := t27
  refine ⟨fun y => ⟨Or.inl rfl, h1 y⟩, fun y => ⟨fun z => ⟨Or.inl rfl, (h2 y).1 z⟩, fun z => ?_⟩⟩
  obtain ⟨u1, u2, u3, u4⟩ := (h2 y).2 z
  refine ⟨_, _, _, t27, by rw [e]; exact pp_b (c := 2) hp (by omega), by rw [e, wi_onn (by omega)]; exact q1, ?_⟩

  refine ⟨q2.1, C p, 0, w p, g p, A p, rfl, q2, q3, by omega, u1, u2, u3, kc_S_m u1 u4 (fun T1 N1 I1 L1 R1 nc ns B y1 y2 y3 y4 y5 y6 => ?_)⟩
  refine ⟨y1.1, C p + 76 + 5 * 0, rfl, y1.1, ?_⟩
  show q (.inl (some (.int (I1 (C p + 76 + 5 * 0) 8)))) T1 N1 I1 L1 R1 (0 + 0 + nc + 0) (0 + 0 + ns + 0)
  rw [show 0 + 0 + nc + 0 = nc by omega, show 0 + 0 + ns + 0 = ns by omega]
  exact y6
