/-! ===== the law: classes, classOf, classBehind, kind of the class ===== -/
def kc_V (e3 e1 : Prop) (q1 : wv_Q) (C : Nat) (A : nt_A) (w g : Nat) (T : wv_T) (N : Nat) (I : Nat → Nat → Int32) (L : Nat → Nat → Int64) (R : Nat → Nat → Option Nat) : Prop := (I C 9 = 0 → e3) ∧ (¬ I C 9 = 0 → (¬ I (C + 9 + 0) 2 ≤ kk_s → e1) ∧ (I (C + 9 + 0) 2 ≤ kk_s → kc_D T R (C + 76 + 5 * 0) ∧ kc_Q T I L R (C + 76 + 5 * 0) (C + 9 + 0) A w g ∧ nt_n A ≤ 6 ∧ kc_S q1 C 0 A g T N I L R))
def wl_c199 : wv_c1 := fun as T N I L R q => ∃ (pi : Int32) (C : Nat → Nat) (A : Nat → nt_A) (w g : Nat → Nat), as = [.ref 0, .int pi, .ref 537] ∧ T 537 = some (.inr (1, 1)) ∧ kc_I T R C ∧ (rw_bp pi → q (.inl (some (.int 1))) T N I L R 1 6) ∧ ∀ p, p < 2 → pi = Int32.ofNat p → kc_V (q (.inl (some (.int 2))) T N I L R 1 6) (q (.inl (some (.int 3))) T N I L R 1 6) (fun _ T1 N1 I1 L1 R1 nc ns => q (.inl (some (.int 0))) T1 N1 I1 (wv_u L1 537 0 (I1 (C p + 76 + 5 * 0) 8).toInt64) R1 nc ns) (C p) (A p) (w p) (g p) T N I L R
set_option maxRecDepth 100000 in
theorem wM_199 : ∃ cb ci np, pt_mt 199 = some (0, cb, 4, false, some .int, ci, np) := ⟨_, _, _, rfl⟩
set_option maxRecDepth 100000 in
theorem wl_199 : wl_ok 199 4 [(2, 1), (3, 2), (1, 3)] = true := by decide +kernel
set_option maxRecDepth 100000 in
set_option maxHeartbeats 4000000 in
theorem wl_classes {sc : pt_Sc} {d : Nat} : wv_C wm_fx sc (d + 1 + 1 + 1 + 1 + 1 + 1) 199 wl_c199 := by
  rintro as T N I L R q ⟨pi, C, A, w, g, rfl, h537, hI, hb, h⟩ w0 HR
  obtain ⟨cb, ci, np, hm⟩ := wM_199
  have hc200 : wv_C wm_fx sc (d + 1 + 1 + 1 + 1 + 1) 200 kc_c200 := wv_C_deep (by omega) (kc_classes (d := d))
  refine wv_meth (hh := some (wl_f 4 [(2, 1), (3, 2), (1, 3)])) rfl (sp := wv_sp [(200, kc_c200)]) (hd := fun _ => none) (n := 0) (n1 := 300) hm zc_199 (wl_HH hm wl_199) (wv_sp_ok (fun q hq => by rw [List.mem_singleton.mp hq]; exact hc200)) ?_ (fun pc P h => by cases h) HR
  refine ⟨pi, C, A, w, g, rfl, hI, fun z => ⟨Or.inl rfl, hb z⟩, fun p hp e => ?_⟩
  obtain ⟨h1, h2⟩ := h p hp e
  refine ⟨fun y => ⟨Or.inl rfl, h1 y⟩, fun y => ⟨fun z => ⟨Or.inl rfl, (h2 y).1 z⟩, fun z => ?_⟩⟩
  obtain ⟨u1, u2, u3, u4⟩ := (h2 y).2 z
  refine ⟨u1, u2, u3, kc_S_m u1 u4 (fun T1 N1 I1 L1 R1 nc ns B y1 y2 y3 y4 y5 y6 => ?_)⟩
  refine ⟨_, y4 _ _ h537, ⟨by decide, by decide⟩, by decide, ?_⟩
  show q (.inl (some (.int 0))) T1 N1 I1 (wv_u L1 537 0 (I1 (C p + 76 + 5 * 0) 8).toInt64) R1 (0 + nc) (0 + ns)
  rw [show 0 + nc = nc by omega, show 0 + ns = ns by omega]
  exact y6
