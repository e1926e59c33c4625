/-! ===== the reference: its stack of properties ===== -/
/-- an entry more -/
def pm_ps (I : Nat → Nat → Int32) (m : Nat) (k x y : Int32) : Nat → Nat → Int32 := wv_u (wv_u (wv_u (wv_u I 486 m k) 487 m x) 488 m y) 460 72 (Int32.ofNat (m + 1))
theorem pm_ps_no {I : Nat → Nat → Int32} {m : Nat} {k x y : Int32} {c j : Nat} (h : ¬ (486 ≤ c ∧ c ≤ 488 ∧ j = m)) (h2 : ¬ (c = 460 ∧ j = 72)) : pm_ps I m k x y c j = I c j := by
  unfold pm_ps
  rw [wv_u_no _ _ (by omega), wv_u_no _ _ (by omega), wv_u_no _ _ (by omega), wv_u_no _ _ (by omega)]
def pm_c357 : wv_c1 := fun as T N I L R q => ∃ (m0 : Nat) (k x y : Int32), as = [.ref 460, .int k, .int x, .int y] ∧ wm_T T ∧ I 460 72 = Int32.ofNat m0 ∧ m0 < 420 ∧ q (.inl none) T N (pm_ps I m0 k x y) L R 0 0
set_option maxRecDepth 100000 in
theorem wM_357 : ∃ cb ci np, pt_mt 357 = some (32, cb, 4, false, none, ci, np) := ⟨_, _, _, rfl⟩
set_option maxRecDepth 100000 in
set_option maxHeartbeats 4000000 in
theorem pm_push {sc : pt_Sc} {d : Nat} : wv_C wm_fx sc (d + 1) 357 pm_c357 := by
  rintro as T N I L R q ⟨m0, k, x, y, rfl, hT, h72, hm0, h⟩ w0 HR
  obtain ⟨cb, ci, np, hm⟩ := wM_357
  refine wv_meth (hh := none) rfl (sp := fun _ _ _ _ _ _ _ _ => False) (hd := fun _ => none) (n := 0) (n1 := 300) hm zc_357 rfl (fun k as T N I L R q h => by cases h) ?_ (fun pc P h => by cases h) HR
  have em := wi_on (n := m0) (by omega)
  have emn := wi_onn (n := m0) (by omega)
  have bd : 0 ≤ Int32.ofNat m0 ∧ (Int32.ofNat m0).toInt < (420 : Nat) := ⟨by rw [wi_le, em, wi_0]; omega, by rw [em]; omega⟩
  have u0 : I 460 72 = Int32.ofNat m0 := by exact h72
  have u1 : (wv_u I 486 m0 k) 460 72 = Int32.ofNat m0 := by rw [wv_u_no _ _ (by omega)]; exact h72
  have u2 : (wv_u (wv_u I 486 m0 k) 487 m0 x) 460 72 = Int32.ofNat m0 := by rw [wv_u_no _ _ (by omega)]; rw [wv_u_no _ _ (by omega)]; exact h72
  have u3 : (wv_u (wv_u (wv_u I 486 m0 k) 487 m0 x) 488 m0 y) 460 72 = Int32.ofNat m0 := by rw [wv_u_no _ _ (by omega)]; rw [wv_u_no _ _ (by omega)]; rw [wv_u_no _ _ (by omega)]; exact h72
  refine ⟨_, wm_t hT rfl, by rw [u0]; exact bd, by decide, ?_⟩
  rw [u0, emn]
  refine ⟨_, wm_t hT rfl, by rw [u1]; exact bd, by decide, ?_⟩
  rw [u1, emn]
  refine ⟨_, wm_t hT rfl, by rw [u2]; exact bd, by decide, ?_⟩
  rw [u2, emn]
  have h2 : q (.inl none) T N (wv_u (wv_u (wv_u (wv_u I 486 m0 k) 487 m0 x) 488 m0 y) 460 72 (Int32.ofNat (m0 + 1))) L R 0 0 := h
  rw [← wq_4s m0, ← u3] at h2
  exact h2
