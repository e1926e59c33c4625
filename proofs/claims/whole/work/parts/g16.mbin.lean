/-! ===== the reference: ranks, two joined ===== -/
def rk_m (k : Int32) : Nat := if k = (Int8.ofInt 23).toInt32 then 1 else if k = (Int8.ofInt 24).toInt32 then 2 else if k = (Int8.ofInt 25).toInt32 then 3 else if k = (Int8.ofInt 26).toInt32 then 4 else 0
def pm_c368 : wv_c1 := fun as T N I L R q => ∃ k : Int32, as = [.int k] ∧ q (.inl (some (.int (Int32.ofNat (rk_m k))))) T N I L R 0 0
set_option maxRecDepth 100000 in
theorem wM_368 : ∃ cb ci np, pt_mt 368 = some (32, cb, 1, false, some .int, ci, np) := ⟨_, _, _, rfl⟩
set_option maxRecDepth 100000 in
set_option maxHeartbeats 4000000 in
theorem pm_rank {sc : pt_Sc} {d : Nat} : wv_C wm_fx sc (d + 1) 368 pm_c368 := by
  rintro as T N I L R q ⟨k, rfl, h⟩ w0 HR
  obtain ⟨cb, ci, np, hm⟩ := wM_368
  refine wv_meth (hh := none) rfl (sp := fun _ _ _ _ _ _ _ _ => False) (hd := fun _ => none) (n := 0) (n1 := 300) hm zc_368 rfl (fun k as T N I L R q h => by cases h) ?_ (fun pc P h => by cases h) HR
  unfold rk_m at h
  refine ⟨fun z1 => ?_, fun z => ?_⟩
  rotate_left
  · rw [if_pos (Decidable.not_not.mp z)] at h; exact h
  refine ⟨fun z2 => ?_, fun z => ?_⟩
  rotate_left
  · rw [if_neg z1, if_pos (Decidable.not_not.mp z)] at h; exact h
  refine ⟨fun z3 => ?_, fun z => ?_⟩
  rotate_left
  · rw [if_neg z1, if_neg z2, if_pos (Decidable.not_not.mp z)] at h; exact h
  refine ⟨fun z4 => ?_, fun z => ?_⟩
  rotate_left
  · rw [if_neg z1, if_neg z2, if_neg z3, if_pos (Decidable.not_not.mp z)] at h; exact h
  rw [if_neg z1, if_neg z2, if_neg z3, if_neg z4] at h
  exact h
/-- the weight of two joined -/
def pm_w2 (k : Int32) (wx wy : Nat) : Nat := min (if k = (Int8.ofInt 26).toInt32 then (wx + 1) * (wy + 1) else wx + wy) 1000
def pm_c369 : wv_c1 := fun as T N I L R q => ∃ (m0 x y wx wy : Nat) (k : Int32), as = [.ref 460, .int k, .int (Int32.ofNat x), .int (Int32.ofNat y)] ∧ wm_T T ∧ I 460 16 = Int32.ofNat m0 ∧ m0 < 800 ∧ x < m0 ∧ y < m0 ∧ I 467 x = Int32.ofNat wx ∧ I 467 y = Int32.ofNat wy ∧ wx ≤ 1000 ∧ wy ≤ 1000 ∧ q (.inl (some (.int (Int32.ofNat m0)))) T N (wv_u (pm_mk I m0 k (Int32.ofNat x) (Int32.ofNat y) (Int32.ofInt 0) (Int32.ofInt 0)) 467 m0 (Int32.ofNat (pm_w2 k wx wy))) L R 0 0
set_option maxRecDepth 100000 in
theorem wM_369 : ∃ cb ci np, pt_mt 369 = some (32, cb, 5, false, some .int, ci, np) := ⟨_, _, _, rfl⟩
set_option maxRecDepth 100000 in
set_option maxHeartbeats 4000000 in
theorem pm_binary {sc : pt_Sc} {d : Nat} : wv_C wm_fx sc (d + 1 + 1) 369 pm_c369 := by
  rintro as T N I L R q ⟨m0, x, y, wx, wy, k, rfl, hT, h16, hm0, hx, hy, ix, iy, hwx, hwy, h⟩ w0 HR
  obtain ⟨cb, ci, np, hm⟩ := wM_369
  have hc365 : wv_C wm_fx sc (d + 1) 365 pm_c365 := wv_C_deep (by omega) (pm_make (d := d))
  have hc367 : wv_C wm_fx sc (d + 1) 367 pm_c367 := wv_C_deep (by omega) (pm_capped (d := d))
  refine wv_meth (hh := none) rfl (sp := wv_sp [(365, pm_c365), (367, pm_c367)]) (hd := fun _ => none) (n := 0) (n1 := 300) hm zc_369 rfl (wv_sp_ok (fun q hq => by
    rcases List.mem_cons.mp hq with h | h
    · rw [h]; exact hc365
    rw [List.mem_singleton.mp h]; exact hc367)) ?_ (fun pc P h => by cases h) HR
  have ex := wi_on (n := x) (by omega)
  have exn := wi_onn (n := x) (by omega)
  have ey := wi_on (n := y) (by omega)
  have eyn := wi_onn (n := y) (by omega)
  have em := wi_on (n := m0) (by omega)
  have emn := wi_onn (n := m0) (by omega)
  have jx : (pm_mk I m0 k (Int32.ofNat x) (Int32.ofNat y) (Int32.ofInt 0) (Int32.ofInt 0)) 467 x = Int32.ofNat wx := by rw [pm_mk_no (by omega) (by omega)]; exact ix
  have jy : (pm_mk I m0 k (Int32.ofNat x) (Int32.ofNat y) (Int32.ofInt 0) (Int32.ofInt 0)) 467 y = Int32.ofNat wy := by rw [pm_mk_no (by omega) (by omega)]; exact iy
  have bx : 0 ≤ Int32.ofNat x ∧ (Int32.ofNat x).toInt < (800 : Nat) := ⟨by rw [wi_le, ex, wi_0]; omega, by rw [ex]; omega⟩
  have by1 : 0 ≤ Int32.ofNat y ∧ (Int32.ofNat y).toInt < (800 : Nat) := ⟨by rw [wi_le, ey, wi_0]; omega, by rw [ey]; omega⟩
  have bm : 0 ≤ Int32.ofNat m0 ∧ (Int32.ofNat m0).toInt < (800 : Nat) := ⟨by rw [wi_le, em, wi_0]; omega, by rw [em]; omega⟩
  have hmul : (wx + 1) * (wy + 1) ≤ 1001 * 1001 := Nat.mul_le_mul (by omega) (by omega)
  refine ⟨m0, _, _, _, _, _, rfl, hT, h16, hm0, ?_⟩
  refine ⟨fun w => ?_, fun w => ?_⟩
  · refine ⟨_, wm_t hT rfl, bx, ?_⟩
    rw [exn, jx]
    refine ⟨_, wm_t hT rfl, by1, ?_⟩
    rw [eyn, jy]
    refine ⟨wx + wy, congrArg (fun x => [Value.int x]) (wi_ona wx wy), by omega, ?_⟩
    refine ⟨_, wm_t hT rfl, bm, by decide, ?_⟩
    rw [emn]
    rw [show pm_w2 k wx wy = min (wx + wy) 1000 from by unfold pm_w2; rw [if_neg w]] at h
    exact h
  · have w := Decidable.not_not.mp w
    refine ⟨_, wm_t hT rfl, bx, ?_⟩
    rw [exn, jx]
    refine ⟨_, wm_t hT rfl, by1, ?_⟩
    rw [eyn, jy]
    refine ⟨(wx + 1) * (wy + 1), congrArg (fun x => [Value.int x]) (show (Int32.ofNat wx + Int32.ofInt 1) * (Int32.ofNat wy + Int32.ofInt 1) = Int32.ofNat ((wx + 1) * (wy + 1)) from by rw [wq_4s, wq_4s, wi_mn (by omega)]), by omega, ?_⟩
    refine ⟨_, wm_t hT rfl, bm, by decide, ?_⟩
    rw [emn]
    rw [show pm_w2 k wx wy = min ((wx + 1) * (wy + 1)) 1000 from by unfold pm_w2; rw [if_pos w]] at h
    exact h
