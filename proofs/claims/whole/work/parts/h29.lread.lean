/-! ===== the law: read ===== -/
def wl_q99 (q : wv_Q) : wv_Q := fun r T N I L R nc ns => match r with
  | .inl (some (.int v)) => T 536 = some (.inr (1, 1)) ∧ q (.inl (some (.int 0))) T N I (wv_u L 536 0 v.toInt64) R nc ns
  | .inr x => x = 2 ∧ q (.inl (some (.int 1))) T N I L R nc ns
  | _ => False
def wl_c99 : wv_c1 := fun as T N I L R q => ∃ pi : Int32, as = [.ref 0, .int pi, .ref 536] ∧ wq_c100 [.ref 0, .int pi] T N I L R (wl_q99 q)
set_option maxRecDepth 100000 in
theorem wM_99 : ∃ cb ci np, pt_mt 99 = some (0, cb, 4, false, some .int, ci, np) := ⟨_, _, _, rfl⟩
set_option maxRecDepth 100000 in
theorem wl_99 : wl_ok 99 4 [(2, 1)] = true := by decide +kernel
set_option maxRecDepth 100000 in
set_option maxHeartbeats 4000000 in
theorem wl_read {sc : pt_Sc} {d : Nat} (hf : wt_fv sc) : wv_C wm_fx sc (d + 1 + 1 + 1 + 1 + 1 + 1 + 1 + 1 + 1 + 1 + 1 + 1) 99 wl_c99 := by
  rintro as T N I L R q ⟨pi, rfl, n, C, pi2, hpi, hC, hT, hAl, hS, hD, hO, hLW, h16, hn4, htx, hN1, hN2, hg, hP, h325, h333, hbad, hgood⟩ w0 HR
  obtain ⟨cb, ci, np, hm⟩ := wM_99
  have hc100 : wv_C wm_fx sc (d + 1 + 1 + 1 + 1 + 1 + 1 + 1 + 1 + 1 + 1 + 1) 100 wq_c100 := wv_C_deep (by omega) (wq_read hf (d := d))
  refine wv_meth (hh := some (wl_f 4 [(2, 1)])) rfl (sp := wv_sp [(100, wq_c100)]) (hd := fun _ => none) (n := 0) (n1 := 300) hm zc_99 (wl_HH hm wl_99) (wv_sp_ok (fun q hq => by rw [List.mem_singleton.mp hq]; exact hc100)) ?_ (fun pc P h => by cases h) HR
  cases hpi
  refine ⟨n, C, pi, rfl, hC, hT, hAl, hS, hD, hO, hLW, h16, hn4, htx, hN1, hN2, hg, hP, h325, h333, fun hb => ⟨Or.inl rfl, (hbad hb).2⟩, fun p hp e => ?_⟩
  obtain ⟨Cp, g1, g2, g3, g4⟩ := hgood p hp e
  refine ⟨Cp, g1, g2, g3, fun T1 N1 I1 L1 R1 nc ns I2 L2 b1 b2 b3 b4 b5 => ?_⟩
  obtain ⟨q1, q2⟩ := g4 T1 N1 I1 L1 R1 nc ns I2 L2 b1 b2 b3 b4 b5
  refine ⟨fun hne => ?_, fun S x o s sq d1 d2 d3 d4 => ?_⟩
  · obtain ⟨t1, t2⟩ := q1 hne
    rw [← Nat.zero_add nc, ← Nat.zero_add ns] at t2
    exact ⟨_, t1, ⟨by decide, by decide⟩, by decide, t2⟩
  · obtain ⟨t1, t2⟩ := q2 S x o s sq d1 d2 d3 d4
    rw [← Nat.zero_add nc, ← Nat.zero_add ns] at t2
    exact ⟨_, t1, ⟨by decide, by decide⟩, by decide, t2⟩
