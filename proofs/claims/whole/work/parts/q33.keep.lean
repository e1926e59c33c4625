/-! ===== the start: both objects are made, and the loop is reached ===== -/
set_option maxRecDepth 100000 in
theorem st_C {pc len : Nat} {ins : Instr} (h : (pc, ins, len) ∈ zt_0) : ∃ cb, zC 0 0 cb 7 false (some .boolean) pc ins len := by
  obtain ⟨cb, ci, np, hm⟩ : ∃ cb ci np, pt_mt 0 = some (0, cb, 7, false, some .boolean, ci, np) := ⟨_, _, _, rfl⟩
  have hd : decode cb pc = .ok (ins, len) := (zc_0 _ _ _ _ _ _ _ hm).1 (pc, ins, len) h
  exact ⟨cb, ⟨ci, np, hm⟩, hd⟩
/-- a constructor's call -/
theorem st_K {OT : Nat → Option pz_C} {o idx k b ci o2 nL2 : Nat} {cb2 : ByteArray} {ini2 : Bool} {ret2 : Option FieldType} {w : List pz_C} {fs r : List Value} (hM : pt_two pt_ML o idx = some (2, k)) (hm : pt_mt k = some (o2, cb2, nL2, ini2, ret2, ci, 0)) (h1 : nL2 ≤ 100) (h2 : 1 ≤ nL2) (hq : pz_q OT w b = some (.inr (ci, fs))) (hr : (r.map fun v => v.category).sum ≤ 8) : pz_K (pt_two pt_ML) pt_mt OT (.invokespecial idx) 3 o w (.ref b :: r) = some (2, k, [.ref b], r) := by
  unfold pz_K
  dsimp only
  rw [hM]
  dsimp only [Option.bind]
  rw [if_pos (by decide)]
  dsimp only
  rw [hm]
  dsimp only
  rw [if_pos ⟨h1, Nat.zero_le _⟩, if_neg (by decide)]
  dsimp only [List.drop]
  rw [hq]
  dsimp only
  rw [if_pos ⟨rfl, h2, hr⟩]
  rfl
def st_lz : List (Nat × Value) := pz_s1 (pz_s1 (pz_s1 (pz_s1 [(0, .ref 1099511627776)] 1 (.ref 0)) 2 (.ref 460)) 3 (.ref 536)) 4 (.int (Int32.ofInt 0))
set_option maxRecDepth 100000 in
theorem st_lv : wv_lv (wL_lv 0 none none) st_lz := by
  intro i v h
  have h := wv_l_some h
  match i, h with
  | 0, h => cases h; rfl
  | 1, h => cases h; rfl
  | 2, h => cases h; rfl
  | 3, h => cases h; rfl
  | 4, h => cases h; rfl
  | 5, h => cases h
  | 6, h => cases h
  | i + 7, h => cases h
set_option maxRecDepth 100000 in
theorem st_go {sc : pt_Sc} {w1 w3 : List pz_C} {c1 s1 c3 s3 : Nat} (k1 : ∀ Q : pz_O → Prop, Q (.inl none, w1, c1, s1) → zW sc 68 1 0 [(0, .ref 0)] [] [.inr (0, pt_fz 0)] 0 0 Q) (l1 : w1.length = 460) (k2 : ∀ Q : pz_O → Prop, Q (.inl none, w3, c3, s3) → zW sc 68 342 0 [(0, .ref 460)] [] (w1 ++ [.inr (12, pt_fz 12)]) 0 0 Q) (l3 : w3.length = 536) (Q : pz_O → Prop) (h : zW sc (68 + 1) 0 23 st_lz [] (w3 ++ [.inl (1, 1, [])]) (0 + 1 + c1 + 1 + c3 + 1) (0 + (pt_fz 0).length + s1 + (pt_fz 12).length + s3 + 1) Q) : zW sc (68 + 1) 0 0 [(0, .ref 1099511627776)] [] [] 0 0 Q := by
  obtain ⟨_, e0⟩ := st_C (List.mem_of_getElem? (show zt_0[0]? = some (0, .new 8, 3) from rfl))
  obtain ⟨_, e1⟩ := st_C (List.mem_of_getElem? (show zt_0[1]? = some (3, .dup, 1) from rfl))
  obtain ⟨_, e2⟩ := st_C (List.mem_of_getElem? (show zt_0[2]? = some (4, .invokespecial 96, 3) from rfl))
  obtain ⟨_, e3⟩ := st_C (List.mem_of_getElem? (show zt_0[3]? = some (7, .astore_n 1, 1) from rfl))
  obtain ⟨_, e4⟩ := st_C (List.mem_of_getElem? (show zt_0[4]? = some (8, .new 97, 3) from rfl))
  obtain ⟨_, e5⟩ := st_C (List.mem_of_getElem? (show zt_0[5]? = some (11, .dup, 1) from rfl))
  obtain ⟨_, e6⟩ := st_C (List.mem_of_getElem? (show zt_0[6]? = some (12, .invokespecial 99, 3) from rfl))
  obtain ⟨_, e7⟩ := st_C (List.mem_of_getElem? (show zt_0[7]? = some (15, .astore_n 2, 1) from rfl))
  obtain ⟨_, e8⟩ := st_C (List.mem_of_getElem? (show zt_0[8]? = some (16, .iconst 1, 1) from rfl))
  obtain ⟨_, e9⟩ := st_C (List.mem_of_getElem? (show zt_0[9]? = some (17, .newarray .long, 2) from rfl))
  obtain ⟨_, e10⟩ := st_C (List.mem_of_getElem? (show zt_0[10]? = some (19, .astore_n 3, 1) from rfl))
  obtain ⟨_, e11⟩ := st_C (List.mem_of_getElem? (show zt_0[11]? = some (20, .iconst 0, 1) from rfl))
  obtain ⟨_, e12⟩ := st_C (List.mem_of_getElem? (show zt_0[12]? = some (21, .istore 4, 2) from rfl))
  obtain ⟨_, m1⟩ : ∃ cb, pt_mt 1 = some (1, cb, 1, true, none, 0, 0) := ⟨_, rfl⟩
  obtain ⟨_, m2⟩ : ∃ cb, pt_mt 342 = some (32, cb, 2, true, none, 12, 0) := ⟨_, rfl⟩
  refine zS (st1 := [.ref 0]) (w1 := [.inr (0, pt_fz 0)]) (c1 := 1) (s1 := (pt_fz 0).length) e0 (Or.inr rfl) rfl ?_
  refine zB (st1 := [.ref 0, .ref 0]) e1 rfl rfl ?_
  refine zK (hk := 2) (k := 1) (as := [.ref 0]) (st1 := [.ref 0]) e2 rfl (st_K rfl m1 (by omega) (by omega) (show pz_q (pt_OT sc) [.inr (0, pt_fz 0)] 0 = some (.inr (0, pt_fz 0)) from rfl) (by decide)) (k1 _ ?_)
  refine zA (lv1 := pz_s1 [(0, .ref 1099511627776)] 1 (.ref 0)) (st1 := []) e3 rfl ?_
  have hw : w1.length < 1000000000 := by omega
  have hq : pz_q (pt_OT sc) (w1 ++ [.inr (12, pt_fz 12)]) 460 = some (.inr (12, pt_fz 12)) := by
    unfold pz_q
    rw [if_pos (by omega), List.getElem?_append_right (by omega), l1]
    rfl
  refine zS (st1 := [.ref 460]) (w1 := w1 ++ [.inr (12, pt_fz 12)]) (c1 := 1) (s1 := (pt_fz 12).length) e4 (Or.inr rfl) ?_ ?_
  · show (if (3 : Nat) = 3 then (match pt_two pt_KL 0 97 with
      | some ci => if w1.length < 1000000000 then some ([Value.ref w1.length], w1 ++ [.inr (ci, pt_fz ci)], 1, (pt_fz ci).length) else none
      | none => none) else none) = _
    rw [show pt_two pt_KL 0 97 = some 12 from rfl, if_pos rfl]
    dsimp only
    rw [if_pos hw, l1]
  refine zB (st1 := [.ref 460, .ref 460]) e5 rfl rfl ?_
  refine zK (hk := 2) (k := 342) (as := [.ref 460]) (st1 := [.ref 460]) e6 rfl (st_K rfl m2 (by omega) (by omega) hq (by decide)) (k2 _ ?_)
  refine zA (lv1 := pz_s1 (pz_s1 [(0, .ref 1099511627776)] 1 (.ref 0)) 2 (.ref 460)) (st1 := []) e7 rfl ?_
  refine zA (lv1 := pz_s1 (pz_s1 [(0, .ref 1099511627776)] 1 (.ref 0)) 2 (.ref 460)) (st1 := [.int 1]) e8 rfl ?_
  refine zS (st1 := [.ref 536]) (w1 := w3 ++ [.inl (1, 1, [])]) (c1 := 1) (s1 := 1) e9 (Or.inr rfl) ?_ ?_
  · show (if (2 : Nat) = 2 then (match pz_ak .long, [Value.int 1] with
      | some k, .int n :: r => if w3.length < 1000000000 ∧ ¬ n < 0 ∧ n.toNatClampNeg ≤ 67108864 then some (Value.ref w3.length :: r, w3 ++ [.inl (k, n.toNatClampNeg, [])], 1, n.toNatClampNeg) else none
      | _, _ => none) else none) = _
    rw [if_pos rfl, show pz_ak .long = some 1 from rfl]
    dsimp only
    rw [if_pos ⟨by omega, by decide, by decide⟩, l3]
    rfl
  refine zA (lv1 := pz_s1 (pz_s1 (pz_s1 [(0, .ref 1099511627776)] 1 (.ref 0)) 2 (.ref 460)) 3 (.ref 536)) (st1 := []) e10 rfl ?_
  refine zA (lv1 := pz_s1 (pz_s1 (pz_s1 [(0, .ref 1099511627776)] 1 (.ref 0)) 2 (.ref 460)) 3 (.ref 536)) (st1 := [.int (Int32.ofInt 0)]) e11 rfl ?_
  exact zA (lv1 := st_lz) (st1 := []) e12 rfl h
