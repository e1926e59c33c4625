/-! ===== an instruction's work, and whole runs: the evaluator is the pure machine's ===== -/
def zKf (OT : Nat → Option pz_C) (h j : Nat) (w : List pz_C) (st : List Value) : Option (Nat × Nat × List Value × List Value) := match pt_mt j with
    | none => none
    | some (_, _, nL, _, _, ci, np) =>
      if nL ≤ 100 ∧ np ≤ st.length then
        (if h = 4 ∨ h = 9 then (if (lg_sl (st.take np).reverse).length ≤ nL ∧ ((st.drop np).map fun v => v.category).sum ≤ 8 then some (h, j, (st.take np).reverse, st.drop np) else none) else (match st.drop np with
          | .ref b :: r => (match pz_q OT w b with
            | some (.inr (cj, _)) => if cj = ci ∧ (lg_sl (.ref b :: (st.take np).reverse)).length ≤ nL ∧ (r.map fun v => v.category).sum ≤ 8 then some (h, j, .ref b :: (st.take np).reverse, r) else none
            | _ => none)
          | _ => none))
      else none
section ZMA
variable {sc : pt_Sc} {g : zy_G} {j pc o nL : Nat} {cb : ByteArray} {ini : Bool} {ret : Option FieldType} {ins : Instr} {len : Nat}
theorem zKf_s {OT : Nat → Option pz_C} {idx h k : Nat} (hM : pt_two pt_ML o idx = some (h, k)) (h4 : h = 4 ∨ h = 9) (w : List pz_C) (st : List Value) : pz_K (pt_two pt_ML) pt_mt OT (.invokestatic idx) 3 o w st = zKf OT h k w st := by
  unfold pz_K zKf
  dsimp only
  rw [hM]
  dsimp only [Option.bind]
  rw [if_pos ⟨rfl, h4⟩]
  all_goals rfl
theorem zKf_v {OT : Nat → Option pz_C} {idx h k : Nat} (hM : pt_two pt_ML o idx = some (h, k)) (h4 : h = 0 ∨ h = 5) (w : List pz_C) (st : List Value) : pz_K (pt_two pt_ML) pt_mt OT (.invokevirtual idx) 3 o w st = zKf OT h k w st := by
  unfold pz_K zKf
  dsimp only
  rw [hM]
  dsimp only [Option.bind]
  rw [if_pos ⟨rfl, h4⟩]
  all_goals rfl
theorem zKf_p {OT : Nat → Option pz_C} {idx h k : Nat} (hM : pt_two pt_ML o idx = some (h, k)) (h4 : h = 2 ∨ h = 3 ∨ h = 7) (w : List pz_C) (st : List Value) : pz_K (pt_two pt_ML) pt_mt OT (.invokespecial idx) 3 o w st = zKf OT h k w st := by
  unfold pz_K zKf
  dsimp only
  rw [hM]
  dsimp only [Option.bind]
  rw [if_pos ⟨rfl, h4⟩]
  all_goals rfl
theorem zi_inv (hG : zG g) {hk k o2 nL2 ci2 np : Nat} {cb2 : ByteArray} {ini2 : Bool} {ret2 : Option FieldType} (hC : zC j o cb nL ini ret pc ins 3) (hKf : ∀ w st, pz_K (pt_two pt_ML) pt_mt (pt_OT sc) ins 3 o w st = zKf (pt_OT sc) hk k w st) (hm : pt_mt k = some (o2, cb2, nL2, ini2, ret2, ci2, np)) (h100 : nL2 ≤ 100 ∧ ci2 < 5000) : zI sc g j pc 3 (ze_inv (hk == 4 || hk == 9) (2 * ci2) np k nL2 (if (pt_HH j).isEmpty then none else some (ze_hs j o cb nL ret pc)) (hk == 0 || hk == 4)) := by
  intro d E next jmp call hE hn hj hcl lv st t m out Q h hQ lv' w' hl hw
  unfold ze_inv at h
  obtain ⟨hnp, h⟩ := ze_tk_ok _ _ _ _ _ h
  rw [List.append_nil] at h
  have e0 : (st.map (zv g)).length = st.length := List.length_map ..
  have e1 : ((st.map (zv g)).take np).reverse = ((st.take np).reverse).map (zv g) := by rw [← List.map_take, List.map_reverse]
  have e2 : (st.map (zv g)).drop np = (st.drop np).map (zv g) := by rw [List.map_drop]
  by_cases h4 : hk = 4 ∨ hk = 9
  · have hb : (hk == 4 || hk == 9) = true := by rw [Bool.or_eq_true, beq_iff_eq, beq_iff_eq]; exact h4
    rw [ze_b_t hb] at h
    obtain ⟨lv2, h2, hI⟩ := ze_arg_ok hG _ _ _ _ _ [] h zAI_0
    obtain ⟨hb1, h2⟩ := ze_b_some h2
    obtain ⟨hb2, h2⟩ := ze_b_some h2
    obtain ⟨n, nc, ns⟩ := m
    refine zi_inv_core (as' := ((st.take np).reverse).map (zv g)) hG (nL2 := nL2) hC hn hcl h2 hQ hl hw (zAI_l hI) ?_
    rw [hKf]
    unfold zKf
    rw [hm]
    dsimp only
    rw [e0, if_pos ⟨h100.1, hnp⟩, if_pos h4, e1, e2]
    have l1 := Nat.le_of_ble_eq_true hb1
    rw [if_pos ⟨by omega, ze_four_ok hG hb2⟩]
  · have hb : (hk == 4 || hk == 9) = false := by
      cases hx : (hk == 4 || hk == 9) with
      | false => rfl
      | true => rw [Bool.or_eq_true, beq_iff_eq, beq_iff_eq] at hx; exact absurd hx h4
    rw [ze_b_f hb] at h
    split at h
    · rename_i x r hdr
      obtain ⟨a, c, hv, h, hq⟩ := ze_cell_ok hE h
      obtain ⟨h1, c2⟩ := c
      obtain ⟨c', hq1, hq2⟩ := hq w' hw
      obtain ⟨hb0, h3⟩ := ze_b_some h
      obtain ⟨lv2, h5, hI⟩ := ze_arg_ok hG _ _ _ _ _ [] h3 zAI_0
      obtain ⟨hb1, h6⟩ := ze_b_some h5
      obtain ⟨hb2, h7⟩ := ze_b_some h6
      have e3 : h1 = 2 * ci2 := Nat.eq_of_beq_eq_true hb0
      obtain ⟨n9, P9⟩ := c2
      replace hq2 := zR_no hq2 (by omega)
      obtain ⟨n, nc, ns⟩ := m
      refine zi_inv_core (as' := (x :: (st.take np).reverse).map (zv g)) hG (nL2 := nL2) hC hn hcl h7 hQ hl hw (zAI_l hI) ?_
      rw [hKf]
      unfold zKf
      rw [hm]
      dsimp only
      rw [e0, if_pos ⟨h100.1, hnp⟩, if_neg h4, e1, e2, hdr, List.map_cons, hv]
      dsimp only
      cases c' with
      | inl c' =>
        obtain ⟨k', n', z⟩ := c'
        have q1 := hq2.1
        dsimp only at q1
        omega
      | inr c' =>
        obtain ⟨cj, fs⟩ := c'
        have q1 := hq2.1
        dsimp only at q1
        have hcj : cj = ci2 := by omega
        rw [hq1]
        dsimp only
        have l1 := Nat.le_of_ble_eq_true hb1
        rw [List.map_cons, hv, Nat.zero_add] at l1
        rw [if_pos ⟨hcj, l1, ze_four_ok hG hb2⟩, List.map_cons, hv]
    · cases h
theorem ze_z_b {v : Value} (h : ze_z v = true) : zc_en v < 4722366482869645213696 ∧ zy_n v = false := by
  cases v with
  | int x =>
    have : x = 0 := by simpa [ze_z] using h
    subst this
    exact ⟨by decide, rfl⟩
  | long x =>
    have : x = 0 := by simpa [ze_z] using h
    subst this
    exact ⟨by decide, rfl⟩
  | null => exact ⟨by decide, rfl⟩
  | _ => cases h
theorem ze_pkl_ok : ∀ (l : List Value), l.all ze_z = true → ∀ (k : Nat) (v : Value), l[k]? = some v → v = zv g (zp_g (ze_pkl l) (zp_D k))
  | [], _, k, v, h => by cases h
  | u :: t, hall, k, v, h => by
    rw [List.all_cons, Bool.and_eq_true] at hall
    obtain ⟨b1, b2⟩ := ze_z_b hall.1
    cases k with
    | zero =>
      cases h
      show _ = zv g ((zc_en u + 4722366482869645213696 * ze_pkl t) / 1 % 4722366482869645213696)
      rw [Nat.div_one, Nat.add_mul_mod_self_left, Nat.mod_eq_of_lt b1, zv_en, zy_v_id b2]
    | succ k =>
      have h2 : t[k]? = some v := h
      rw [ze_pkl_ok t hall.2 k v h2]
      congr 1
      show ze_pkl t / zp_D k % 4722366482869645213696 = (zc_en u + 4722366482869645213696 * ze_pkl t) / zp_D (k + 1) % 4722366482869645213696
      rw [Nat.add_comm k 1, zp_Da, zp_D1, ← Nat.div_div_eq_div_mul, Nat.add_mul_div_left _ _ (by decide), Nat.div_eq_of_lt b1, Nat.zero_add]
theorem ze_y_n {v : Value} (h : ze_y v = true) : zy_n v = false := by
  cases v <;> first | rfl | cases h
theorem zAL_ok {ins : Instr} {k : Nat} (hd : ∀ (w : List pz_C) (st : List Value), zk_s (pt_OT sc) (pt_STf sc.2.2) ins 1 o ini w st = (if 1 = 1 then (match pz_AL (pt_OT sc) ins w st with
    | some st1 => some (st1, w, 0, 0)
    | none => (match pz_AS ins pt_cl pt_tk w st with
      | some (w1, st1) => some (st1, w1, 0, 0)
      | none => none)) else none)) (hL : ∀ (w : List pz_C) (r : List Value) (i : Int32) (a n : Nat) (z : List (Nat × Value)), pz_q (pt_OT sc) w a = some (.inl (k, n, z)) → ¬ (i < 0 ∨ n ≤ i.toNatClampNeg) → pz_AL (pt_OT sc) ins w (.int i :: .ref a :: r) = some (zn k (pz_g z i.toNatClampNeg) :: r)) : zAL sc ins o ini k := by
  intro w r i a n z hq hi
  rw [hd, if_pos rfl, hL w r i a n z hq hi]
theorem ze_cl_ok (hG : zG g) {f : ze_I} {hk k : Nat} (hC : zC j o cb nL ini ret pc ins len) (h : ze_cl j o cb nL ret pc hk k = some f) (hKf : ∀ w st, pz_K (pt_two pt_ML) pt_mt (pt_OT sc) ins 3 o w st = zKf (pt_OT sc) hk k w st) (hl : len = 3) : zI sc g j pc len f := by
  subst hl
  unfold ze_cl at h
  split at h
  · rename_i hmk
    split at h
    · rename_i h100
      rw [zs_f_eq] at h
      cases h
      exact zi_inv hG hC hKf hmk h100
    · cases h
  · cases h
theorem ze_fn_ok (hG : zG g) (hsc : sc.2.2 = g.2.2) {ci np : Nat} {f : ze_I} (hm : pt_mt j = some (o, cb, nL, ini, ret, ci, np)) (hd : decode cb pc = .ok (ins, len)) (h : ze_fn j (pc, ins, len) = some f) : zI sc g j pc len f := by
  have hC : zC j o cb nL ini ret pc ins len := ⟨⟨ci, np, hm⟩, hd⟩
  unfold ze_fn at h
  rw [hm] at h
  dsimp only at h
  have hcl := fun {hk k : Nat} => @ze_cl_ok sc g j pc o nL cb ini ret ins len hG f hk k hC
  have e2 : zv g 2 = .null := by
    unfold zv
    have : zc_d 2 = .null := by decide
    rw [this]
    rfl
  have e11 : zv g 11 = g.2.2 := by
    unfold zv
    have : zc_d 11 = .float 0 := by decide
    rw [this]
    rfl
  split at h
  · -- const
    split at h
    · rename_i hl
      subst hl
      rw [zs_f_eq] at h
      cases h
      exact zi_push (fun d lv' st' w' nc ns Q K => zA hC (by rw [zv_int]; rfl) K)
    · cases h
  · -- const
    split at h
    · rename_i hl
      subst hl
      rw [zs_f_eq] at h
      cases h
      exact zi_push (fun d lv' st' w' nc ns Q K => zA hC (by rw [zv_int]; rfl) K)
    · cases h
  · -- const
    split at h
    · rename_i hl
      subst hl
      rw [zs_f_eq] at h
      cases h
      exact zi_push (fun d lv' st' w' nc ns Q K => zA hC (by rw [zv_int]; rfl) K)
    · cases h
  · -- lconst
    split at h
    · rename_i hl
      subst hl
      rw [zs_f_eq] at h
      cases h
      exact zi_push (fun d lv' st' w' nc ns Q K => zA hC (by rw [zv_en]; rfl) K)
    · cases h
  · -- null
    split at h
    · rename_i hl
      subst hl
      cases h
      exact zi_push (fun d lv' st' w' nc ns Q K => zB hC rfl (by rw [e2]; rfl) K)
    · cases h
  · -- ild
    split at h
    · rename_i hl
      subst hl
      rw [zs_f_eq] at h
      cases h
      refine zi_ild hG hC ?_
      intro lv' st' x hx
      unfold pz_A
      dsimp only
      rw [hx]
    · cases h
  · -- ild
    split at h
    · rename_i hl
      subst hl
      rw [zs_f_eq] at h
      cases h
      refine zi_ild hG hC ?_
      intro lv' st' x hx
      unfold pz_A
      dsimp only
      rw [hx]
    · cases h
  · -- lld
    split at h
    · rename_i hl
      subst hl
      rw [zs_f_eq] at h
      cases h
      refine zi_lld hG hC ?_
      intro lv' st' x hx
      unfold pz_A
      dsimp only
      rw [hx]
    · cases h
  · -- lld
    split at h
    · rename_i hl
      subst hl
      rw [zs_f_eq] at h
      cases h
      refine zi_lld hG hC ?_
      intro lv' st' x hx
      unfold pz_A
      dsimp only
      rw [hx]
    · cases h
  · -- ald
    split at h
    · rename_i hl
      subst hl
      rw [zs_f_eq] at h
      cases h
      refine zi_ald hG hC ?_
      intro lv' st' x hx
      unfold pz_A
      dsimp only
      rw [hx]
    · cases h
  · -- ald
    split at h
    · rename_i hl
      subst hl
      rw [zs_f_eq] at h
      cases h
      refine zi_ald hG hC ?_
      intro lv' st' x hx
      unfold pz_A
      dsimp only
      rw [hx]
    · cases h
  · -- ist
    split at h
    · rename_i hl
      obtain ⟨hl, hn⟩ := hl
      subst hl
      rw [zs_f_eq] at h
      cases h
      refine zi_ist hG hC ?_
      intro lv' st' x
      exact if_pos hn
    · cases h
  · -- ist
    split at h
    · rename_i hl
      obtain ⟨hl, hn⟩ := hl
      subst hl
      rw [zs_f_eq] at h
      cases h
      refine zi_ist hG hC ?_
      intro lv' st' x
      exact if_pos hn
    · cases h
  · -- lst
    split at h
    · rename_i hl
      obtain ⟨hl, hn⟩ := hl
      subst hl
      rw [zs_f_eq] at h
      cases h
      refine zi_lst hG hC ?_
      intro lv' st' x
      exact if_pos hn
    · cases h
  · -- lst
    split at h
    · rename_i hl
      obtain ⟨hl, hn⟩ := hl
      subst hl
      rw [zs_f_eq] at h
      cases h
      refine zi_lst hG hC ?_
      intro lv' st' x
      exact if_pos hn
    · cases h
  · -- ast
    split at h
    · rename_i hl
      obtain ⟨hl, hn⟩ := hl
      subst hl
      rw [zs_f_eq] at h
      cases h
      refine zi_ast hG hC ?_
      intro lv' st' x
      exact if_pos hn
    · cases h
  · -- ast
    split at h
    · rename_i hl
      obtain ⟨hl, hn⟩ := hl
      subst hl
      rw [zs_f_eq] at h
      cases h
      refine zi_ast hG hC ?_
      intro lv' st' x
      exact if_pos hn
    · cases h
  · -- iinc
    split at h
    · rename_i hl
      obtain ⟨hl, hn⟩ := hl
      subst hl
      rw [zs_f_eq, zs_f_eq] at h
      cases h
      exact zi_inc hG hC hn (zc_d_en _ (fun b => by simp))
    · cases h
  · -- iadd
    split at h
    · rename_i hl
      subst hl
      cases h
      refine zi_bin hC rfl ?_
      intro x y v r hv
      unfold zo_iadd at hv
      split at hv
      · cases hv
        rfl
      · cases hv
    · cases h
  · -- isub
    split at h
    · rename_i hl
      subst hl
      cases h
      refine zi_bin hC rfl ?_
      intro x y v r hv
      unfold zo_isub at hv
      split at hv
      · cases hv
        rfl
      · cases hv
    · cases h
  · -- imul
    split at h
    · rename_i hl
      subst hl
      cases h
      refine zi_bin hC rfl ?_
      intro x y v r hv
      unfold zo_imul at hv
      split at hv
      · cases hv
        rfl
      · cases hv
    · cases h
  · -- iand
    split at h
    · rename_i hl
      subst hl
      cases h
      refine zi_bin hC rfl ?_
      intro x y v r hv
      unfold zo_iand at hv
      split at hv
      · cases hv
        rfl
      · cases hv
    · cases h
  · -- ior
    split at h
    · rename_i hl
      subst hl
      cases h
      refine zi_bin hC rfl ?_
      intro x y v r hv
      unfold zo_ior at hv
      split at hv
      · cases hv
        rfl
      · cases hv
    · cases h
  · -- ixor
    split at h
    · rename_i hl
      subst hl
      cases h
      refine zi_bin hC rfl ?_
      intro x y v r hv
      unfold zo_ixor at hv
      split at hv
      · cases hv
        rfl
      · cases hv
    · cases h
  · -- ishl
    split at h
    · rename_i hl
      subst hl
      cases h
      refine zi_bin hC rfl ?_
      intro x y v r hv
      unfold zo_ishl at hv
      split at hv
      · cases hv
        rfl
      · cases hv
    · cases h
  · -- ishr
    split at h
    · rename_i hl
      subst hl
      cases h
      refine zi_bin hC rfl ?_
      intro x y v r hv
      unfold zo_ishr at hv
      split at hv
      · cases hv
        rfl
      · cases hv
    · cases h
  · -- iushr
    split at h
    · rename_i hl
      subst hl
      cases h
      refine zi_bin hC rfl ?_
      intro x y v r hv
      unfold zo_iushr at hv
      split at hv
      · cases hv
        rfl
      · cases hv
    · cases h
  · -- land
    split at h
    · rename_i hl
      subst hl
      cases h
      refine zi_bin hC rfl ?_
      intro x y v r hv
      unfold zo_land at hv
      split at hv
      · cases hv
        rfl
      · cases hv
    · cases h
  · -- lor
    split at h
    · rename_i hl
      subst hl
      cases h
      refine zi_bin hC rfl ?_
      intro x y v r hv
      unfold zo_lor at hv
      split at hv
      · cases hv
        rfl
      · cases hv
    · cases h
  · -- lxor
    split at h
    · rename_i hl
      subst hl
      cases h
      refine zi_bin hC rfl ?_
      intro x y v r hv
      unfold zo_lxor at hv
      split at hv
      · cases hv
        rfl
      · cases hv
    · cases h
  · -- lsub
    split at h
    · rename_i hl
      subst hl
      cases h
      refine zi_bin hC rfl ?_
      intro x y v r hv
      unfold zo_lsub at hv
      split at hv
      · cases hv
        rfl
      · cases hv
    · cases h
  · -- lmul
    split at h
    · rename_i hl
      subst hl
      cases h
      refine zi_bin hC rfl ?_
      intro x y v r hv
      unfold zo_lmul at hv
      split at hv
      · cases hv
        rfl
      · cases hv
    · cases h
  · -- ladd
    split at h
    · rename_i hl
      subst hl
      cases h
      refine zi_bin hC rfl ?_
      intro x y v r hv
      unfold zo_ladd at hv
      split at hv
      · cases hv
        rfl
      · cases hv
    · cases h
  · -- lshl
    split at h
    · rename_i hl
      subst hl
      cases h
      refine zi_bin hC rfl ?_
      intro x y v r hv
      unfold zo_lshl at hv
      split at hv
      · cases hv
        rfl
      · cases hv
    · cases h
  · -- lshr
    split at h
    · rename_i hl
      subst hl
      cases h
      refine zi_bin hC rfl ?_
      intro x y v r hv
      unfold zo_lshr at hv
      split at hv
      · cases hv
        rfl
      · cases hv
    · cases h
  · -- lushr
    split at h
    · rename_i hl
      subst hl
      cases h
      refine zi_bin hC rfl ?_
      intro x y v r hv
      unfold zo_lushr at hv
      split at hv
      · cases hv
        rfl
      · cases hv
    · cases h
  · -- lcmp
    split at h
    · rename_i hl
      subst hl
      cases h
      refine zi_bin hC rfl ?_
      intro x y v r hv
      unfold zo_lcmp at hv
      split at hv
      · cases hv
        rfl
      · cases hv
    · cases h
  · -- idiv
    split at h
    · rename_i hl
      subst hl
      cases h
      refine zi_bin hC rfl ?_
      intro x y v r hv
      unfold zo_idiv at hv
      split at hv
      · split at hv
        · cases hv
        · rename_i hne
          cases hv
          exact if_neg hne
      · cases hv
    · cases h
  · -- irem
    split at h
    · rename_i hl
      subst hl
      cases h
      refine zi_bin hC rfl ?_
      intro x y v r hv
      unfold zo_irem at hv
      split at hv
      · split at hv
        · cases hv
        · rename_i hne
          cases hv
          exact if_neg hne
      · cases hv
    · cases h
  · -- ineg
    split at h
    · rename_i hl
      subst hl
      cases h
      refine zi_un hC rfl ?_
      intro x v r hv
      unfold zo_ineg at hv
      split at hv
      · cases hv
        rfl
      · cases hv
    · cases h
  · -- i2l
    split at h
    · rename_i hl
      subst hl
      cases h
      refine zi_un hC rfl ?_
      intro x v r hv
      unfold zo_i2l at hv
      split at hv
      · cases hv
        rfl
      · cases hv
    · cases h
  · -- i2b
    split at h
    · rename_i hl
      subst hl
      cases h
      refine zi_un hC rfl ?_
      intro x v r hv
      unfold zo_i2b at hv
      split at hv
      · cases hv
        rfl
      · cases hv
    · cases h
  · -- i2c
    split at h
    · rename_i hl
      subst hl
      cases h
      refine zi_un hC rfl ?_
      intro x v r hv
      unfold zo_i2c at hv
      split at hv
      · cases hv
        rfl
      · cases hv
    · cases h
  · -- l2i
    split at h
    · rename_i hl
      subst hl
      cases h
      refine zi_un hC rfl ?_
      intro x v r hv
      unfold zo_l2i at hv
      split at hv
      · cases hv
        rfl
      · cases hv
    · cases h
  · -- lneg
    split at h
    · rename_i hl
      subst hl
      cases h
      refine zi_un hC rfl ?_
      intro x v r hv
      unfold zo_lneg at hv
      split at hv
      · cases hv
        rfl
      · cases hv
    · cases h
  · -- dup
    split at h
    · rename_i hl
      subst hl
      cases h
      exact zi_dup hG hC
    · cases h
  · -- pop
    split at h
    · rename_i hl
      subst hl
      cases h
      exact zi_pop hG hC
    · cases h
  · -- dup2
    split at h
    · rename_i hl
      subst hl
      cases h
      exact zi_dup2 hG hC
    · cases h
  · -- dupx1
    split at h
    · rename_i hl
      subst hl
      cases h
      exact zi_dupx1 hG hC
    · cases h
  · -- if
    split at h
    · rename_i hl
      subst hl
      split at h
      · rename_i ht
        rw [zs_f_eq] at h
        cases h
        exact zi_if hC ht (fun x y => rfl)
      · cases h
    · cases h
  · -- if
    split at h
    · rename_i hl
      subst hl
      split at h
      · rename_i ht
        rw [zs_f_eq] at h
        cases h
        exact zi_if hC ht (fun x y => rfl)
      · cases h
    · cases h
  · -- if
    split at h
    · rename_i hl
      subst hl
      split at h
      · rename_i ht
        rw [zs_f_eq] at h
        cases h
        exact zi_if hC ht (fun x y => rfl)
      · cases h
    · cases h
  · -- if
    split at h
    · rename_i hl
      subst hl
      split at h
      · rename_i ht
        rw [zs_f_eq] at h
        cases h
        exact zi_if hC ht (fun x y => rfl)
      · cases h
    · cases h
  · -- if
    split at h
    · rename_i hl
      subst hl
      split at h
      · rename_i ht
        rw [zs_f_eq] at h
        cases h
        exact zi_if hC ht (fun x y => rfl)
      · cases h
    · cases h
  · -- if
    split at h
    · rename_i hl
      subst hl
      split at h
      · rename_i ht
        rw [zs_f_eq] at h
        cases h
        exact zi_if hC ht (fun x y => rfl)
      · cases h
    · cases h
  · -- cmp
    split at h
    · rename_i hl
      subst hl
      split at h
      · rename_i ht
        rw [zs_f_eq] at h
        cases h
        exact zi_cmp hC ht (fun x y => rfl)
      · cases h
    · cases h
  · -- cmp
    split at h
    · rename_i hl
      subst hl
      split at h
      · rename_i ht
        rw [zs_f_eq] at h
        cases h
        exact zi_cmp hC ht (fun x y => rfl)
      · cases h
    · cases h
  · -- cmp
    split at h
    · rename_i hl
      subst hl
      split at h
      · rename_i ht
        rw [zs_f_eq] at h
        cases h
        exact zi_cmp hC ht (fun x y => rfl)
      · cases h
    · cases h
  · -- cmp
    split at h
    · rename_i hl
      subst hl
      split at h
      · rename_i ht
        rw [zs_f_eq] at h
        cases h
        exact zi_cmp hC ht (fun x y => rfl)
      · cases h
    · cases h
  · -- cmp
    split at h
    · rename_i hl
      subst hl
      split at h
      · rename_i ht
        rw [zs_f_eq] at h
        cases h
        exact zi_cmp hC ht (fun x y => rfl)
      · cases h
    · cases h
  · -- cmp
    split at h
    · rename_i hl
      subst hl
      split at h
      · rename_i ht
        rw [zs_f_eq] at h
        cases h
        exact zi_cmp hC ht (fun x y => rfl)
      · cases h
    · cases h
  · -- goto
    split at h
    · rename_i hl
      subst hl
      split at h
      · rename_i ht
        rw [zs_f_eq] at h
        cases h
        exact zi_goto hC ht
      · cases h
    · cases h
  · -- tableswitch
    rename_i dd lo hi offs
    cases h
    refine zi_sw hC rfl ?_
    intro a r tg r0 hq
    have hq2 : (if a.toInt < lo ∨ hi < a.toInt then (pz_t pc dd).map (fun t => (t, ([] : List Value))) else (match offs[(a.toInt - lo).toNat]? with | some off => (pz_t pc off).map (fun t => (t, [])) | none => none)) = some (tg, r0) := hq
    show (if a.toInt < lo ∨ hi < a.toInt then (pz_t pc dd).map (fun t => (t, r)) else (match offs[(a.toInt - lo).toNat]? with | some off => (pz_t pc off).map (fun t => (t, r)) | none => none)) = some (tg, r)
    split at hq2
    · rename_i hx
      rw [if_pos hx]
      cases ht : pz_t pc dd with
      | none => rw [ht] at hq2; cases hq2
      | some t => rw [ht] at hq2; cases hq2; rfl
    · rename_i hx
      rw [if_neg hx]
      split at hq2
      · rename_i off hoff
        try rw [hoff]
        try dsimp only
        cases ht : pz_t pc off with
        | none => rw [ht] at hq2; cases hq2
        | some t => rw [ht] at hq2; cases hq2; rfl
      · cases hq2
  · -- lookupswitch
    rename_i dd ps
    cases h
    refine zi_sw hC rfl ?_
    intro a r tg r0 hq
    have hq2 : (if (ps.toList.zip (ps.toList.drop 1)).all (fun (a, next) => a.1 < next.1) = true then (pz_t pc (Op.lookupswitch.offset ps.toList dd a.toInt)).map (fun t => (t, ([] : List Value))) else none) = some (tg, r0) := hq
    show (if (ps.toList.zip (ps.toList.drop 1)).all (fun (a, next) => a.1 < next.1) = true then (pz_t pc (Op.lookupswitch.offset ps.toList dd a.toInt)).map (fun t => (t, r)) else none) = some (tg, r)
    split at hq2
    · rename_i hx
      rw [if_pos hx]
      cases ht : pz_t pc (Op.lookupswitch.offset ps.toList dd a.toInt) with
      | none => rw [ht] at hq2; cases hq2
      | some t => rw [ht] at hq2; cases hq2; rfl
    · cases hq2
  · -- ifnull
    split at h
    · rename_i hl
      subst hl
      cases h
      exact zi_nu hC
    · cases h
  · -- ifnonnull
    split at h
    · rename_i hl
      subst hl
      split at h
      · rename_i ht
        rw [zs_f_eq] at h
        cases h
        exact zi_nnl hC ht
      · cases h
    · cases h
  · -- getfield
    split at h
    · rename_i hl
      subst hl
      split at h
      · rename_i hF
        split at h
        · rename_i h5
          rw [zs_f_eq, zs_f_eq] at h
          cases h
          exact zi_getf h5 hC hF
        · cases h
      · cases h
    · cases h
  · -- putfield
    split at h
    · rename_i hl
      subst hl
      split at h
      · rename_i hF
        split at h
        · rename_i hfin
          rw [zs_f_eq, zs_f_eq] at h
          cases h
          exact zi_putf hfin.2 hC hF hfin.1
        · cases h
      · cases h
    · cases h
  · -- arraylength
    split at h
    · rename_i hl
      subst hl
      cases h
      exact zi_al hC
    · cases h
  · -- newarray
    split at h
    · rename_i hl
      subst hl
      split at h
      · rename_i hA
        rw [zs_f_eq] at h
        cases h
        refine zi_newa hC rfl ?_
        intro w' r n a1 a2 a3
        unfold zk_s pz_S
        dsimp only
        rw [if_pos rfl, hA]
        dsimp only
        rw [if_pos ⟨a1, a2, a3⟩]
      · cases h
    · cases h
  · -- anewarray
    split at h
    · rename_i hl
      obtain ⟨hl, hi⟩ := hl
      subst hl
      split at h
      · rename_i k hA
        rw [zs_f_eq] at h
        cases h
        have e9 : Nat.add (Nat.mul 2 k) 9 = 2 * (k + 4) + 1 := by show 2 * k + 9 = _; omega
        rw [e9]
        refine zi_newa (k := k + 4) hC rfl ?_
        intro w' r n a1 a2 a3
        unfold zk_s pz_S
        dsimp only
        rw [if_pos ⟨rfl, hi⟩, hA]
        dsimp only
        rw [if_pos ⟨a1, a2, a3⟩]
      · cases h
    · cases h
  · -- multianewarray
    split at h
    · rename_i hl
      obtain ⟨hl, hdm⟩ := hl
      subst hl
      subst hdm
      split at h
      · rename_i hA
        rw [zs_f_eq] at h
        cases h
        exact zi_newm hC hA
      · cases h
    · cases h
  · -- new
    split at h
    · rename_i hl
      subst hl
      split at h
      · rename_i hK
        split at h
        · rename_i hall
          rw [zs_f_eq, zs_f_eq, zs_f_eq] at h
          cases h
          exact zi_new hC hK (ze_pkl_ok _ hall)
        · cases h
      · rename_i hK
        split at h
        · rename_i hH
          split at h
          · rename_i hT
            rw [zs_f_eq] at h
            cases h
            exact zi_thr hG hC hK (List.isEmpty_iff.mp hH) hT
          · cases h
        · cases h
    · cases h
  · -- invokespecial
    split at h
    · rename_i hl
      split at h
      · rename_i hM
        split at h
        · rename_i h6
          subst h6
          split at h
          · rename_i hk
            subst hk
            cases h
            subst hl
            exact zi_obj hG hC hM
          · cases h
        · split at h
          · rename_i h7
            exact hcl h (zKf_p hM h7) hl
          · cases h
      · cases h
    · cases h
  · -- invokevirtual
    split at h
    · rename_i hl
      split at h
      · rename_i hM
        split at h
        · rename_i h7
          exact hcl h (zKf_v hM h7) hl
        · cases h
      · cases h
    · cases h
  · -- invokestatic
    split at h
    · rename_i hl
      split at h
      · rename_i hM
        split at h
        · rename_i h7
          exact hcl h (zKf_s hM h7) hl
        · subst hl
          split at h
          · rename_i hk
            subst hk
            split at h
            · rename_i h8
              subst h8
              cases h
              exact zi_acp hG hC hM rfl
            · split at h
              · rename_i h10
                subst h10
                cases h
                refine zi_mm hG hC ?_
                intro w' r x y v hr hv
                unfold zo_min at hv
                split at hv
                · cases hv
                  unfold zk_s pz_S
                  dsimp only [zy_v]
                  rw [if_neg (fun z => by have := z.2; rw [hM] at this; cases this), if_pos ⟨rfl, hM⟩, if_pos hr]
                · cases hv
              · split at h
                · rename_i h11
                  subst h11
                  cases h
                  refine zi_mm hG hC ?_
                  intro w' r x y v hr hv
                  unfold zo_max at hv
                  split at hv
                  · cases hv
                    unfold zk_s pz_S
                    dsimp only [zy_v]
                    rw [if_neg (fun z => by have := z.2; rw [hM] at this; cases this), if_neg (fun z => by have := z.2; rw [hM] at this; cases this), if_pos ⟨rfl, hM⟩, if_pos hr]
                  · cases hv
                · cases h
          · cases h
      · cases h
    · cases h
  · -- getstatic
    split at h
    · rename_i hl
      subst hl
      split at h
      · rename_i v hv
        split at h
        · rename_i hs
          cases h
          refine zi_push (fun d lv' st' w' nc ns Q K => zS hC (Or.inl rfl) (w1 := w') (c1 := 0) (s1 := 0) ?_ K)
          unfold zk_s pz_S
          dsimp only
          rw [if_pos rfl]
          unfold pt_STf
          rw [hv, e11]
          show (match some (pt_fv sc.2.2 v) with | some v => some (v :: st', w', 0, 0) | none => none) = _
          unfold pt_fv
          rw [if_pos hs, hsc]
        · rename_i hs
          split at h
          · rename_i hy
            rw [zs_f_eq] at h
            cases h
            refine zi_push (fun d lv' st' w' nc ns Q K => zS hC (Or.inl rfl) (w1 := w') (c1 := 0) (s1 := 0) ?_ K)
            unfold zk_s pz_S
            dsimp only
            rw [if_pos rfl]
            unfold pt_STf
            rw [hv, zv_en, zy_v_id (ze_y_n hy)]
            show (match some (pt_fv sc.2.2 v) with | some v => some (v :: st', w', 0, 0) | none => none) = _
            unfold pt_fv
            rw [if_neg hs]
          · cases h
      · cases h
    · cases h
  · -- ldc
    split at h
    · rename_i hl
      subst hl
      split at h
      · rename_i hv
        rw [zs_f_eq] at h
        cases h
        refine zi_push (fun d lv' st' w' nc ns Q K => zS hC (Or.inl rfl) (w1 := w') (c1 := 0) (s1 := 0) ?_ K)
        unfold zk_s pz_S
        dsimp only
        rw [if_pos rfl, hv, zv_en]
        rfl
      · rename_i hv
        split at h
        · rename_i hi
          rw [zs_f_eq] at h
          cases h
          refine zi_push (fun d lv' st' w' nc ns Q K => zS hC (Or.inl rfl) (w1 := w') (c1 := 0) (s1 := 0) ?_ K)
          unfold zk_s pz_S
          dsimp only
          rw [if_pos rfl, hv]
          dsimp only
          rw [hi, zv_en]
          rfl
        · cases h
      · cases h
    · cases h
  · -- ldc2_w
    split at h
    · rename_i hl
      subst hl
      split at h
      · rename_i hv
        rw [zs_f_eq] at h
        cases h
        refine zi_push (fun d lv' st' w' nc ns Q K => zS hC (Or.inl rfl) (w1 := w') (c1 := 0) (s1 := 0) ?_ K)
        unfold zk_s pz_S
        dsimp only
        rw [if_pos rfl, hv, zv_en]
        rfl
      · cases h
    · cases h
  · -- iaload
    split at h
    · rename_i hl
      subst hl
      cases h
      exact zi_ldx (k := 0) hC rfl rfl (zAL_ok (fun w st => rfl) (fun w r i a n z hq hi => by unfold pz_AL; dsimp only; rw [hq]; dsimp only; rw [if_neg hi]; rfl))
    · cases h
  · -- laload
    split at h
    · rename_i hl
      subst hl
      cases h
      exact zi_ldx (k := 1) hC rfl rfl (zAL_ok (fun w st => rfl) (fun w r i a n z hq hi => by unfold pz_AL; dsimp only; rw [hq]; dsimp only; rw [if_neg hi]; rfl))
    · cases h
  · -- baload
    split at h
    · rename_i hl
      subst hl
      cases h
      exact zi_ldb hC rfl (zAL_ok (fun w st => rfl) (fun w r i a n z hq hi => by unfold pz_AL; dsimp only; rw [hq]; dsimp only; rw [if_neg hi]; rfl)) (zAL_ok (fun w st => rfl) (fun w r i a n z hq hi => by unfold pz_AL; dsimp only; rw [hq]; dsimp only; rw [if_neg hi]; rfl))
    · cases h
  · -- aaload
    split at h
    · rename_i hl
      subst hl
      cases h
      exact zi_ldr hC rfl (fun k => zAL_ok (fun w st => rfl) (fun w r i a n z hq hi => by unfold pz_AL; dsimp only; rw [hq]; dsimp only; rw [if_neg hi]; unfold zn; rw [if_neg (by omega), if_pos (by omega)]))
    · cases h
  · -- .iastore
    split at h
    · rename_i hl
      subst hl
      cases h
      refine zi_stx hC rfl ?_
      intro kk w' r v' val i a n z hc hv hq hi
      have hAS : pz_AS .iastore pt_cl pt_tk w' (v' :: .int i :: .ref a :: r) = some (w'.set a (.inl (kk, n, pz_a z i.toNatClampNeg val)), r) := by
        rcases hv with ⟨rfl, x, rfl, rfl⟩ | ⟨rfl, x, rfl, rfl⟩ | ⟨rfl, x, rfl, rfl⟩ | ⟨rfl, x, rfl, rfl⟩
        all_goals first | (exact absurd hc (by decide)) | (unfold pz_AS; dsimp only; rw [hq]; dsimp only; rw [if_neg hi]; rfl) | (unfold pz_AS; dsimp only; rw [hq]; dsimp only; rw [if_neg hi])
      unfold zk_s pz_S
      dsimp only
      rw [if_pos rfl, zk_ALS hAS]
      dsimp only
      rw [hAS]
    · cases h
  · -- .lastore
    split at h
    · rename_i hl
      subst hl
      cases h
      refine zi_stx hC rfl ?_
      intro kk w' r v' val i a n z hc hv hq hi
      have hAS : pz_AS .lastore pt_cl pt_tk w' (v' :: .int i :: .ref a :: r) = some (w'.set a (.inl (kk, n, pz_a z i.toNatClampNeg val)), r) := by
        rcases hv with ⟨rfl, x, rfl, rfl⟩ | ⟨rfl, x, rfl, rfl⟩ | ⟨rfl, x, rfl, rfl⟩ | ⟨rfl, x, rfl, rfl⟩
        all_goals first | (exact absurd hc (by decide)) | (unfold pz_AS; dsimp only; rw [hq]; dsimp only; rw [if_neg hi]; rfl) | (unfold pz_AS; dsimp only; rw [hq]; dsimp only; rw [if_neg hi])
      unfold zk_s pz_S
      dsimp only
      rw [if_pos rfl, zk_ALS hAS]
      dsimp only
      rw [hAS]
    · cases h
  · -- .bastore
    split at h
    · rename_i hl
      subst hl
      cases h
      refine zi_stx hC rfl ?_
      intro kk w' r v' val i a n z hc hv hq hi
      have hAS : pz_AS .bastore pt_cl pt_tk w' (v' :: .int i :: .ref a :: r) = some (w'.set a (.inl (kk, n, pz_a z i.toNatClampNeg val)), r) := by
        rcases hv with ⟨rfl, x, rfl, rfl⟩ | ⟨rfl, x, rfl, rfl⟩ | ⟨rfl, x, rfl, rfl⟩ | ⟨rfl, x, rfl, rfl⟩
        all_goals first | (exact absurd hc (by decide)) | (unfold pz_AS; dsimp only; rw [hq]; dsimp only; rw [if_neg hi]; rfl) | (unfold pz_AS; dsimp only; rw [hq]; dsimp only; rw [if_neg hi])
      unfold zk_s pz_S
      dsimp only
      rw [if_pos rfl, zk_ALS hAS]
      dsimp only
      rw [hAS]
    · cases h
  · -- aastore
    split at h
    · rename_i hl
      subst hl
      cases h
      exact zi_str hC
    · cases h
  · -- return
    split at h
    · rename_i hl
      subst hl
      split at h
      · cases h
        exact zi_rv hC
      · cases h
    · cases h
  · -- ireturn
    split at h
    · rename_i hl
      subst hl
      split at h
      · cases h
        exact zi_ri hC
      · cases h
    · cases h
  · -- lreturn
    split at h
    · rename_i hl
      subst hl
      split at h
      · cases h
        exact zi_rl hC
      · cases h
    · cases h
  · -- areturn
    split at h
    · rename_i hl
      subst hl
      split at h
      · cases h
        exact zi_ra hC (Or.inl ⟨_, rfl⟩)
      · cases h
        exact zi_ra hC (Or.inr ⟨_, rfl⟩)
      · cases h
    · cases h
  · cases h
end ZMA
