/-! ===== the reference: gates and names of a design text ===== -/
/-- the other literal of the same value -/
def ds_op (x : Int32) : Int32 := if x - x / Int32.ofInt 2 * Int32.ofInt 2 = 0 then x + Int32.ofInt 1 else x - Int32.ofInt 1
theorem ds_op_nat (a : Nat) (h : a < 1000000000) : ds_op (Int32.ofNat a) = Int32.ofNat (if a % 2 = 0 then a + 1 else a - 1) ∧ Int32.ofNat a ^^^ Int32.ofInt 1 = Int32.ofNat (if a % 2 = 0 then a + 1 else a - 1) := by
  have e2 : (Int32.ofInt 2).toInt = 2 := rfl
  have ea := wi_on (n := a) (by omega)
  have d1 : (Int32.ofNat a / Int32.ofInt 2).toInt = (a : Int) / 2 := by
    rw [wi_div, ea, e2, Int.tdiv_eq_ediv_of_nonneg (by omega), wr_id (by omega) (by omega)]
  have d2 : (Int32.ofNat a / Int32.ofInt 2 * Int32.ofInt 2).toInt = (a : Int) / 2 * 2 := by
    rw [wi_mul, d1, e2, wr_id (by omega) (by omega)]
  have d3 : (Int32.ofNat a - Int32.ofNat a / Int32.ofInt 2 * Int32.ofInt 2).toInt = (a : Int) % 2 := by
    rw [wi_sub, ea, d2, wr_id (by omega) (by omega)]
    omega
  constructor
  · unfold ds_op
    by_cases hp : a % 2 = 0
    · rw [if_pos (wi_eq.mpr (by rw [d3, wi_0]; omega)), if_pos hp]
      exact wi_ona a 1
    · rw [if_neg (fun z => by have := wi_eq.mp z; rw [d3, wi_0] at this; omega), if_neg hp]
      apply wi_eq.mpr
      rw [wi_sub, ea, wi_of, wr_id (x := 1) (by omega) (by omega), wr_id (by omega) (by omega), wi_on (by omega)]
      omega
  · have ex : a ^^^ 1 = if a % 2 = 0 then a + 1 else a - 1 := by
      apply Nat.eq_of_testBit_eq
      intro i
      rw [Nat.testBit_xor]
      have h1 : a = 2 * (a / 2) + a % 2 := by omega
      split
      · rename_i hp
        cases i with
        | zero =>
          rw [Nat.testBit_zero, Nat.testBit_zero, Nat.testBit_zero]
          have : (a + 1) % 2 = 1 := by omega
          rw [hp, this]
          decide
        | succ i =>
          rw [Nat.testBit_succ, Nat.testBit_succ, Nat.testBit_succ]
          have : (a + 1) / 2 = a / 2 := by omega
          rw [this]
          simp
      · rename_i hp
        cases i with
        | zero =>
          rw [Nat.testBit_zero, Nat.testBit_zero, Nat.testBit_zero]
          have h2 : (a - 1) % 2 = 0 := by omega
          have h3 : a % 2 = 1 := by omega
          rw [h2, h3]
          decide
        | succ i =>
          rw [Nat.testBit_succ, Nat.testBit_succ, Nat.testBit_succ]
          have : (a - 1) / 2 = a / 2 := by omega
          rw [this]
          simp
    rw [← ex]
    apply Int32.toBitVec_inj.mp
    apply BitVec.eq_of_toNat_eq
    have e0 : ∀ k, k < 2 ^ 31 → (Int32.ofNat k).toBitVec.toNat = k := fun k hk => by
      rw [Int32.toBitVec_ofNat', BitVec.toNat_ofNat]
      exact Nat.mod_eq_of_lt (by omega)
    have hx : a ^^^ 1 < 2 ^ 31 := by
      rw [ex]
      split <;> omega
    have e1 : (Int32.ofInt 1).toBitVec.toNat = 1 := rfl
    rw [Int32.toBitVec_xor, BitVec.toNat_xor, e0 a (by omega), e0 _ hx, e1]
/-- a literal: some number from 0 on -/
def ds_ln (x : Int32) : Prop := 0 ≤ x.toInt ∧ x.toInt < 1000000
theorem ds_ln_of {x : Int32} (h : ds_ln x) : x = Int32.ofNat x.toNatClampNeg ∧ x.toNatClampNeg < 1000000 := by
  unfold ds_ln at h
  constructor
  · exact wi_eq.mpr (by rw [wi_on (by rw [wi_nat]; omega), wi_nat]; omega)
  · rw [wi_nat]; omega
theorem ds_op_x {x : Int32} (h : ds_ln x) : ds_op x = x ^^^ Int32.ofInt 1 := by
  obtain ⟨h1, h2⟩ := ds_ln_of h
  obtain ⟨a1, a2⟩ := ds_op_nat x.toNatClampNeg (by omega)
  rw [← h1] at a1 a2
  rw [a1, a2]
def dm_c478 : wv_c1 := fun as T N I L R q => ∃ x : Int32, as = [.int x] ∧ q (.inl (some (.int (ds_op x)))) T N I L R 0 0
set_option maxRecDepth 100000 in
theorem wM_478 : ∃ cb ci np, pt_mt 478 = some (32, cb, 1, false, some .int, ci, np) := ⟨_, _, _, rfl⟩
set_option maxRecDepth 100000 in
set_option maxHeartbeats 4000000 in
theorem dm_opposite {sc : pt_Sc} {d : Nat} : wv_C wm_fx sc (d + 1) 478 dm_c478 := by
  rintro as T N I L R q ⟨x, rfl, h⟩ w0 HR
  obtain ⟨cb, ci, np, hm⟩ := wM_478
  refine wv_meth (hh := none) rfl (sp := fun _ _ _ _ _ _ _ _ => False) (hd := fun _ => none) (n := 0) (n1 := 300) hm zc_478 rfl (fun k as T N I L R q h => by cases h) ?_ (fun pc P h => by cases h) HR
  unfold ds_op at h
  refine ⟨by decide, ?_⟩
  refine ⟨fun h1 => ?_, fun h1 => ?_⟩
  · rw [if_neg h1] at h
    exact h
  · rw [if_pos (Decidable.not_not.mp h1)] at h
    exact h
/-- the reference's new design: its gates -/
def dm_G (I : Nat → Nat → Int32) (A B : Nat) (gs : ds_g) : Prop := I 460 101 = Int32.ofNat A ∧ I 460 102 = Int32.ofNat B ∧ I 460 103 = Int32.ofNat gs.length ∧ gs.length ≤ 60 ∧ ∀ j x, gs[j]? = some x → I 530 j = x.1 ∧ I 531 j = x.2
theorem dm_G_F {I J : Nat → Nat → Int32} {A B : Nat} {gs : ds_g} (h : dm_G I A B gs) (h1 : ∀ j, (j = 101 ∨ j = 102 ∨ j = 103) → J 460 j = I 460 j) (h2 : ∀ c j, (c = 530 ∨ c = 531) → J c j = I c j) : dm_G J A B gs := by
  obtain ⟨g1, g2, g3, g4, g5⟩ := h
  refine ⟨by rw [h1 _ (by omega)]; exact g1, by rw [h1 _ (by omega)]; exact g2, by rw [h1 _ (by omega)]; exact g3, g4, fun j x hx => ?_⟩
  rw [h2 _ _ (by omega), h2 _ _ (by omega)]
  exact g5 j x hx
theorem dm_G_dF {I J : Nat → Nat → Int32} {A B : Nat} {gs : ds_g} (h : dm_G I A B gs) (hF : dm_F I J) : dm_G J A B gs := dm_G_F h (fun j hj => hF _ _ (by omega)) (fun c j hc => hF _ _ (by omega))
/-- a gate more, or a fault at place w -/
def dm_gt (A B w : Nat) (u v : Int32) (x : ds_q) : Int32 × ds_q := if x.2.length = 60 then (Int32.ofInt 0, (tk_refAt w x.1, x.2)) else (Int32.ofNat (ds_lt A B x.2.length), (x.1, x.2 ++ [(u, v)]))
/-- what making a gate leaves alone -/
def dm_GF (I I1 : Nat → Nat → Int32) : Prop := ∀ c j, ¬ (c = 460 ∧ (j = 8 ∨ j = 103)) → ¬ (c = 530 ∨ c = 531) → I1 c j = I c j
theorem dm_GF_id (I : Nat → Nat → Int32) : dm_GF I I := fun _ _ _ _ => rfl
theorem dm_GF_tr {I J K : Nat → Nat → Int32} (h : dm_GF I J) (h2 : dm_GF J K) : dm_GF I K := fun c j a b => by rw [h2 c j a b, h c j a b]
theorem dm_Z_u {t : Nat → Int32} {ts : List wt_t} {n : Nat} {s : wt_q} {I J : Nat → Nat → Int32} (h : dm_Z t ts n s I) (hJ : ∀ j, (j = 3 ∨ j = 4 ∨ j = 5 ∨ j = 8) → J 460 j = I 460 j) : dm_Z t ts n s J := by
  unfold dm_Z at h ⊢
  rw [hJ 8 (by omega), hJ 3 (by omega), hJ 4 (by omega), hJ 5 (by omega)]
  exact h
/-- a fault at w, unless there is one -/
theorem dm_Z_bad {t : Nat → Int32} {ts : List wt_t} {n w : Nat} {s : wt_q} {I : Nat → Nat → Int32} (h : dm_Z t ts n s I) (hw : w ≤ 400) : dm_Z t ts n (tk_refAt w s) (wp_bad (Int32.ofNat w) I) := by
  have h8 := dm_Z_8 h
  cases hs : s.2 with
  | none =>
    have hlt : I 460 8 < 0 := Int32.not_le.mp (fun z => h8.mp z hs)
    have e : tk_refAt w s = (s.1, some w) := by unfold tk_refAt; rw [hs]
    rw [e]
    exact ⟨wp_bad_8 hlt, hw⟩
  | some z =>
    have hge : 0 ≤ I 460 8 := h8.mpr (by rw [hs]; exact fun w => by cases w)
    have e : tk_refAt w s = s := by unfold tk_refAt; rw [hs]
    rw [e]
    refine dm_Z_u h (fun j hj => ?_)
    by_cases hj8 : j = 8
    · subst hj8
      unfold wp_bad
      rw [wv_u_at, if_neg (Int32.not_lt.mpr hge)]
    · exact wp_bad_no (by omega)
def dm_c479 : wv_c1 := fun as T N I L R q => ∃ (t : Nat → Int32) (ts : List wt_t) (n A B w : Nat) (u v : Int32) (x : ds_q), as = [.ref 460, .int u, .int v, .int (Int32.ofNat w)] ∧ wm_T T ∧ A ≤ 3 ∧ B ≤ 5 ∧ w ≤ 400 ∧ dm_Z t ts n x.1 I ∧ dm_G I A B x.2 ∧ ∀ I1, dm_Z t ts n (dm_gt A B w u v x).2.1 I1 → dm_G I1 A B (dm_gt A B w u v x).2.2 → dm_GF I I1 → q (.inl (some (.int (dm_gt A B w u v x).1))) T N I1 L R 0 0
set_option maxRecDepth 100000 in
theorem wM_479 : ∃ cb ci np, pt_mt 479 = some (32, cb, 4, false, some .int, ci, np) := ⟨_, _, _, rfl⟩
set_option maxRecDepth 100000 in
set_option maxHeartbeats 4000000 in
theorem dm_newGate {sc : pt_Sc} {d : Nat} : wv_C wm_fx sc (d + 1 + 1) 479 dm_c479 := by
  rintro as T N I L R q ⟨t, ts, n, A, B, w, u, v, x, rfl, hT, hA, hB, hw, hZ, hG, h⟩ w0 HR
  obtain ⟨cb, ci, np, hm⟩ := wM_479
  have hc358 : wv_C wm_fx sc (d + 1) 358 wp_c358 := wv_C_deep (by omega) (wp_badC (d := d))
  refine wv_meth (hh := none) rfl (sp := wv_sp [(358, wp_c358)]) (hd := fun _ => none) (n := 0) (n1 := 300) hm zc_479 rfl (wv_sp_ok (fun q hq => by rw [List.mem_singleton.mp hq]; exact hc358)) ?_ (fun pc P h => by cases h) HR
  have hG0 := hG
  obtain ⟨g1, g2, g3, g4, g5⟩ := hG
  have el := wi_on (n := x.2.length) (by omega)
  have en := wi_onn (n := x.2.length) (by omega)
  have e60 : ((Int8.ofInt 60).toInt32).toInt = 60 := rfl
  refine ⟨fun h1 => ?_, fun h1 => ?_⟩
  · have hlt : x.2.length < 60 := by
      by_cases z : x.2.length = 60
      · exact (h1 (by rw [g3]; exact wi_eq.mpr (by rw [el, e60]; omega))).elim
      · omega
    have e : dm_gt A B w u v x = (Int32.ofNat (ds_lt A B x.2.length), (x.1, x.2 ++ [(u, v)])) := if_neg (by omega)
    rw [e] at h
    have bd : 0 ≤ I 460 103 ∧ (I 460 103).toInt < (60 : Nat) := by rw [g3]; exact ⟨by rw [wi_le, el, wi_0]; omega, by rw [el]; omega⟩
    have ei : (I 460 103).toNatClampNeg = x.2.length := by rw [g3, en]
    refine ⟨_, wm_t hT rfl, bd, by decide, ?_⟩
    have bd2 : ∀ a b, 0 ≤ wv_u I 530 a b 460 103 ∧ (wv_u I 530 a b 460 103).toInt < (60 : Nat) := fun a b => by rw [wv_u_no _ _ (by omega)]; exact bd
    refine ⟨_, wm_t hT rfl, bd2 _ _, by decide, ?_⟩
    have hX : ∀ J, J = wv_u (wv_u (wv_u I 530 x.2.length u) 531 x.2.length v) 460 103 (Int32.ofNat (x.2.length + 1)) → q (.inl (some (.int (Int32.ofInt 2 * (J 460 101 + J 460 102 + J 460 103))))) T N J L R 0 0 := by
      intro J hJ
      have j1 : J 460 101 = Int32.ofNat A := by rw [hJ, wv_u_no _ _ (by omega), wv_u_no _ _ (by omega), wv_u_no _ _ (by omega)]; exact g1
      have j2 : J 460 102 = Int32.ofNat B := by rw [hJ, wv_u_no _ _ (by omega), wv_u_no _ _ (by omega), wv_u_no _ _ (by omega)]; exact g2
      have j3 : J 460 103 = Int32.ofNat (x.2.length + 1) := by rw [hJ, wv_u_at]
      rw [j1, j2, j3, wi_ona, wi_ona, wi_2]
      have e9 : 2 * (A + B + (x.2.length + 1)) = ds_lt A B x.2.length := by unfold ds_lt; omega
      rw [e9]
      refine h J ?_ ?_ ?_
      · exact dm_Z_u hZ (fun j hj => by rw [hJ, wv_u_no _ _ (by omega), wv_u_no _ _ (by omega), wv_u_no _ _ (by omega)])
      · refine ⟨j1, j2, by rw [j3, List.length_append]; rfl, by rw [List.length_append]; simp only [List.length_singleton]; omega, fun j y hy => ?_⟩
        by_cases hj : j < x.2.length
        · rw [List.getElem?_append_left hj] at hy
          obtain ⟨a1, a2⟩ := g5 j y hy
          constructor
          · rw [hJ, wv_u_no _ _ (by omega), wv_u_no _ _ (by omega), wv_u_no _ _ (by omega)]; exact a1
          · rw [hJ, wv_u_no _ _ (by omega), wv_u_no _ _ (by omega), wv_u_no _ _ (by omega)]; exact a2
        · have hj2 : j = x.2.length := by
            have := (List.getElem?_eq_some_iff.mp hy).1
            rw [List.length_append] at this
            simp only [List.length_singleton] at this
            omega
          subst hj2
          rw [List.getElem?_append_right (Nat.le_refl _), Nat.sub_self] at hy
          cases hy
          constructor
          · rw [hJ, wv_u_no _ _ (by omega), wv_u_no _ _ (by omega), wv_u_at]
          · rw [hJ, wv_u_no _ _ (by omega), wv_u_at]
      · intro c j a b
        rw [hJ, wv_u_no _ _ (by omega), wv_u_no _ _ (by omega), wv_u_no _ _ (by omega)]
    have hY : ∀ (a b : Nat) (y : Int32), a = x.2.length → b = x.2.length → y = Int32.ofNat (x.2.length + 1) → wv_u (wv_u (wv_u I 530 a u) 531 b v) 460 103 y = wv_u (wv_u (wv_u I 530 x.2.length u) 531 x.2.length v) 460 103 (Int32.ofNat (x.2.length + 1)) := by
      rintro a b y rfl rfl rfl
      rfl
    exact hX _ (hY _ _ _ ei (by rw [wv_u_no _ _ (by omega)]; exact ei) (by rw [wv_u_no _ _ (by omega), wv_u_no _ _ (by omega), g3]; exact wq_4s _))
  · have hlt : x.2.length = 60 := by
      have := wi_eq.mp (Decidable.not_not.mp h1)
      rw [g3, el, e60] at this
      omega
    have e : dm_gt A B w u v x = (Int32.ofInt 0, (tk_refAt w x.1, x.2)) := if_pos hlt
    rw [e] at h
    refine ⟨_, rfl, ?_⟩
    exact h _ (dm_Z_bad hZ hw) (dm_G_dF hG0 dm_F_bad) (fun c j a b => wp_bad_no (by omega))
