/-! ===== the evaluator's instructions are the pure machine's: arrays, returns, calls ===== -/
section ZKB
variable {sc : pt_Sc} {g : zy_G} {j pc o nL : Nat} {cb : ByteArray} {ini : Bool} {ret : Option FieldType} {ins : Instr} {len : Nat}
theorem zl_push {k z n i e : Nat} {P : Nat} {next : Nat → ze_R} {out : ze_O} (hz : zl_e k 0 = z) (h : Nat.rec (motive := fun _ => ze_R) (next z) (fun c _ => zs_f (Nat.succ c) fun c => next c) (zp_g P (zp_D i)) = some out) : next (zl_e k (zp_g P (zp_D i))) = some out := by
  cases he : zp_g P (zp_D i) with
  | zero =>
    rw [he] at h
    show next (zl_e k 0) = _
    rw [hz]
    exact h
  | succ c =>
    rw [he] at h
    have h2 : (zs_f (Nat.succ c) fun c => next c) = some out := h
    rw [zs_f_eq] at h2
    have : zl_e k (c + 1) = c + 1 := by unfold zl_e; rw [if_neg (by omega)]
    rw [this]
    exact h2
/-- what is known of an array load -/
def zAL (sc : pt_Sc) (ins : Instr) (o : Nat) (ini : Bool) (k : Nat) : Prop := ∀ (w' : List pz_C) (r : List Value) (i : Int32) (a n : Nat) (z : List (Nat × Value)), pz_q (pt_OT sc) w' a = some (.inl (k, n, z)) → ¬ (i < 0 ∨ n ≤ i.toNatClampNeg) → zk_s (pt_OT sc) (pt_STf sc.2.2) ins 1 o ini w' (.int i :: .ref a :: r) = some (zn k (pz_g z i.toNatClampNeg) :: r, w', 0, 0)
theorem zi_ld_core {k i n P h1 d lv a : Nat} {r : List Nat} {t : ze_T} {m : ze_M} {next : ze_K} {out : ze_O} {Q : pz_O → Prop} {lv' : List (Nat × Value)} {w' : List pz_C} {c' : pz_C} (hC : zC j o cb nL ini ret pc ins 1) (hg : zk_g ins = 3) (hS : zAL sc ins o ini k) (hn : zKs sc g d j (pc + 1) next) (h : next lv (zl_e k (zp_g P (zp_D (i / 4))) :: r) t m = some out) (hQ : zO sc g d j Q out) (hl : zR_l g lv lv') (hw : zR_w g t m.1 w') (hi : Nat.mod i 4 = 0) (hin : i / 4 < n) (hn31 : n ≤ 2147483648) (hh : h1 = 2 * k + 1) (hq1 : pz_q (pt_OT sc) w' a = some c') (hq2 : zR_c g (h1, n, P) c') : zW sc d j pc lv' (.int (zk_i (i / 4)) :: .ref a :: r.map (zv g)) w' m.2.1 m.2.2 Q := by
  replace hq2 := zR_no hq2 (by omega)
  cases c' with
  | inr c' =>
    obtain ⟨ci', fs⟩ := c'
    have q1 := hq2.1
    dsimp only at q1
    omega
  | inl c' =>
    obtain ⟨k', n', z⟩ := c'
    obtain ⟨q1, q2, q3⟩ := hq2
    dsimp only at q1 q2 q3
    have hk : k' = k := by omega
    subst hk
    subst q2
    obtain ⟨n1, n2⟩ := zi_nn (u := i / 4) (by omega)
    have hs := hS w' (r.map (zv g)) (zk_i (i / 4)) a n z hq1 (by rintro (z | z); exact n1 z; rw [n2] at z; omega)
    rw [n2, q3] at hs
    refine zS hC (Or.inl hg) hs ?_
    exact hn _ _ _ _ _ _ h hQ _ _ hl hw
theorem zi_ldx {k z : Nat} (hC : zC j o cb nL ini ret pc ins 1) (hg : zk_g ins = 3) (hz : zl_e k 0 = z) (hS : zAL sc ins o ini k) : zI sc g j pc 1 (ze_ldx (2 * k + 1) z) := by
  intro d E next jmp call hE hn hj hcl lv st t m out Q h hQ lv' w' hl hw
  unfold ze_ldx at h
  split at h
  · rename_i i x r
    split at h
    · rename_i hi
      obtain ⟨a, c, hv, h, hq⟩ := ze_cell_ok hE h
      obtain ⟨h1, n, P⟩ := c
      obtain ⟨c', hq1, hq2⟩ := hq w' hw
      obtain ⟨hb1, h⟩ := ze_b_some h
      rw [zs_f_eq] at h
      obtain ⟨hb2, h⟩ := ze_b_some h
      obtain ⟨hb3, h⟩ := ze_b_some h
      have h := zl_push (next := fun c => next lv (c :: r) t m) (n := 0) (e := 0) hz h
      rw [List.map_cons, List.map_cons, hv, zc_i0 hi]
      exact zi_ld_core hC hg hS hn h hQ hl hw hi (Nat.blt_eq.mp hb2) (Nat.le_of_ble_eq_true hb3) (Nat.eq_of_beq_eq_true hb1) hq1 hq2
    · cases h
  · cases h
theorem zi_ldb (hC : zC j o cb nL ini ret pc ins 1) (hg : zk_g ins = 3) (hS2 : zAL sc ins o ini 2) (hS3 : zAL sc ins o ini 3) : zI sc g j pc 1 ze_ldb := by
  intro d E next jmp call hE hn hj hcl lv st t m out Q h hQ lv' w' hl hw
  unfold ze_ldb at h
  split at h
  · rename_i i x r
    split at h
    · rename_i hi
      obtain ⟨a, c, hv, h, hq⟩ := ze_cell_ok hE h
      obtain ⟨h1, n, P⟩ := c
      obtain ⟨c', hq1, hq2⟩ := hq w' hw
      obtain ⟨hb1, h3⟩ := ze_b_some h
      rw [zs_f_eq] at h3
      obtain ⟨hb2, h4⟩ := ze_b_some h3
      obtain ⟨hb3, h5⟩ := ze_b_some h4
      rw [zs_f_eq] at h5
      clear h4 h3 h
      rw [List.map_cons, List.map_cons, hv, zc_i0 hi]
      have e2 : ∀ k e, k = 2 ∨ k = 3 → zl_e k e = e := by
        intro k e hk
        unfold zl_e
        split
        · rename_i he
          rw [if_neg (by omega), if_neg (by omega), he]
        · rfl
      split at hb1
      · refine zi_ld_core (k := 2) hC hg hS2 hn ?_ hQ hl hw hi (Nat.blt_eq.mp hb2) (Nat.le_of_ble_eq_true hb3) rfl hq1 hq2
        rw [e2 2 _ (Or.inl rfl)]
        exact h5
      · refine zi_ld_core (k := 3) hC hg hS3 hn ?_ hQ hl hw hi (Nat.blt_eq.mp hb2) (Nat.le_of_ble_eq_true hb3) rfl hq1 hq2
        rw [e2 3 _ (Or.inr rfl)]
        exact h5
      · cases hb1
    · cases h
  · cases h
theorem zi_ldr (hC : zC j o cb nL ini ret pc ins 1) (hg : zk_g ins = 3) (hS : ∀ k, zAL sc ins o ini (k + 4)) : zI sc g j pc 1 ze_ldr := by
  intro d E next jmp call hE hn hj hcl lv st t m out Q h hQ lv' w' hl hw
  unfold ze_ldr at h
  split at h
  · rename_i i x r
    split at h
    · rename_i hi
      obtain ⟨a, c, hv, h, hq⟩ := ze_cell_ok hE h
      obtain ⟨h1, n, P⟩ := c
      obtain ⟨c', hq1, hq2⟩ := hq w' hw
      obtain ⟨hb0, h⟩ := ze_b_some h
      obtain ⟨hb1, h⟩ := ze_b_some h
      rw [zs_f_eq] at h
      obtain ⟨hb2, h⟩ := ze_b_some h
      obtain ⟨hb3, h⟩ := ze_b_some h
      have e0 : 8 < h1 := Nat.blt_eq.mp hb0
      have e1 : h1 % 2 = 1 := Nat.eq_of_beq_eq_true hb1
      obtain ⟨k, hk⟩ : ∃ k, h1 = 2 * (k + 4) + 1 := ⟨h1 / 2 - 4, by omega⟩
      have h := zl_push (k := k + 4) (next := fun c => next lv (c :: r) t m) (n := 0) (e := 0) (by unfold zl_e; rw [if_pos rfl, if_neg (by omega), if_pos (by omega)]) h
      rw [List.map_cons, List.map_cons, hv, zc_i0 hi]
      exact zi_ld_core hC hg (hS k) hn h hQ hl hw hi (Nat.blt_eq.mp hb2) (Nat.le_of_ble_eq_true hb3) hk hq1 hq2
    · cases h
  · cases h
/-- what a store lays down -/
def zsv (kk : Nat) (v' val : Value) : Prop := (kk = 0 ∧ ∃ x, v' = .int x ∧ val = .int x) ∨ (kk = 1 ∧ ∃ x, v' = .long x ∧ val = .long x) ∨ (kk = 2 ∧ ∃ x, v' = .int x ∧ val = .int (vp_nar .boolean x)) ∨ (kk = 3 ∧ ∃ x, v' = .int x ∧ val = .int (vp_nar .byte x))
theorem zl_e_lo {k e : Nat} (h1 : k ≠ 1) (h4 : ¬ 4 ≤ k) : zl_e k e = e := by
  unfold zl_e
  rw [if_neg h1, if_neg h4]
  split
  · rename_i he
    exact he.symm
  · rfl
theorem ze_sv_ok {E : ze_E} {v h : Nat} {k : Nat → ze_R} {out : ze_O} (hE : zE_ok sc g E) (hh : ze_sv E v h k = some out) : ∃ v2 kk val, h = 2 * kk + 1 ∧ k v2 = some out ∧ zsv kk (zv g v) val ∧ zn kk val = zv g (zl_e kk v2) := by
  unfold ze_sv at hh
  split at hh
  · rename_i x hx
    have hv : zv g v = .int x := by unfold zv; rw [hx]; rfl
    split at hh
    · exact ⟨v, 0, .int x, rfl, hh, Or.inl ⟨rfl, x, hv, rfl⟩, by rw [zl_e_lo (by decide) (by decide), hv]; rfl⟩
    · rw [zs_f_eq] at hh
      exact ⟨_, 2, _, rfl, hh, Or.inr (Or.inr (Or.inl ⟨rfl, x, hv, rfl⟩)), by rw [zl_e_lo (by decide) (by decide), zv_en]; rfl⟩
    · rw [zs_f_eq] at hh
      exact ⟨_, 3, _, rfl, hh, Or.inr (Or.inr (Or.inr ⟨rfl, x, hv, rfl⟩)), by rw [zl_e_lo (by decide) (by decide), zv_en]; rfl⟩
    · cases hh
  · rename_i x hx
    have hv : zv g v = .long x := by unfold zv; rw [hx]; rfl
    split at hh
    · refine ⟨v, 1, .long x, rfl, hh, Or.inr (Or.inl ⟨rfl, x, hv, rfl⟩), ?_⟩
      have h0 : v ≠ 0 := by rintro rfl; cases hx
      have : zl_e 1 v = v := by unfold zl_e; rw [if_neg h0]
      rw [this, hv]
      rfl
    · cases hh
  · rename_i s hx
    have hv : zv g v = .int (g.1 s) := by unfold zv; rw [hx]; rfl
    split at hh
    · exact ⟨v, 0, .int (g.1 s), rfl, hh, Or.inl ⟨rfl, _, hv, rfl⟩, by rw [zl_e_lo (by decide) (by decide), hv]; rfl⟩
    · obtain ⟨hb, hh⟩ := ze_b_some hh
      obtain ⟨x, h1, h2, h3⟩ := hE.2.2.2.1 _ _ hb
      have hx2 : g.1 s = x := by cases h1; rfl
      refine ⟨v, 2, .int x, rfl, hh, Or.inr (Or.inr (Or.inl ⟨rfl, x, by rw [hv, hx2], by rw [h2 rfl]⟩)), ?_⟩
      rw [zl_e_lo (by decide) (by decide), hv, hx2]
      rfl
    · obtain ⟨hb, hh⟩ := ze_b_some hh
      obtain ⟨x, h1, h2, h3⟩ := hE.2.2.2.1 _ _ hb
      have hx2 : g.1 s = x := by cases h1; rfl
      refine ⟨v, 3, .int x, rfl, hh, Or.inr (Or.inr (Or.inr ⟨rfl, x, by rw [hv, hx2], by rw [h3 rfl]⟩)), ?_⟩
      rw [zl_e_lo (by decide) (by decide), hv, hx2]
      rfl
    · cases hh
  · rename_i b hx
    obtain ⟨y, hy⟩ : ∃ y, zv g v = .long y := by unfold zv; rw [hx]; exact ⟨_, rfl⟩
    split at hh
    · refine ⟨v, 1, .long y, rfl, hh, Or.inr (Or.inl ⟨rfl, y, hy, rfl⟩), ?_⟩
      have h0 : v ≠ 0 := by rintro rfl; cases hx
      have : zl_e 1 v = v := by unfold zl_e; rw [if_neg h0]
      rw [this, hy]
      rfl
    · cases hh
  · cases hh
theorem zR_c_set {h1 n P i v2 kk : Nat} {z : List (Nat × Value)} {val : Value} (hb : v2 < 4722366482869645213696) (hq : zR_c g (h1, n, P) (.inl (kk, n, z))) (hv : zn kk val = zv g (zl_e kk v2)) : zR_c g (h1, n, zp_s P (zp_D i) v2) (.inl (kk, n, pz_a z i val)) := by
  rcases hq with hq | hq
  · exact Or.inl hq
  obtain ⟨q1, q2, q3⟩ := hq
  refine Or.inr ⟨q1, rfl, ?_⟩
  intro i2
  dsimp only at q3 ⊢
  rw [pz_ga, zp_gs hb]
  by_cases hi : i = i2
  · subst hi
    rw [if_pos rfl, if_pos rfl]
    exact hv
  · rw [if_neg (fun z => hi z.symm), if_neg hi]
    exact q3 i2
theorem zi_stx {hs : List Nat} (hC : zC j o cb nL ini ret pc ins 1) (hg : zk_g ins = 4) (hS : ∀ (kk : Nat) (w' : List pz_C) (r : List Value) (v' val : Value) (i : Int32) (a n : Nat) (z : List (Nat × Value)), hs.contains (2 * kk + 1) = true → zsv kk v' val → w'[a]? = some (.inl (kk, n, z)) → ¬ (i < 0 ∨ n ≤ i.toNatClampNeg) → zk_s (pt_OT sc) (pt_STf sc.2.2) ins 1 o ini w' (v' :: .int i :: .ref a :: r) = some (r, w'.set a (.inl (kk, n, pz_a z i.toNatClampNeg val)), 0, 0)) : zI sc g j pc 1 (ze_stx hs) := by
  intro d E next jmp call hE hn hj hcl lv st t m out Q h hQ lv' w' hl hw
  unfold ze_stx at h
  split at h
  · rename_i v i x r
    split at h
    · rename_i a hi ha
      have hv : zv g x = .ref a := by unfold zv; rw [ha]; rfl
      obtain ⟨hb, h⟩ := ze_b_some h
      rw [ze_g_eq] at h
      have hlt := Nat.blt_eq.mp hb
      obtain ⟨c', hq1, hq2⟩ := zR_q hw hlt
      rcases hcell : zt_g t a with ⟨h1, n, P⟩
      rw [hcell] at h hq2
      obtain ⟨hb1, h3⟩ := ze_b_some h
      rw [zs_f_eq] at h3
      obtain ⟨hb2, h4⟩ := ze_b_some h3
      obtain ⟨hb3, h5⟩ := ze_b_some h4
      obtain ⟨v2, kk, val, e1, h6, e3, e4⟩ := ze_sv_ok hE h5
      obtain ⟨hvb, h7⟩ := zs_p_ok h6
      rw [ze_s_eq] at h7
      clear h6 h5 h4 h3 h
      have hin : i / 4 < n := Nat.blt_eq.mp hb2
      have hn31 : n ≤ 2147483648 := Nat.le_of_ble_eq_true hb3
      have hq3 := zR_no hq2 (by omega)
      cases c' with
      | inr c' =>
        obtain ⟨ci', fs⟩ := c'
        have q1 := hq3.1
        dsimp only at q1
        omega
      | inl c' =>
        obtain ⟨k', n', z⟩ := c'
        have q1 := hq3.1
        have q2 := hq3.2.1
        dsimp only at q1 q2
        have hk : k' = kk := by omega
        subst hk
        subst q2
        obtain ⟨n1, n2⟩ := zi_nn (u := i / 4) (by omega)
        rw [List.map_cons, List.map_cons, List.map_cons, hv, zc_i0 hi]
        have hs := hS k' w' (r.map (zv g)) (zv g v) val (zk_i (i / 4)) a n z (by rw [← e1]; exact hb1) e3 hq1 (by rintro (z | z); exact n1 z; rw [n2] at z; omega)
        rw [n2] at hs
        refine zS hC (Or.inr hg) hs ?_
        exact hn _ _ _ _ _ _ h7 hQ _ _ hl (zR_w_set hw hlt (zR_c_set hvb hq2 e4))
    · cases h
  · cases h
theorem zi_str (hC : zC j o cb nL ini ret pc .aastore 1) : zI sc g j pc 1 ze_str := by
  intro d E next jmp call hE hn hj hcl lv st t m out Q h hQ lv' w' hl hw
  unfold ze_str at h
  split at h
  · rename_i v i x r
    split at h
    · rename_i a b hi ha hbv
      have hv : zv g x = .ref a := by unfold zv; rw [ha]; rfl
      have hvv : zv g v = .ref b := by unfold zv; rw [hbv]; rfl
      obtain ⟨hb, h⟩ := ze_b_some h
      obtain ⟨hbb, h⟩ := ze_b_some h
      rw [ze_g_eq, ze_g_eq] at h
      have hlt := Nat.blt_eq.mp hb
      have hltb := Nat.blt_eq.mp hbb
      obtain ⟨c', hq1, hq2⟩ := zR_q hw hlt
      obtain ⟨cb', hr1, hr2⟩ := zR_q hw hltb
      rcases hcell : zt_g t a with ⟨h1, n, P⟩
      rcases hcellb : zt_g t b with ⟨h2, nb, Pb⟩
      rw [hcell] at h hq2
      rw [hcellb] at h hr2
      obtain ⟨hb1, h3⟩ := ze_b_some h
      obtain ⟨hb2, h4⟩ := ze_b_some h3
      obtain ⟨hb3, h5⟩ := ze_b_some h4
      obtain ⟨hb4, h6⟩ := ze_b_some h5
      rw [zs_f_eq] at h6
      obtain ⟨hb5, h7⟩ := ze_b_some h6
      obtain ⟨hb6, h8⟩ := ze_b_some h7
      obtain ⟨hvb, h9⟩ := zs_p_ok h8
      rw [ze_s_eq] at h9
      clear h8 h7 h6 h5 h4 h3 h
      have o1 : h1 % 2 = 1 := Nat.eq_of_beq_eq_true hb1
      have o2 : h2 % 2 = 0 := Nat.eq_of_beq_eq_true hb2
      have o3 : 8 < h1 := Nat.blt_eq.mp hb3
      have hin : i / 4 < n := Nat.blt_eq.mp hb5
      have hn31 : n ≤ 2147483648 := Nat.le_of_ble_eq_true hb6
      have hq3 := zR_no hq2 (by omega)
      have hcl0 : pt_cl[5000]? = none := by rfl
      have hr3 : h2 ≠ 10000 := by
        rintro rfl
        have e5 : Nat.div 10000 2 = 5000 := rfl
        rw [e5, hcl0] at hb4
        cases hb4
      replace hr2 := zR_no hr2 hr3
      cases c' with
      | inr c' =>
        obtain ⟨ci', fs⟩ := c'
        have q1 := hq3.1
        dsimp only at q1
        omega
      | inl c' =>
        obtain ⟨k', n', z⟩ := c'
        have q1 := hq3.1
        have q2 := hq3.2.1
        dsimp only at q1 q2
        subst q2
        obtain ⟨k1, rfl⟩ : ∃ k1, k' = k1 + 4 := ⟨k' - 4, by omega⟩
        cases cb' with
        | inl y =>
          obtain ⟨ky, ny, zy⟩ := y
          have q3 := hr2.1
          dsimp only at q3
          omega
        | inr y =>
          obtain ⟨ci, fs⟩ := y
          have q3 := hr2.1
          dsimp only at q3
          have e1 : Nat.div h2 2 = ci := by show h2 / 2 = ci; omega
          have e2 : Nat.div h1 2 = k1 + 4 := by show h1 / 2 = k1 + 4; omega
          rw [e1, e2] at hb4
          obtain ⟨n1, n2⟩ := zi_nn (u := i / 4) (by omega)
          split at hb4
          · rename_i q hcl2
            have htk := of_decide_eq_true hb4
            rw [List.map_cons, List.map_cons, List.map_cons, hv, hvv, zc_i0 hi]
            have hAS : pz_AS .aastore pt_cl pt_tk w' (.ref b :: .int (zk_i (i / 4)) :: .ref a :: r.map (zv g)) = some (w'.set a (.inl (k1 + 4, n, pz_a z (i / 4) (.ref b))), r.map (zv g)) := by
              unfold pz_AS
              dsimp only
              rw [hq1]
              dsimp only
              rw [if_neg (by rintro (z | z); exact n1 z; rw [n2] at z; omega), n2]
              try dsimp only
              rw [hr1]
              try dsimp only
              rw [hcl2]
              dsimp only
              rw [if_pos htk]
            refine zS hC (Or.inr rfl) (st1 := r.map (zv g)) (w1 := w'.set a (.inl (k1 + 4, n, pz_a z (i / 4) (.ref b)))) (c1 := 0) (s1 := 0) ?_ (hn _ _ _ _ _ _ h9 hQ _ _ hl (zR_w_set hw hlt (zR_c_set hvb hq2 ?_)))
            · unfold zk_s pz_S
              dsimp only
              rw [if_pos rfl, zk_ALS hAS]
              dsimp only
              rw [hAS]
            · have h0 : v ≠ 0 := by rintro rfl; cases hbv
              have : zl_e (k1 + 4) v = v := by unfold zl_e; rw [if_neg h0]
              rw [this, hvv]
              unfold zn
              rw [if_neg (by omega), if_pos (by omega)]
              rfl
          · cases hb4
    · cases h
  · cases h
theorem zi_rv (hC : zC j o cb nL ini none pc .return_ 1) : zI sc g j pc 1 ze_rv := by
  intro d E next jmp call hE hn hj hcl lv st t m out Q h hQ lv' w' hl hw
  unfold ze_rv at h
  split at h
  · cases h
    exact zR hC rfl (v := none) rfl (hQ w' hw)
  · cases h
theorem zi_ri {ty : FieldType} (hC : zC j o cb nL ini (some ty) pc .ireturn 1) : zI sc g j pc 1 (ze_ri ty) := by
  intro d E next jmp call hE hn hj hcl lv st t m out Q h hQ lv' w' hl hw
  unfold ze_ri at h
  split at h
  · rename_i c
    split at h
    · rename_i x hx
      have hv : zv g c = .int x := by unfold zv; rw [hx]; rfl
      obtain ⟨hb, h⟩ := ze_b_some h
      cases h
      refine zR hC rfl (v := some (zv g c)) ?_ (hQ w' hw)
      rw [List.map_cons, hv]
      exact if_pos ⟨rfl, of_decide_eq_true hb⟩
    · rename_i s hx
      have hv : zv g c = .int (g.1 s) := by unfold zv; rw [hx]; rfl
      split at h
      · cases h
        refine zR hC rfl (v := some (zv g c)) ?_ (hQ w' hw)
        rw [List.map_cons, hv]
        exact if_pos ⟨rfl, rfl⟩
      · cases h
    · cases h
  · cases h
theorem zi_rl (hC : zC j o cb nL ini (some .long) pc .lreturn 1) : zI sc g j pc 1 ze_rl := by
  intro d E next jmp call hE hn hj hcl lv st t m out Q h hQ lv' w' hl hw
  unfold ze_rl at h
  split at h
  · rename_i c
    split at h
    · rename_i x hx
      have hv : zv g c = .long x := by unfold zv; rw [hx]; rfl
      cases h
      refine zR hC rfl (v := some (zv g c)) ?_ (hQ w' hw)
      rw [List.map_cons, hv]
      rfl
    · rename_i b hx
      have hv : ∃ x, zv g c = .long x := by unfold zv; rw [hx]; exact ⟨_, rfl⟩
      obtain ⟨x, hv⟩ := hv
      cases h
      refine zR hC rfl (v := some (zv g c)) ?_ (hQ w' hw)
      rw [List.map_cons, hv]
      rfl
    · cases h
  · cases h
theorem zi_ra (hC : zC j o cb nL ini ret pc .areturn 1) (hr : (∃ C, ret = some (.object C)) ∨ ∃ e, ret = some (.array e)) : zI sc g j pc 1 ze_ra := by
  intro d E next jmp call hE hn hj hcl lv st t m out Q h hQ lv' w' hl hw
  unfold ze_ra at h
  split at h
  · rename_i c
    split at h
    · rename_i x hx
      have hv : zv g c = .ref x := by unfold zv; rw [hx]; rfl
      cases h
      refine zR hC rfl (v := some (zv g c)) ?_ (hQ w' hw)
      rw [List.map_cons, hv]
      rcases hr with ⟨C, rfl⟩ | ⟨e, rfl⟩ <;> rfl
    · cases h
  · cases h
theorem zi_thr (hG : zG g) {idx y : Nat} (hC : zC j o cb nL ini ret pc (.new idx) 3) (hK : pt_two pt_KL o idx = none) (hH : pt_HH j = []) (hT : pz_th (pt_two pt_XL) cb (.new idx) 3 o pc [] = some y) : zI sc g j pc 3 (ze_thr y) := by
  intro d E next jmp call hE hn hj hcl lv st t m out Q h hQ lv' w' hl hw
  unfold ze_thr at h
  obtain ⟨hb, h⟩ := ze_b_some h
  obtain ⟨n, nc, ns⟩ := m
  dsimp only at h
  rw [zs_f_eq, zs_f_eq] at h
  cases h
  refine zT hC hK hH ?_ (hQ w' hw)
  unfold pz_th at hT ⊢
  dsimp only at hT ⊢
  split at hT
  · rename_i hX
    split at hT
    · rename_i hcd
      cases hT
      rw [if_pos ⟨hcd.1, ze_four_ok hG hb, hcd.2.2⟩]
    · cases hT
  · cases hT
end ZKB
