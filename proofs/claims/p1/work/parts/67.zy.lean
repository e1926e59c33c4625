/-! ===== the model's search: rows with names, a step is so ===== -/
def zr_f (rw : zr_R) (n : Nat) : Option (Nat × Nat × Nat × Nat) := rw.find? (fun r => Nat.ble r.2.2.2 n && Nat.blt n (r.2.2.2 + 13))
def zr_ok (rw : zr_R) : Bool := rw.all (fun q => Nat.blt q.1 538 && (Nat.beq q.2.1 1 || Nat.beq q.2.1 5) && Nat.ble 700 q.2.2.2 && Nat.blt q.2.2.2 800 && decide (pt_look rw q.1 = some q.2) && (List.range 13).all (fun i => decide (zr_f rw (q.2.2.2 + i) = some q)))
theorem zr_look {α β : Type} (f : α → β) : ∀ (l : List (Nat × α)) (a : Nat), pt_look (l.map fun q => (q.1, f q.2)) a = (pt_look l a).map f
  | [], a => rfl
  | q :: t, a => by
    show (if q.1 = a then some (f q.2) else pt_look (t.map fun q => (q.1, f q.2)) a) = ((if q.1 = a then some q.2 else pt_look t a)).map f
    by_cases h : q.1 = a
    · rw [if_pos h, if_pos h]
      rfl
    · rw [if_neg h, if_neg h]
      exact zr_look f t a
section ZYR
variable {rw : zr_R}
theorem zr_ok_q (h : zr_ok rw = true) {q : Nat × Nat × Nat × Nat} (hq : q ∈ rw) : q.1 < 538 ∧ (q.2.1 = 1 ∨ q.2.1 = 5) ∧ 700 ≤ q.2.2.2 ∧ q.2.2.2 < 800 ∧ pt_look rw q.1 = some q.2 ∧ ∀ i, i < 13 → zr_f rw (q.2.2.2 + i) = some q := by
  have h1 := List.all_eq_true.mp h q hq
  simp only [Bool.and_eq_true, Bool.or_eq_true, List.all_eq_true, List.mem_range, decide_eq_true_eq] at h1
  obtain ⟨⟨⟨⟨⟨h2, h3⟩, h4⟩, h4b⟩, h5⟩, h6⟩ := h1
  refine ⟨Nat.blt_eq.mp h2, h3.imp (fun z => Nat.eq_of_beq_eq_true z) (fun z => Nat.eq_of_beq_eq_true z), Nat.le_of_ble_eq_true h4, Nat.blt_eq.mp h4b, h5, h6⟩
theorem zr_f_lo (h : zr_ok rw = true) {n : Nat} (hn : n < 700) : zr_f rw n = none := by
  unfold zr_f
  rw [List.find?_eq_none]
  intro q hq hz
  have := (zr_ok_q h hq).2.2.1
  rw [Bool.and_eq_true] at hz
  have := Nat.le_of_ble_eq_true hz.1
  omega
theorem zr_l_g (h : zr_ok rw = true) (F : Nat × Nat × Nat → ze_C) (t : ze_T) {a : Nat} (ha : a < 1024) : zt_g (zt_l t (rw.map fun q => (q.1, F q.2))) a = ((pt_look rw a).map F).getD (zt_g t a) := by
  rw [zt_l_g t _ (fun q hq => ?_) a ha, zr_look]
  obtain ⟨r, hr, rfl⟩ := List.mem_map.mp hq
  have := (zr_ok_q h hr).1
  show r.1 < 1024
  omega
theorem zr_look_mem {a : Nat} {x : Nat × Nat × Nat} (h : pt_look rw a = some x) : (a, x) ∈ rw := pt_look_mem h
theorem zr_nm_b {b : Nat} (hb : b < 800) : (zr_nm b).all (fun c => Nat.blt c 4722366482869645213696) = true := by
  rw [List.all_eq_true]
  intro x hx
  unfold zr_nm at hx
  obtain ⟨i, hi, rfl⟩ := List.mem_map.mp hx
  have := List.mem_range.mp hi
  exact Nat.blt_eq.mpr (by omega)
theorem zr_nm_g (b i : Nat) : (zr_nm b).getD i 0 = if i < 13 then 16 * (b + i) + 3 else 0 := by
  unfold zr_nm
  rw [List.getD_eq_getElem?_getD, List.getElem?_map]
  by_cases h : i < 13
  · rw [if_pos h, List.getElem?_range h]
    rfl
  · rw [if_neg h, List.getElem?_eq_none (by rw [List.length_range]; omega)]
    rfl
theorem zr_i_ok {g : zy_G} {c : Nat} (h : zr_i c = true) : zv g c = .int (zh_gi g c) := by
  unfold zr_i at h
  split at h
  · rename_i h0
    exact zh_gi_ok h0
  · rename_i h0
    split at h
    · rename_i h1
      unfold zh_gi
      rw [zc_i3 h0 h1]
      rfl
    · cases h
  · cases h
/-- the names' values behind a run -/
def zr_gv (g : zy_G) (t2 : ze_T) (v : Int32) (n : Nat) : Option (Nat × Nat × Nat × Nat) → Int32
  | some q => zh_gi g (zp_g (zt_g t2 q.1).2.2 (zp_D (n - q.2.2.2)))
  | none => if n = 400 then v else g.1 n
def zr_g2 (rw : zr_R) (g : zy_G) (t2 : ze_T) (v : Int32) : zy_G := (fun n => zr_gv g t2 v n (zr_f rw n), g.2.1, g.2.2)
theorem zr_g2_n {g : zy_G} {t2 : ze_T} {v : Int32} (n : Nat) : (zr_g2 rw g t2 v).1 n = zr_gv g t2 v n (zr_f rw n) := rfl
theorem zr_g2_r {g : zy_G} {t2 : ze_T} {v : Int32} {a : Nat} {x : Nat × Nat × Nat} {i : Nat} (h : zr_f rw (x.2.2 + i) = some (a, x)) : (zr_g2 rw g t2 v).1 (x.2.2 + i) = zh_gi g (zp_g (zt_g t2 a).2.2 (zp_D i)) := by
  rw [zr_g2_n, h]
  unfold zr_gv
  dsimp only
  rw [Nat.add_sub_cancel_left]
theorem zr_g2_o (hr : zr_ok rw = true) {g : zy_G} {t2 : ze_T} {v : Int32} {n : Nat} (hn : n < 700) : (zr_g2 rw g t2 v).1 n = if n = 400 then v else g.1 n := by
  rw [zr_g2_n, zr_f_lo hr hn]
  rfl
theorem zr_P0 {P i : Nat} (h : P < zp_D 13) (hi : ¬ i < 13) : zp_g P (zp_D i) = 0 := by
  show P / zp_D i % _ = 0
  obtain ⟨f, rfl⟩ : ∃ f, i = 13 + f := ⟨i - 13, by omega⟩
  have hp := zp_Dp f
  have h3 : zp_D 13 * 1 ≤ zp_D 13 * zp_D f := Nat.mul_le_mul_left _ hp
  rw [Nat.mul_one] at h3
  rw [zp_Da, Nat.div_eq_of_lt (Nat.lt_of_lt_of_le h h3)]
theorem zr_row_ok {t2 : ze_T} {a : Nat} {x : Nat × Nat × Nat} (h : zr_row t2 (a, x) = true) : (zt_g t2 a).1 = x.1 ∧ (zt_g t2 a).2.1 = x.2.1 ∧ (zt_g t2 a).2.2 < zp_D 13 ∧ ∀ i, i < 13 → zr_i (zp_g (zt_g t2 a).2.2 (zp_D i)) = true := by
  unfold zr_row at h
  simp only [Bool.and_eq_true, List.all_eq_true, List.mem_range] at h
  obtain ⟨⟨⟨r1, r2⟩, r3⟩, r4⟩ := h
  exact ⟨Nat.eq_of_beq_eq_true r1, Nat.eq_of_beq_eq_true r2, Nat.blt_eq.mp r3, r4⟩
theorem zr_Sc {g g' : zy_G} {c : ze_C} {x : Nat × Nat × Nat} (q2 : x.1 = 1 ∨ x.1 = 5) (q4 : x.2.2 < 800) (f1 : c.1 = x.1) (f2 : c.2.1 = x.2.1) (f3 : c.2.2 < zp_D 13) (r4 : ∀ i, i < 13 → zr_i (zp_g c.2.2 (zp_D i)) = true) (hg : ∀ i, i < 13 → g'.1 (x.2.2 + i) = zh_gi g (zp_g c.2.2 (zp_D i))) : zSc g g' c (x.1, x.2.1, zr (zr_nm x.2.2)) := by
  obtain ⟨c1, c2, c3⟩ := c
  obtain ⟨x1, x2, x3⟩ := x
  dsimp only at *
  refine Or.inr (Or.inr ⟨f1, f2, ?_, fun i => ?_⟩)
  · dsimp only
    rw [f1]
    rcases q2 with z | z
    · exact Or.inl z
    · exact Or.inr (Or.inl z)
  · dsimp only
    rw [zr_g _ (zr_nm_b q4), zr_nm_g]
    by_cases hi : i < 13
    · rw [if_pos hi, zr_i_ok (r4 i hi), zv_n (x3 + i), hg i hi]
    · rw [if_neg hi, zr_P0 f3 hi]
      exact zv_nl (by decide)
theorem zr_Sm {g : zy_G} {t2 B : ze_T} {v : Int32} (h : zr_ok rw = true) (hB : zn_t B = true) (hc : zq_t (zr_cl rw t2) B = true) (hr : rw.all (zr_row t2) = true) : zSm g (zr_g2 rw g t2 v) 538 t2 (zr_T rw B) := by
  have e := zq_t_ok _ _ hc
  intro a ha
  have e1 : zt_g (zr_T rw B) a = ((pt_look rw a).map (fun x : Nat × Nat × Nat => ((x.1, x.2.1, zr (zr_nm x.2.2)) : ze_C))).getD (zt_g B a) := zr_l_g h (fun x => (x.1, x.2.1, zr (zr_nm x.2.2))) B (by omega)
  have e2 : zt_g (zr_cl rw t2) a = ((pt_look rw a).map (fun _ : Nat × Nat × Nat => ((0, 0, 0) : ze_C))).getD (zt_g t2 a) := zr_l_g h (fun _ => (0, 0, 0)) t2 (by omega)
  rw [e1]
  cases hl : pt_look rw a with
  | none =>
    rw [hl] at e2
    rw [e] at e2
    show zSc g _ (zt_g t2 a) (zt_g B a)
    have e3 : zt_g B a = zt_g t2 a := e2
    rw [e3]
    refine Or.inr (Or.inl ⟨rfl, ?_⟩)
    rw [← e3]
    exact zn_t_ok hB a
  | some x =>
    have hm := zr_look_mem hl
    obtain ⟨q1, q2, q3, q4, q5, q6⟩ := zr_ok_q h hm
    obtain ⟨f1, f2, f3, r4⟩ := zr_row_ok (List.all_eq_true.mp hr _ hm)
    exact zr_Sc q2 q4 f1 f2 f3 r4 (fun i hi => zr_g2_r (q6 i hi))
/-- the same rows under names of which the rows' are the same -/
theorem zr_Sn {g g' : zy_G} {B : ze_T} (h : zr_ok rw = true) (hB : zn_t B = true) (hg : ∀ n, 700 ≤ n → g.1 n = g'.1 n) : zSm g g' 538 (zr_T rw B) (zr_T rw B) := by
  intro a ha
  have e1 : zt_g (zr_T rw B) a = ((pt_look rw a).map (fun x : Nat × Nat × Nat => ((x.1, x.2.1, zr (zr_nm x.2.2)) : ze_C))).getD (zt_g B a) := zr_l_g h (fun x => (x.1, x.2.1, zr (zr_nm x.2.2))) B (by omega)
  rw [e1]
  cases hl : pt_look rw a with
  | none => exact Or.inr (Or.inl ⟨rfl, zn_t_ok hB a⟩)
  | some x =>
    have hm := zr_look_mem hl
    obtain ⟨q1, q2, q3, q4, q5, q6⟩ := zr_ok_q h hm
    show zSc g g' (x.1, x.2.1, zr (zr_nm x.2.2)) (x.1, x.2.1, zr (zr_nm x.2.2))
    refine Or.inr (Or.inr ⟨rfl, rfl, ?_, fun i => ?_⟩)
    · rcases q2 with z | z
      · exact Or.inl z
      · exact Or.inr (Or.inl z)
    · dsimp only
      rw [zr_g _ (zr_nm_b q4), zr_nm_g]
      by_cases hi : i < 13
      · rw [if_pos hi, zv_n, zv_n, hg _ (by have : 700 ≤ x.2.2 := q3; omega)]
      · rw [if_neg hi]
        exact zv_nl (by decide)
/-- rows left unknown -/
theorem zr_Sw {g g' : zy_G} {t2 B : ze_T} (h : zr_ok rw = true) (hB : zn_t B = true) (hc : zq_t (zr_cl rw t2) B = true) : zSm g g' 538 t2 (zr_wl rw B) := by
  have e := zq_t_ok _ _ hc
  intro a ha
  have e1 : zt_g (zr_wl rw B) a = ((pt_look rw a).map (fun _ : Nat × Nat × Nat => ((10000, 0, 0) : ze_C))).getD (zt_g B a) := zr_l_g h (fun _ => (10000, 0, 0)) B (by omega)
  have e2 : zt_g (zr_cl rw t2) a = ((pt_look rw a).map (fun _ : Nat × Nat × Nat => ((0, 0, 0) : ze_C))).getD (zt_g t2 a) := zr_l_g h (fun _ => (0, 0, 0)) t2 (by omega)
  rw [e1]
  cases hl : pt_look rw a with
  | none =>
    rw [hl] at e2
    rw [e] at e2
    show zSc g _ (zt_g t2 a) (zt_g B a)
    have e3 : zt_g B a = zt_g t2 a := e2
    rw [e3]
    refine Or.inr (Or.inl ⟨rfl, ?_⟩)
    rw [← e3]
    exact zn_t_ok hB a
  | some x => exact Or.inl rfl
end ZYR
/-! locals -/
theorem zs_LV_g {a t c : Nat} (ha : a < 100) (ht : t < 100) (hc : c < 10000) (i : Nat) : zp_g (zs_LV a t c) (zp_D i) = [1847, 4 * a + 1, 9604, 4 * t + 1, c].getD i 0 := by
  unfold zs_LV
  apply zr_g
  simp only [List.all_cons, List.all_nil, Bool.and_true, Bool.and_eq_true]
  exact ⟨by decide, Nat.blt_eq.mpr (by omega), by decide, Nat.blt_eq.mpr (by omega), Nat.blt_eq.mpr (by omega)⟩
theorem zs_Sl {g g' : zy_G} {lv2 a t c' : Nat} (ha : a < 100) (ht : t < 100) (hc' : c' < 10000) (h : ∀ i, i ≠ 4 → i ≠ 5 → zp_g lv2 (zp_D i) = zp_g (zs_LV a t 0) (zp_D i)) (h6 : g.1 600 = g'.1 600)
    (h4 : c' = 0 ∨ ∃ e e', zp_g lv2 (zp_D 4) = e + 1 ∧ c' = e' + 1 ∧ zv g e = zv g' e' ∧ zc_ct e = zc_ct e' ∧ e ≠ 15 ∧ e' ≠ 15) : zSl g g' lv2 (zs_LV a t c') := by
  have h16 : c' ≠ 16 := by
    rcases h4 with z | ⟨e, e', -, z, -, -, -, z2⟩ <;> omega
  intro i e hi
  rw [zs_LV_g ha ht hc'] at hi
  have hnx : zp_g (zs_LV a t c') (zp_D (i + 1)) ≠ 16 := by
    rw [zs_LV_g ha ht hc']
    rcases i with _ | _ | _ | _ | i
    · show 4 * a + 1 ≠ 16
      omega
    · show 9604 ≠ 16
      decide
    · show 4 * t + 1 ≠ 16
      omega
    · exact h16
    · show (0 : Nat) ≠ 16
      decide
  rcases i with _ | _ | _ | _ | _ | i
  · right
    have he : e = 1846 := by
      have : 1847 = e + 1 := hi
      omega
    subst he
    refine ⟨1846, ?_, by decide, zv_nl (by decide), rfl, fun z => absurd z hnx⟩
    rw [h 0 (by decide) (by decide), zs_LV_g ha ht (by decide)]
    rfl
  · right
    have he : e = 4 * a := by
      have : 4 * a + 1 = e + 1 := hi
      omega
    subst he
    refine ⟨4 * a, ?_, by omega, zv_nl (by show (4 * a) % 4 ≠ 3; omega), rfl, fun z => absurd z hnx⟩
    rw [h 1 (by decide) (by decide), zs_LV_g ha ht (by decide)]
    rfl
  · right
    have he : e = 9603 := by
      have : 9604 = e + 1 := hi
      omega
    subst he
    refine ⟨9603, ?_, by decide, ?_, rfl, fun z => absurd z hnx⟩
    · rw [h 2 (by decide) (by decide), zs_LV_g ha ht (by decide)]
      rfl
    · rw [show (9603 : Nat) = 16 * 600 + 3 from rfl, zv_n, zv_n, h6]
  · right
    have he : e = 4 * t := by
      have : 4 * t + 1 = e + 1 := hi
      omega
    subst he
    refine ⟨4 * t, ?_, by omega, zv_nl (by show (4 * t) % 4 ≠ 3; omega), rfl, fun z => absurd z hnx⟩
    rw [h 3 (by decide) (by decide), zs_LV_g ha ht (by decide)]
    rfl
  · have hi2 : c' = e + 1 := hi
    rcases h4 with z | ⟨e0, e', y1, y2, y3, y4, y5, y6⟩
    · omega
    · right
      have he : e = e' := by omega
      subst he
      exact ⟨e0, y1, y5, y3, y4, fun z => absurd z hnx⟩
  · exfalso
    have : (0 : Nat) = e + 1 := hi
    omega
