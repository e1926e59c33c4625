/-! ===== what the tables say holds: put together ===== -/
theorem pt_piece {α : Type} {P : α → Prop} {l : List α} (a n : Nat) (h1 : ∀ r ∈ (l.drop a).take n, P r) (h2 : ∀ r ∈ l.drop (a + n), P r) : ∀ r ∈ l.drop a, P r := fun r hr => by
  rw [← List.take_append_drop n (l.drop a), List.drop_drop] at hr
  exact (List.mem_append.mp hr).elim (h1 r) (h2 r)
theorem pt_M_32 : ∀ r ∈ pt_ML.getD 32 [], pt_cM 32 r.1 r.2 = true := by
  have h : ∀ r ∈ (pt_ML.getD 32 []).drop 0, pt_cM 32 r.1 r.2 = true := (pt_piece 0 30 (List.all_eq_true.mp pt_M_32_0) (pt_piece 30 30 (List.all_eq_true.mp pt_M_32_30) (pt_piece 60 30 (List.all_eq_true.mp pt_M_32_60) (pt_piece 90 30 (List.all_eq_true.mp pt_M_32_90) (pt_piece 120 30 (List.all_eq_true.mp pt_M_32_120) (fun r hr => by rw [List.drop_eq_nil_of_le (by decide +kernel)] at hr; cases hr))))))
  exact h
theorem pt_ML_len : pt_ML.length = 33 := by decide +kernel
theorem pt_Mc : ∀ o, o < 33 → ∀ r ∈ pt_ML.getD o [], pt_cM o r.1 r.2 = true := fun o ho => match o, ho with
  | 0, _ => List.all_eq_true.mp pt_M_0
  | 1, _ => List.all_eq_true.mp pt_M_1
  | 2, _ => List.all_eq_true.mp pt_M_2
  | 3, _ => List.all_eq_true.mp pt_M_3
  | 4, _ => List.all_eq_true.mp pt_M_4
  | 5, _ => List.all_eq_true.mp pt_M_5
  | 6, _ => List.all_eq_true.mp pt_M_6
  | 7, _ => List.all_eq_true.mp pt_M_7
  | 8, _ => List.all_eq_true.mp pt_M_8
  | 9, _ => List.all_eq_true.mp pt_M_9
  | 10, _ => List.all_eq_true.mp pt_M_10
  | 11, _ => List.all_eq_true.mp pt_M_11
  | 12, _ => List.all_eq_true.mp pt_M_12
  | 13, _ => List.all_eq_true.mp pt_M_13
  | 14, _ => List.all_eq_true.mp pt_M_14
  | 15, _ => List.all_eq_true.mp pt_M_15
  | 16, _ => List.all_eq_true.mp pt_M_16
  | 17, _ => List.all_eq_true.mp pt_M_17
  | 18, _ => List.all_eq_true.mp pt_M_18
  | 19, _ => List.all_eq_true.mp pt_M_19
  | 20, _ => List.all_eq_true.mp pt_M_20
  | 21, _ => List.all_eq_true.mp pt_M_21
  | 22, _ => List.all_eq_true.mp pt_M_22
  | 23, _ => List.all_eq_true.mp pt_M_23
  | 24, _ => List.all_eq_true.mp pt_M_24
  | 25, _ => List.all_eq_true.mp pt_M_25
  | 26, _ => List.all_eq_true.mp pt_M_26
  | 27, _ => List.all_eq_true.mp pt_M_27
  | 28, _ => List.all_eq_true.mp pt_M_28
  | 29, _ => List.all_eq_true.mp pt_M_29
  | 30, _ => List.all_eq_true.mp pt_M_30
  | 31, _ => List.all_eq_true.mp pt_M_31
  | 32, _ => pt_M_32
  | n + 33, h => absurd h (by omega)
theorem pt_M_ok {o i : Nat} {v : Nat × Nat} (h : pt_M o i = some v) : pt_cM o i v = true := by
  unfold pt_M pt_two at h
  split at h
  · rename_i t ht
    have hlt := (List.getElem?_eq_some_iff.mp ht).1
    rw [pt_ML_len] at hlt
    exact pt_Mc o hlt (i, v) (by rw [List.getD_eq_getElem?_getD, ht]; exact pt_look_mem h)
  · cases h
theorem pt_HH_ok : ∀ o idx h j, pt_M o idx = some (h, j) → h ≠ 9 → pt_HH j = [] := by
  intro o idx h j hM h9
  have hc := pt_M_ok hM
  unfold pt_cM at hc
  dsimp only at hc
  split at hc
  · simp only [Bool.and_eq_true, decide_eq_true_eq] at hc
    exact hc.1.2
  · simp only [Bool.and_eq_true, decide_eq_true_eq] at hc
    exact hc.1.2
  · simp only [Bool.and_eq_true, decide_eq_true_eq] at hc
    exact hc.1.2
  · simp only [Bool.and_eq_true, decide_eq_true_eq] at hc
    exact hc.2
  · simp only [Bool.and_eq_true, decide_eq_true_eq] at hc
    exact hc.1.2
  · simp only [Bool.and_eq_true, decide_eq_true_eq] at hc
    rw [hc.1]
    exact pt_H0
  · simp only [Bool.and_eq_true, decide_eq_true_eq] at hc
    exact hc.1.2
  · simp only [Bool.and_eq_true, decide_eq_true_eq] at hc
    exact hc.2
  · exact absurd rfl h9
  · simp only [Bool.and_eq_true, decide_eq_true_eq] at hc
    exact hc.2
  · simp only [Bool.and_eq_true, decide_eq_true_eq] at hc
    exact hc.2
  · cases hc
def pf_CX : List (Nat × Nat) := [(13, 1012), (15, 1013), (24, 1116), (36, 1525), (62, 1714)]
def pt_cCX (t y : Nat) : Bool := decide (y < 5) && pt_w ((pt_look pf_CX t).getD 0) (.classLink (pt_nm 0) t (pt_xn y)) && decide (Cond.castable (pt_xn y) (pt_xn y) ∈ pt_E) && (List.range 5).all (fun x => decide (x = y) || decide (Cond.not (.castable (pt_xn x) (pt_xn y)) ∈ pt_E))
set_option maxRecDepth 100000 in
theorem pt_CX_all : (pt_CXL.all fun q => pt_cCX q.1 q.2) = true := by decide +kernel
theorem pt_CX_ok {o t x : Nat} {b : Bool} (h : pt_CX o t x = some b) : ∃ y, o = 0 ∧ x < 5 ∧ b = decide (x = y) ∧ pt_cCX t y = true := by
  unfold pt_CX at h
  split at h
  · rename_i ho
    split at h
    · rename_i y hy
      cases h
      exact ⟨y, ho.1, ho.2, rfl, List.all_eq_true.mp pt_CX_all (t, y) (pt_look_mem hy)⟩
    · cases h
  · cases h
theorem pt_cl_nm {ci : Nat} {C : String} (h : (pt_cl[ci]?).map (fun z => z.1) = some C) : ∃ (T : u_T) (N : Nat), pt_cl[ci]? = some (C, T, N) := by
  cases hc : pt_cl[ci]? with
  | none => rw [hc] at h; cases h
  | some z =>
    rw [hc] at h
    cases h
    exact ⟨_, _, rfl⟩
theorem pt_o_ok {o : Nat} {C : String} (ho : o < pt_nmL.length) (h : C = pt_nm o) : Cond.initialized C ∈ pt_U := by
  have hl : pf_o.length = pt_nmL.length := by decide +kernel
  have hz : (pt_nmL.zip pf_o)[o]? = some (pt_nmL[o], pf_o[o]'(by rw [hl]; exact ho)) := by
    rw [List.getElem?_eq_getElem (by rw [List.length_zip, hl, Nat.min_self]; exact ho), List.getElem_zip]
  have h1 := List.all_eq_true.mp pt_o1 _ (List.mem_of_getElem? hz)
  have h2 : pt_nm o = pt_nmL[o] := by
    unfold pt_nm
    rw [List.getD_eq_getElem?_getD, List.getElem?_eq_getElem ho]
    rfl
  rw [h, h2]
  exact pt_w_ok h1
