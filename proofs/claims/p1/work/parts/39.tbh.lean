/-! ===== what the tables say holds: pz_Tb and pz_Mb ===== -/
set_option maxRecDepth 100000 in
theorem pt_m2 : pt_mall (fun _ v => decide (v.1 < pt_nmL.length)) pt_mL = true := by decide +kernel
theorem pt_thr_mem {y : Cond} (h : y ∈ pt_thr.map fun q => q.2) : y ∈ pt_U := by
  obtain ⟨q, hq, rfl⟩ := List.mem_map.mp h
  exact pt_at_ok pt_thr_at hq
theorem pt_mt_ok : ∀ j o code nL ini ret ci np, pt_mt j = some (o, code, nL, ini, ret, ci, np) → (pt_my j).cls = pt_nm o ∧ pz_cw (pt_my j) code nL ret (pt_HH j) ∈ pt_U ∧ plainName (pt_my j).cls = true ∧ (ini = true → (pt_my j).name = "<init>") ∧ Cond.initialized (pt_my j).cls ∈ pt_U ∧ ((pt_my j).cls ≠ "java/lang/invoke/MethodHandle" ∧ (pt_my j).cls ≠ "java/lang/invoke/VarHandle") ∧ (parseMethodDescriptor (pt_my j).desc).map (fun d => d.parameters.length) = some np := by
  intro j o cb nL ini rt ci np h
  have hc := pt_mall_ok pt_m1 h
  have h2 := of_decide_eq_true (pt_mall_ok pt_m2 h)
  unfold pt_cm1 at hc
  simp only [Bool.and_eq_true, decide_eq_true_eq, Bool.or_eq_true, Bool.not_eq_true'] at hc
  obtain ⟨⟨⟨⟨a1, a2⟩, a3⟩, a4⟩, a5⟩ := hc
  exact ⟨a1, pt_code_ok h, a2, fun z => a3.elim (fun q => by rw [z] at q; cases q) id, pt_o_ok h2 a1, a4, a5⟩
theorem pt_X_ok : ∀ o idx x ic, pt_X o idx = some (x, ic) → ∃ names : List String, names.length ≤ 4 ∧ Bundle.fit (pt_xn x) = true ∧ (∀ n ∈ names, Bundle.fit n = true) ∧ Cond.classLink (pt_nm o) idx (pt_xn x) ∈ pt_U ∧ Cond.initialized (pt_xn x) ∈ pt_U ∧ (∀ y ∈ vx_at0 (pt_nm o) ic (pt_xn x) names, y ∈ pt_U ++ pt_E) ∧ ∀ y ∈ Cond.classLink (pt_nm o) idx (pt_xn x) :: Cond.initialized (pt_xn x) :: vx_at0 (pt_nm o) ic (pt_xn x) names, vx_ot y = true := by
  intro o idx x ic h
  have hc := pt_all_ok pt_X_all h
  unfold pt_cX at hc
  dsimp only at hc
  simp only [Bool.and_eq_true, decide_eq_true_eq] at hc
  obtain ⟨⟨⟨⟨⟨a1, a2⟩, a3⟩, a4⟩, a5⟩, a6⟩ := hc
  have a7 := List.all_eq_true.mp a6
  refine ⟨pt_xs, by decide, a1, by decide +kernel, pt_w_ok a2, pt_thr_mem a4, fun y hy => ?_, fun y hy => ?_⟩
  · have := a7 y hy
    simp only [Bool.and_eq_true, Bool.or_eq_true, decide_eq_true_eq] at this
    exact this.1.elim (fun z => List.mem_append_right _ z) (fun z => List.mem_append_left _ (pt_thr_mem z))
  · rcases List.mem_cons.mp hy with rfl | hy
    · exact a3
    · rcases List.mem_cons.mp hy with rfl | hy
      · exact a5
      · have := a7 y hy
        rw [Bool.and_eq_true] at this
        exact this.2
theorem pt_Mb : pz_Mb pt_U pt_E pt_nm pt_my pt_xn pt_cl pt_M pt_X pt_mt pt_HH pt_CX := by
  refine ⟨pt_Ugood, pt_mt_ok, fun o idx j h => ?_, fun o idx j h => ?_, fun o idx j h => ?_, fun o idx j h => ?_, fun o idx j h => ?_, fun o idx j h => ?_, fun o idx j h => ?_, pt_HH_ok, fun o t y h => ?_, fun o t y h => ?_, pt_X_ok⟩
  · have hc := pt_M_ok h
    unfold pt_cM at hc
    simp only [Bool.and_eq_true, decide_eq_true_eq] at hc
    obtain ⟨⟨⟨⟨a1, a2⟩, a3⟩, a4⟩, a5⟩ := hc
    refine ⟨pt_w_ok a1, pt_w_ok a2, pt_w_ok a3, fun o1 cb nL ini rt ci np hm => ?_⟩
    rw [hm] at a5
    exact pt_cl_nm (of_decide_eq_true a5)
  · have hc := pt_M_ok h
    unfold pt_cM at hc
    simp only [Bool.and_eq_true, decide_eq_true_eq] at hc
    obtain ⟨⟨⟨⟨a1, a2⟩, a3⟩, a4⟩, a5⟩ := hc
    refine ⟨pt_w_ok a1, pt_w_ok a2, a3, fun o1 cb nL ini rt ci np hm => ?_⟩
    rw [hm] at a5
    exact of_decide_eq_true a5
  · have hc := pt_M_ok h
    unfold pt_cM at hc
    simp only [Bool.and_eq_true, decide_eq_true_eq] at hc
    obtain ⟨⟨⟨⟨a1, a2⟩, a3⟩, a4⟩, a5⟩ := hc
    refine ⟨⟨_, a1⟩, pt_w_ok a2, a3, fun o1 cb nL ini rt ci np hm => ?_⟩
    rw [hm] at a5
    exact of_decide_eq_true a5
  · have hc := pt_M_ok h
    unfold pt_cM at hc
    simp only [Bool.and_eq_true, decide_eq_true_eq] at hc
    exact ⟨pt_w_ok hc.1.1, pt_w_ok hc.1.2⟩
  · have hc := pt_M_ok h
    unfold pt_cM at hc
    simp only [Bool.and_eq_true, decide_eq_true_eq] at hc
    obtain ⟨⟨⟨⟨a1, a2⟩, a3⟩, a4⟩, a5⟩ := hc
    refine ⟨pt_w_ok a1, pt_w_ok a2, pt_w_ok a3, fun o1 cb nL ini rt ci np hm => ?_⟩
    rw [hm] at a5
    dsimp only at a5
    split at a5
    · rename_i C T N hcl
      exact ⟨C, T, N, hcl, pt_w_ok a5⟩
    · cases a5
  · have hc := pt_M_ok h
    unfold pt_cM at hc
    simp only [Bool.and_eq_true, decide_eq_true_eq] at hc
    obtain ⟨⟨⟨⟨⟨⟨a1, a2⟩, a3⟩, a4⟩, a5⟩, a6⟩, a7⟩ := hc
    refine ⟨pt_w_ok a1, pt_w_ok a2, pt_w_ok a3, pt_w_ok a4, a5, fun o1 cb nL ini rt ci np hm => ?_⟩
    rw [hm] at a7
    dsimp only at a7
    obtain ⟨z, hz⟩ := Option.isSome_iff_exists.mp a7
    exact ⟨z.1, z.2.1, z.2.2, hz⟩
  · have hc := pt_M_ok h
    unfold pt_cM at hc
    simp only [Bool.and_eq_true, decide_eq_true_eq] at hc
    exact ⟨pt_w_ok hc.1.1, pt_w_ok hc.1.2, hc.2⟩
  · obtain ⟨y1, rfl, h1, h2, h3⟩ := pt_CX_ok h
    unfold pt_cCX at h3
    simp only [Bool.and_eq_true, decide_eq_true_eq] at h3
    obtain ⟨⟨⟨a1, a2⟩, a3⟩, a4⟩ := h3
    have : y = y1 := of_decide_eq_true h2.symm
    subst this
    exact ⟨_, pt_w_ok a2, List.mem_append_right _ a3⟩
  · obtain ⟨y1, rfl, h1, h2, h3⟩ := pt_CX_ok h
    unfold pt_cCX at h3
    simp only [Bool.and_eq_true, decide_eq_true_eq] at h3
    obtain ⟨⟨⟨a1, a2⟩, a3⟩, a4⟩ := h3
    have hne : ¬ y = y1 := of_decide_eq_false h2.symm
    have := List.all_eq_true.mp a4 y (List.mem_range.mpr h1)
    simp only [Bool.or_eq_true, decide_eq_true_eq] at this
    exact ⟨_, pt_w_ok a2, this.elim (fun z => absurd z hne) id⟩
theorem pt_Tb {fv : Value} (hf : pz_o 0 fv) : pz_Tb (pt_U ++ pt_E) pt_nm pt_cl pt_tk 8 pt_F pt_K pt_KA pt_G pt_M pt_fz (pt_STf fv) pt_LS (pt_SFf fv) pt_RS := by
  refine ⟨fun ci C T N h => ?_, fun o idx ci k fin ty h => ?_, fun o idx ci h => ?_, ⟨pt_KA_ok, pt_KA2_ok⟩, ⟨by decide, List.mem_append_left _ (pt_w_ok pt_g11), List.mem_append_left _ (pt_w_ok pt_g12), List.mem_append_left _ (pt_w_ok pt_g13), List.mem_append_left _ (pt_w_ok pt_g14)⟩, fun o idx y h => List.mem_append_left _ (pt_G_i o idx y h), fun o idx y h => List.mem_append_left _ (pt_G_l o idx y h), fun o idx h => ?_, pt_STf_ok hf, pt_LS_ok, fun o idx h => ?_, fun o idx h => ?_, fun o idx h => ?_⟩
  · obtain ⟨a1, a2⟩ := pt_C_ok ci C T N h
    exact ⟨fun w hw => List.mem_append_left _ (a1 w hw), a2⟩
  · obtain ⟨C, T, N, a1, a2, a3, a4⟩ := pt_F_ok o idx ci k fin ty h
    exact ⟨C, T, N, a1, a2, List.mem_append_left _ a3, a4⟩
  · obtain ⟨C, T, N, a1, a2, a3, a4⟩ := pt_K_ok o idx ci h
    exact ⟨C, T, N, a1, List.mem_append_left _ a2, List.mem_append_left _ a3, List.mem_append_left _ a4⟩
  · have hc := pt_M_ok h
    unfold pt_cM at hc
    simp only [Bool.and_eq_true, decide_eq_true_eq] at hc
    exact ⟨List.mem_append_left _ (pt_w_ok hc.2), List.mem_append_left _ (pt_w_ok pt_g1), List.mem_append_left _ (pt_w_ok pt_g2)⟩
  · have hc := pt_M_ok h
    unfold pt_cM at hc
    simp only [Bool.and_eq_true, decide_eq_true_eq] at hc
    exact ⟨List.mem_append_left _ (pt_w_ok hc.1), List.mem_append_left _ (pt_w_ok pt_g3), List.mem_append_left _ (pt_w_ok pt_g4), List.mem_append_left _ (pt_w_ok pt_g5)⟩
  · have hc := pt_M_ok h
    unfold pt_cM at hc
    simp only [Bool.and_eq_true, decide_eq_true_eq] at hc
    exact ⟨List.mem_append_left _ (pt_w_ok hc.1), List.mem_append_left _ (pt_w_ok pt_g6), List.mem_append_left _ (pt_w_ok pt_g7), List.mem_append_left _ (pt_w_ok pt_g8)⟩
  · have hc := pt_M_ok h
    unfold pt_cM at hc
    simp only [Bool.and_eq_true, decide_eq_true_eq] at hc
    exact ⟨List.mem_append_left _ (pt_w_ok hc.1), List.mem_append_left _ (pt_w_ok pt_g9), List.mem_append_left _ (pt_w_ok pt_g7), List.mem_append_left _ (pt_w_ok pt_g10)⟩
