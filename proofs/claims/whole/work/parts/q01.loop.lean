/-! ===== the law: its loop, all calls ===== -/
def wL_sl : List (Nat × wv_c1) := [(18, wq_c18), (20, wq_c20), (81, wq_c81), (89, wl_c89), (97, wl_c97), (99, wl_c99), (172, wl_c172), (186, wl_c186), (188, wl_c188), (196, wl_c196), (199, wl_c199), (215, wl_c215), (219, wl_c219), (221, wl_c221), (224, wl_c224), (231, wl_c231), (240, wr_c240), (305, wl_c305), (310, wl_c310), (312, wl_c312), (315, wl_c315), (317, wl_c317), (319, wl_c319), (331, wl_c331), (338, wl_c338), (340, wl_c340), (343, wp_c343), (344, wp_c344), (346, wp_c346), (347, pm_c347), (375, mr_c375), (410, wp_c410), (411, wp_c411), (412, rw_c412), (414, rw_c414), (415, rk_c415), (433, rk_c433), (435, rk_c435), (436, rk_c436), (437, ff_c437), (442, fb_c442), (451, wp_c451), (452, wp_c452), (454, wp_c454), (455, wp_c455), (456, se_c456), (462, wp_c462), (463, di_c463), (464, wp_c464), (465, dl_c465), (486, wp_c486), (490, tw_c490), (493, wp_c493)]
theorem wL_sl_ok {sc : pt_Sc} (hf : wt_fv sc) : wv_D wm_fx sc 68 (wv_sp wL_sl) := by
  refine wv_sp_ok (fun q hq => ?_)
  unfold wL_sl at hq
  rcases List.mem_cons.mp hq with h | h
  · rw [h]; exact wv_C_deep (by omega) (wq_clear (sc := sc) (d := 0))
  rcases List.mem_cons.mp h with h | h
  · rw [h]; exact wv_C_deep (by omega) (wq_readDesign hf (sc := sc) (d := 0))
  rcases List.mem_cons.mp h with h | h
  · rw [h]; exact wv_C_deep (by omega) (wq_readNumbers hf (sc := sc) (d := 0))
  rcases List.mem_cons.mp h with h | h
  · rw [h]; exact wv_C_deep (by omega) (wl_put (sc := sc) (d := 0))
  rcases List.mem_cons.mp h with h | h
  · rw [h]; exact wv_C_deep (by omega) (wl_end (sc := sc) (d := 0))
  rcases List.mem_cons.mp h with h | h
  · rw [h]; exact wv_C_deep (by omega) (wl_read hf (sc := sc) (d := 0))
  rcases List.mem_cons.mp h with h | h
  · rw [h]; exact wv_C_deep (by omega) (wl_letter (sc := sc) (d := 0))
  rcases List.mem_cons.mp h with h | h
  · rw [h]; exact wv_C_deep (by omega) (wl_word (sc := sc) (d := 0))
  rcases List.mem_cons.mp h with h | h
  · rw [h]; exact wv_C_deep (by omega) (wl_row (sc := sc) (d := 0))
  rcases List.mem_cons.mp h with h | h
  · rw [h]; exact wv_C_deep (by omega) (wl_goesOn (sc := sc) (d := 0))
  rcases List.mem_cons.mp h with h | h
  · rw [h]; exact wv_C_deep (by omega) (wl_classes (sc := sc) (d := 0))
  rcases List.mem_cons.mp h with h | h
  · rw [h]; exact wv_C_deep (by omega) (wl_classOf (sc := sc) (d := 0))
  rcases List.mem_cons.mp h with h | h
  · rw [h]; exact wv_C_deep (by omega) (wl_classBehind (sc := sc) (d := 0))
  rcases List.mem_cons.mp h with h | h
  · rw [h]; exact wv_C_deep (by omega) (wl_kind (sc := sc) (d := 0))
  rcases List.mem_cons.mp h with h | h
  · rw [h]; exact wv_C_deep (by omega) (wl_flops (sc := sc) (d := 0))
  rcases List.mem_cons.mp h with h | h
  · rw [h]; exact wv_C_deep (by omega) (wl_flop (sc := sc) (d := 0))
  rcases List.mem_cons.mp h with h | h
  · rw [h]; exact wv_C_deep (by omega) (wl_number hf (sc := sc) (d := 0))
  rcases List.mem_cons.mp h with h | h
  · rw [h]; exact wv_C_deep (by omega) (wl_has (sc := sc) (d := 0))
  rcases List.mem_cons.mp h with h | h
  · rw [h]; exact wv_C_deep (by omega) (wl_design (sc := sc) (d := 0))
  rcases List.mem_cons.mp h with h | h
  · rw [h]; exact wv_C_deep (by omega) (wl_gate (sc := sc) (d := 0))
  rcases List.mem_cons.mp h with h | h
  · rw [h]; exact wv_C_deep (by omega) (wl_latch (sc := sc) (d := 0))
  rcases List.mem_cons.mp h with h | h
  · rw [h]; exact wv_C_deep (by omega) (wl_signal (sc := sc) (d := 0))
  rcases List.mem_cons.mp h with h | h
  · rw [h]; exact wv_C_deep (by omega) (wl_search (sc := sc) (d := 0))
  rcases List.mem_cons.mp h with h | h
  · rw [h]; exact wv_C_deep (by omega) (wl_run (sc := sc) (d := 0))
  rcases List.mem_cons.mp h with h | h
  · rw [h]; exact wv_C_deep (by omega) (wl_differ (sc := sc) (d := 0))
  rcases List.mem_cons.mp h with h | h
  · rw [h]; exact wv_C_deep (by omega) (wl_witness (sc := sc) (d := 0))
  rcases List.mem_cons.mp h with h | h
  · rw [h]; exact wv_C_deep (by omega) (wp_thrown (sc := sc) (d := 0))
  rcases List.mem_cons.mp h with h | h
  · rw [h]; exact wv_C_deep (by omega) (wp_putC (sc := sc) (d := 0))
  rcases List.mem_cons.mp h with h | h
  · rw [h]; exact wv_C_deep (by omega) (wp_end (sc := sc) (d := 0))
  rcases List.mem_cons.mp h with h | h
  · rw [h]; exact wv_C_deep (by omega) (pm_read (sc := sc) (d := 0))
  rcases List.mem_cons.mp h with h | h
  · rw [h]; exact wv_C_deep (by omega) (mr_letter (sc := sc) (d := 0))
  rcases List.mem_cons.mp h with h | h
  · rw [h]; exact wv_C_deep (by omega) (wp_clear (sc := sc) (d := 0))
  rcases List.mem_cons.mp h with h | h
  · rw [h]; exact wv_C_deep (by omega) (wp_word (sc := sc) (d := 0))
  rcases List.mem_cons.mp h with h | h
  · rw [h]; exact wv_C_deep (by omega) (rw_mrow (sc := sc) (d := 0))
  rcases List.mem_cons.mp h with h | h
  · rw [h]; exact wv_C_deep (by omega) (rw_mgoes (sc := sc) (d := 0))
  rcases List.mem_cons.mp h with h | h
  · rw [h]; exact wv_C_deep (by omega) (rk_classes (sc := sc) (d := 0))
  rcases List.mem_cons.mp h with h | h
  · rw [h]; exact wv_C_deep (by omega) (rk_classOf (sc := sc) (d := 0))
  rcases List.mem_cons.mp h with h | h
  · rw [h]; exact wv_C_deep (by omega) (rk_classBehind (sc := sc) (d := 0))
  rcases List.mem_cons.mp h with h | h
  · rw [h]; exact wv_C_deep (by omega) (rk_kind (sc := sc) (d := 0))
  rcases List.mem_cons.mp h with h | h
  · rw [h]; exact wv_C_deep (by omega) (ff_mflops (sc := sc) (d := 0))
  rcases List.mem_cons.mp h with h | h
  · rw [h]; exact wv_C_deep (by omega) (fb_flop (sc := sc) (d := 0))
  rcases List.mem_cons.mp h with h | h
  · rw [h]; exact wv_C_deep (by omega) (wp_design (sc := sc) (d := 0))
  rcases List.mem_cons.mp h with h | h
  · rw [h]; exact wv_C_deep (by omega) (wp_gate (sc := sc) (d := 0))
  rcases List.mem_cons.mp h with h | h
  · rw [h]; exact wv_C_deep (by omega) (wp_latch (sc := sc) (d := 0))
  rcases List.mem_cons.mp h with h | h
  · rw [h]; exact wv_C_deep (by omega) (wp_signal (sc := sc) (d := 0))
  rcases List.mem_cons.mp h with h | h
  · rw [h]; exact wv_C_deep (by omega) (se_search (sc := sc) (d := 0))
  rcases List.mem_cons.mp h with h | h
  · rw [h]; exact wv_C_deep (by omega) (wp_run (sc := sc) (d := 0))
  rcases List.mem_cons.mp h with h | h
  · rw [h]; exact wv_C_deep (by omega) (di_differ (sc := sc) (d := 0))
  rcases List.mem_cons.mp h with h | h
  · rw [h]; exact wv_C_deep (by omega) (wp_witness (sc := sc) (d := 0))
  rcases List.mem_cons.mp h with h | h
  · rw [h]; exact wv_C_deep (by omega) (dl_readDesign (sc := sc) (d := 0))
  rcases List.mem_cons.mp h with h | h
  · rw [h]; exact wv_C_deep (by omega) (wp_readNumbers (sc := sc) (d := 0))
  rcases List.mem_cons.mp h with h | h
  · rw [h]; exact wv_C_deep (by omega) (tw_number (sc := sc) (d := 0))
  rw [List.mem_singleton.mp h]; exact wv_C_deep (by omega) (wp_has (sc := sc) (d := 0))
theorem wL_pk {pc k : Nat} (h : pt_look wL_pcs pc = some k) : (pc = 156 ∧ k = 0) ∨ (pc = 212 ∧ k = 1) ∨ (pc = 248 ∧ k = 2) ∨ (pc = 304 ∧ k = 3) ∨ (pc = 360 ∧ k = 4) ∨ (pc = 371 ∧ k = 5) ∨ (pc = 427 ∧ k = 6) ∨ (pc = 514 ∧ k = 7) ∨ (pc = 601 ∧ k = 8) ∨ (pc = 657 ∧ k = 9) ∨ (pc = 737 ∧ k = 10) ∨ (pc = 817 ∧ k = 11) ∨ (pc = 885 ∧ k = 12) ∨ (pc = 941 ∧ k = 13) ∨ (pc = 1016 ∧ k = 14) ∨ (pc = 1029 ∧ k = 15) ∨ (pc = 1042 ∧ k = 16) ∨ (pc = 1098 ∧ k = 17) ∨ (pc = 1154 ∧ k = 18) ∨ (pc = 1202 ∧ k = 19) ∨ (pc = 1270 ∧ k = 20) ∨ (pc = 1346 ∧ k = 21) ∨ (pc = 1394 ∧ k = 22) ∨ (pc = 1462 ∧ k = 23) ∨ (pc = 1530 ∧ k = 24) ∨ (pc = 1598 ∧ k = 25) := by
  have h2 := pt_look_mem h
  unfold wL_pcs at h2
  simpa [List.mem_cons, Prod.mk.injEq] using h2
set_option maxRecDepth 100000 in
set_option maxHeartbeats 4000000 in
/-- the law from its loop's head on -/
theorem wL_loop {Rel : wv_T → Nat → (Nat → Nat → Int32) → (Nat → Nat → Int64) → (Nat → Nat → Option Nat) → Nat → Nat → Nat → Prop} {xs : Nat → Int32} {Lg : Nat} {sc : pt_Sc} {q : wv_Q} (hf : wt_fv sc) (hLg : Lg ≤ 2048) (hmono : ∀ T N I L R nc ns i, Rel T N I L R nc ns i → Rel T N I L R nc ns (i + 4)) (hq : ∀ T N I L R nc ns i, i ≤ 2052 → Rel T N I L R nc ns i → q (.inl (some (.int 1))) T N I L R nc ns) (H0 : wL_0 Rel) (H1 : wL_1 Rel) (H2 : wL_2 Rel) (H3 : wL_3 Rel) (H4 : wL_4 Rel) (H5 : wL_5 Rel) (H6 : wL_6 Rel) (H7 : wL_7 Rel) (H8 : wL_8 Rel) (H9 : wL_9 Rel) (H10 : wL_10 Rel) (H11 : wL_11 Rel) (H12 : wL_12 Rel) (H13 : wL_13 Rel) (H14 : wL_14 Rel) (H15 : wL_15 Rel) (H16 : wL_16 Rel) (H17 : wL_17 Rel) (H18 : wL_18 Rel) (H19 : wL_19 Rel) (H20 : wL_20 Rel) (H21 : wL_21 Rel) (H22 : wL_22 Rel) (H23 : wL_23 Rel) (H24 : wL_24 Rel) (H25 : wL_25 Rel) : ∀ m lv st T N I L R nc ns, wL_P Rel xs Lg none m lv st T N I L R nc ns → ∀ w ls, wv_R wm_fx sc w T N I L R → wv_lv lv ls → zW sc (68 + 1) 0 23 ls st w nc ns (wv_E wm_fx sc q) := by
  obtain ⟨cb, ci, np, hm⟩ : ∃ cb ci np, pt_mt 0 = some (0, cb, 7, false, some .boolean, ci, np) := ⟨_, _, _, rfl⟩
  intro m lv st T N I L R nc ns hP w ls HR HL
  refine wv_heads (hh := none) (hd := wL_hd Rel xs Lg) (n := 100) (sp := wv_sp wL_sl) rfl hm zc_0 rfl (wL_sl_ok hf) ?_ m 23 _ (if_pos rfl) lv st T N I L R nc ns hP w ls HR HL
  intro pc P hP2
  unfold wL_hd at hP2
  by_cases e : pc = 23
  · rw [if_pos e] at hP2
    cases hP2
    subst e
    exact wL_head hLg hmono hq
  rw [if_neg e] at hP2
  obtain ⟨k, hk, rfl⟩ := Option.map_eq_some_iff.mp hP2
  have hc : (pc = 156 ∧ k = 0) ∨ (pc = 212 ∧ k = 1) ∨ (pc = 248 ∧ k = 2) ∨ (pc = 304 ∧ k = 3) ∨ (pc = 360 ∧ k = 4) ∨ (pc = 371 ∧ k = 5) ∨ (pc = 427 ∧ k = 6) ∨ (pc = 514 ∧ k = 7) ∨ (pc = 601 ∧ k = 8) ∨ (pc = 657 ∧ k = 9) ∨ (pc = 737 ∧ k = 10) ∨ (pc = 817 ∧ k = 11) ∨ (pc = 885 ∧ k = 12) ∨ (pc = 941 ∧ k = 13) ∨ (pc = 1016 ∧ k = 14) ∨ (pc = 1029 ∧ k = 15) ∨ (pc = 1042 ∧ k = 16) ∨ (pc = 1098 ∧ k = 17) ∨ (pc = 1154 ∧ k = 18) ∨ (pc = 1202 ∧ k = 19) ∨ (pc = 1270 ∧ k = 20) ∨ (pc = 1346 ∧ k = 21) ∨ (pc = 1394 ∧ k = 22) ∨ (pc = 1462 ∧ k = 23) ∨ (pc = 1530 ∧ k = 24) ∨ (pc = 1598 ∧ k = 25) := wL_pk hk
  rcases hc with ⟨rfl, rfl⟩ | ⟨rfl, rfl⟩ | ⟨rfl, rfl⟩ | ⟨rfl, rfl⟩ | ⟨rfl, rfl⟩ | ⟨rfl, rfl⟩ | ⟨rfl, rfl⟩ | ⟨rfl, rfl⟩ | ⟨rfl, rfl⟩ | ⟨rfl, rfl⟩ | ⟨rfl, rfl⟩ | ⟨rfl, rfl⟩ | ⟨rfl, rfl⟩ | ⟨rfl, rfl⟩ | ⟨rfl, rfl⟩ | ⟨rfl, rfl⟩ | ⟨rfl, rfl⟩ | ⟨rfl, rfl⟩ | ⟨rfl, rfl⟩ | ⟨rfl, rfl⟩ | ⟨rfl, rfl⟩ | ⟨rfl, rfl⟩ | ⟨rfl, rfl⟩ | ⟨rfl, rfl⟩ | ⟨rfl, rfl⟩ | ⟨rfl, rfl⟩
  · exact wL_case0 hLg H0 (fun _ _ _ _ _ _ _ h => h) (fun _ _ _ _ _ _ _ h => h) (fun _ _ _ _ _ _ _ h => h)
  · exact wL_case1 hLg H1 (fun _ _ _ _ _ _ _ h => h) (fun _ _ _ _ _ _ _ h => h) (fun _ _ _ _ _ _ _ h => h)
  · exact wL_case2 hLg H2 (fun _ _ _ _ _ _ _ h => h) (fun _ _ _ _ _ _ _ h => h) (fun _ _ _ _ _ _ _ h => h)
  · exact wL_case3 hLg H3 (fun _ _ _ _ _ _ _ h => h) (fun _ _ _ _ _ _ _ h => h) (fun _ _ _ _ _ _ _ h => h)
  · exact wL_case4 hLg H4 (fun _ _ _ _ _ _ _ h => h) (fun _ _ _ _ _ _ _ h => h)
  · exact wL_case5 hLg H5 (fun _ _ _ _ _ _ _ h => h) (fun _ _ _ _ _ _ _ h => h) (fun _ _ _ _ _ _ _ h => h)
  · exact wL_case6 hLg H6 (fun _ _ _ _ _ _ _ h => h) (fun _ _ _ _ _ _ _ h => h) (fun _ _ _ _ _ _ _ h => h)
  · exact wL_case7 hLg H7 (fun _ _ _ _ _ _ _ h => h) (fun _ _ _ _ _ _ _ h => h) (fun _ _ _ _ _ _ _ h => h)
  · exact wL_case8 hLg H8 (fun _ _ _ _ _ _ _ h => h) (fun _ _ _ _ _ _ _ h => h) (fun _ _ _ _ _ _ _ h => h)
  · exact wL_case9 hLg H9 (fun _ _ _ _ _ _ _ h => h) (fun _ _ _ _ _ _ _ h => h) (fun _ _ _ _ _ _ _ h => h)
  · exact wL_case10 hLg H10 (fun _ _ _ _ _ _ _ h => h) (fun _ _ _ _ _ _ _ h => h) (fun _ _ _ _ _ _ _ h => h)
  · exact wL_case11 hLg H11 (fun _ _ _ _ _ _ _ h => h) (fun _ _ _ _ _ _ _ h => h) (fun _ _ _ _ _ _ _ h => h)
  · exact wL_case12 hLg H12 (fun _ _ _ _ _ _ _ h => h) (fun _ _ _ _ _ _ _ h => h) (fun _ _ _ _ _ _ _ h => h)
  · exact wL_case13 hLg H13 (fun _ _ _ _ _ _ _ h => h) (fun _ _ _ _ _ _ _ h => h) (fun _ _ _ _ _ _ _ h => h)
  · exact wL_case14 hLg H14 (fun _ _ _ _ _ _ _ h => h) (fun _ _ _ _ _ _ _ h => h)
  · exact wL_case15 hLg H15 (fun _ _ _ _ _ _ _ h => h) (fun _ _ _ _ _ _ _ h => h)
  · exact wL_case16 hLg H16 (fun _ _ _ _ _ _ _ h => h) (fun _ _ _ _ _ _ _ h => h) (fun _ _ _ _ _ _ _ h => h)
  · exact wL_case17 hLg H17 (fun _ _ _ _ _ _ _ h => h) (fun _ _ _ _ _ _ _ h => h) (fun _ _ _ _ _ _ _ h => h)
  · exact wL_case18 hLg H18 (fun _ _ _ _ _ _ _ h => h) (fun _ _ _ _ _ _ _ h => h) (fun _ _ _ _ _ _ _ h => h)
  · exact wL_case19 hLg H19 (fun _ _ _ _ _ _ _ h => h) (fun _ _ _ _ _ _ _ h => h) (fun _ _ _ _ _ _ _ h => h)
  · exact wL_case20 hLg H20 (fun _ _ _ _ _ _ _ h => h) (fun _ _ _ _ _ _ _ h => h) (fun _ _ _ _ _ _ _ h => h)
  · exact wL_case21 hLg H21 (fun _ _ _ _ _ _ _ h => h) (fun _ _ _ _ _ _ _ h => h) (fun _ _ _ _ _ _ _ h => h)
  · exact wL_case22 hLg H22 (fun _ _ _ _ _ _ _ h => h) (fun _ _ _ _ _ _ _ h => h) (fun _ _ _ _ _ _ _ h => h)
  · exact wL_case23 hLg H23 (fun _ _ _ _ _ _ _ h => h) (fun _ _ _ _ _ _ _ h => h) (fun _ _ _ _ _ _ _ h => h)
  · exact wL_case24 hLg H24 (fun _ _ _ _ _ _ _ h => h) (fun _ _ _ _ _ _ _ h => h) (fun _ _ _ _ _ _ _ h => h)
  · exact wL_case25 hLg H25 (fun _ _ _ _ _ _ _ h => h) (fun _ _ _ _ _ _ _ h => h) (fun _ _ _ _ _ _ _ h => h)
