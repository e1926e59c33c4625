/-! ===== every script, from a relation that is kept ===== -/
/-- the start: the law stands before its loop, and Rel holds -/
def st_S (Rel : wv_T → Nat → (Nat → Nat → Int32) → (Nat → Nat → Int64) → (Nat → Nat → Option Nat) → Nat → Nat → Nat → Prop) : Prop := ∀ (fv : Value), (fv = .null ∨ fv = .ref 1099511627783) → ∀ (Lg : Nat) (xs : Nat → Int32), Lg ≤ 2048 → ∃ w ls T N I L R nc ns, wv_R wm_fx (pt_sc Lg xs fv) w T N I L R ∧ wv_lv (wL_lv 0 none none) ls ∧ T 1099511627776 = some (.inr (0, Lg)) ∧ (∀ j, j < Lg → I 1099511627776 j = xs j) ∧ Rel T N I L R nc ns 0 ∧ ∀ Q, zW (pt_sc Lg xs fv) (68 + 1) 0 23 ls [] w nc ns Q → zW (pt_sc Lg xs fv) (68 + 1) 0 0 [(0, .ref 1099511627776)] [] [] 0 0 Q
theorem rl_All {Rel : wv_T → Nat → (Nat → Nat → Int32) → (Nat → Nat → Int64) → (Nat → Nat → Option Nat) → Nat → Nat → Nat → Prop} (hstart : st_S Rel) (hroom : ∀ T N I L R nc ns i, i ≤ 2052 → Rel T N I L R nc ns i → nc ≤ 601024 ∧ ns ≤ 7293034) (hmono : ∀ T N I L R nc ns i, Rel T N I L R nc ns i → Rel T N I L R nc ns (i + 4)) (H0 : wL_0 Rel) (H1 : wL_1 Rel) (H2 : wL_2 Rel) (H3 : wL_3 Rel) (H4 : wL_4 Rel) (H5 : wL_5 Rel) (H6 : wL_6 Rel) (H7 : wL_7 Rel) (H8 : wL_8 Rel) (H9 : wL_9 Rel) (H10 : wL_10 Rel) (H11 : wL_11 Rel) (H12 : wL_12 Rel) (H13 : wL_13 Rel) (H14 : wL_14 Rel) (H15 : wL_15 Rel) (H16 : wL_16 Rel) (H17 : wL_17 Rel) (H18 : wL_18 Rel) (H19 : wL_19 Rel) (H20 : wL_20 Rel) (H21 : wL_21 Rel) (H22 : wL_22 Rel) (H23 : wL_23 Rel) (H24 : wL_24 Rel) (H25 : wL_25 Rel) : pt_All 2048 := by
  intro fv hfv Lg xs hLg
  obtain ⟨w, ls, T, N, I, L, R, nc, ns, h1, h2, h3, h4, h5, h6⟩ := hstart fv hfv Lg xs hLg
  have hz := h6 _ (wL_loop (Rel := Rel) (xs := xs) (Lg := Lg) (sc := pt_sc Lg xs fv) (q := fun r _ _ _ _ _ c s => r = .inl (some (.int 1)) ∧ c ≤ 601024 ∧ s ≤ 7293034) hfv hLg hmono (fun T N I L R nc ns i hi hR => ⟨rfl, hroom T N I L R nc ns i hi hR⟩) H0 H1 H2 H3 H4 H5 H6 H7 H8 H9 H10 H11 H12 H13 H14 H15 H16 H17 H18 H19 H20 H21 H22 H23 H24 H25 (2 * (4000 - 0) + 1) (wL_lv 0 none none) [] T N I L R nc ns ⟨0, none, none, rfl, rfl, h3, h4, h5, by omega, rfl⟩ w ls h1 h2)
  obtain ⟨n, r, hr, T1, N1, I1, L1, R1, _, e1, e2, e3⟩ := hz
  obtain ⟨v, w1, c1, s1⟩ := r
  have e1 : v = .inl (some (.int 1)) := e1
  subst e1
  exact ⟨n, 68 + 1, c1, s1, w1, hr, by omega, e2, e3⟩
