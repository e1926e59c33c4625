/-! ===== a design text: the reference against the class ===== -/
theorem dw_nn2 {ts : List wt_t} {n : Nat} {nm : ds_n} {s : wt_q} {z : Nat} (h : s.2 = some z) : (ds_nn ts n nm s).2 = s := by
  unfold ds_nn
  have e : (if ds_ix nm (tk_name ts s.1) = none then s else tk_ref ts n s) = s := by
    split
    · rfl
    · exact dw_ref2 h
  show tk_take ts n (Int8.ofInt 32).toInt32 (if ds_ix nm (tk_name ts s.1) = none then s else tk_ref ts n s) = s
  rw [e]
  exact dw_take2 h (by decide)
/-- a new name that was taken -/
theorem dw_nn1 {ts : List wt_t} {n : Nat} {nm : ds_n} {s : wt_q} (h : (ds_nn ts n nm s).2.2 = none) : s.2 = none ∧ (ds_nn ts n nm s).2 = (s.1 + 1, none) ∧ dw_ln ts (s.1 + 1) = dw_ln ts s.1 + 1 := by
  unfold ds_nn at h ⊢
  have h : (tk_take ts n (Int8.ofInt 32).toInt32 (if ds_ix nm (tk_name ts s.1) = none then s else tk_ref ts n s)).2 = none := h
  show s.2 = none ∧ tk_take ts n (Int8.ofInt 32).toInt32 (if ds_ix nm (tk_name ts s.1) = none then s else tk_ref ts n s) = (s.1 + 1, none) ∧ _
  by_cases c : ds_ix nm (tk_name ts s.1) = none
  · rw [if_pos c] at h ⊢
    obtain ⟨a1, a2, a3, a4, a5⟩ := dw_take h (by decide)
    exact ⟨a1, a3, a5⟩
  · rw [if_neg c] at h
    exact (dw_ref_n (dw_take h (by decide)).1).elim
/-- the reference while it reads a design, without fault -/
def dl_N (t : Nat → Int32) (ts : List wt_t) (n g A B : Nat) (s : wt_q) (nr : ds_n) (gs : ds_g) (I : Nat → Nat → Int32) : Prop := s.2 = none ∧ dm_Z t ts n s I ∧ dm_N t n nr I ∧ dm_G I A B gs ∧ (∀ y, y ∈ nr → ds_lp y.2) ∧ A ≤ 3 ∧ B ≤ 5 ∧ (7 * A + 8 * (nr.length - A) ≤ dw_ln ts s.1 ∧ A ≤ nr.length ∧ (0 < A → 1 ≤ s.1)) ∧
  ((g = 0 ∧ ∃ nm, dh0 ts n A s nm ∧ nr = dw_v nm ∧ B = 0 ∧ gs = [] ∧ ∀ j, j < 6 → I 534 j = Int32.ofInt 2) ∨
  (g = 1 ∧ 1 ≤ A ∧ ∃ nm fs, dh1 ts n A B s nm fs ∧ nr = dw_v nm ∧ gs = [] ∧ (∀ j, j < B → I 532 j = dw_x A j ∧ I 533 j = (if fs j = Int32.ofInt 1 then 1 else 0)) ∧ ∀ j, j < 6 → I 534 j = Int32.ofInt 2) ∨
  (g = 2 ∧ 1 ≤ A ∧ ∃ nx sg, dh2 ts n A B ((s, gs), nr, nx, sg) ∧ (∀ j, j < B → I 532 j = nx j ∧ I 533 j = dsFs ts n j) ∧ ∀ j, j < 6 → I 534 j = sg j))
/-- a fault was found -/
def dl_B (ts : List wt_t) (n : Nat) (I : Nat → Nat → Int32) : Prop := ∃ z, I 460 8 = Int32.ofNat z ∧ z ≤ 400 ∧ (dsZ ts n).1.1.2 = some z
theorem dl_Bz {t : Nat → Int32} {ts : List wt_t} {n : Nat} {s : wt_q} {I : Nat → Nat → Int32} {z : Nat} (hZ : dm_Z t ts n s I) (hs : s.2 = some z) (h : (dsZ ts n).1.1.2 = some z) : dl_B ts n I := by
  unfold dm_Z at hZ
  rw [hs] at hZ
  exact ⟨z, hZ.1, hZ.2, h⟩
theorem dl_len {t : Nat → Int32} {ts : List wt_t} {n : Nat} {s : wt_q} {I : Nat → Nat → Int32} (hZ : dm_Z t ts n s I) (hs : s.2 = none) : s.1 < ts.length := by
  unfold dm_Z at hZ
  rw [hs] at hZ
  obtain ⟨_, x, l, e, hd, _⟩ := hZ
  refine Nat.lt_of_not_le (fun z => ?_)
  rw [List.drop_eq_nil_of_le z] at hd
  cases hd
/-- statements begin -/
theorem dl_2 {t : Nat → Int32} {ts : List wt_t} {n g A B : Nat} {s : wt_q} {nr : ds_n} {gs : ds_g} {I : Nat → Nat → Int32} (h : dl_N t ts n g A B s nr gs I) (hl : ts.length ≤ 401) (hA : 0 < A) (h33 : g = 0 → ¬ tk_now ts s = (Int8.ofInt 33).toInt32 ∨ A = 3) (h34 : g < 2 → ¬ tk_now ts s = (Int8.ofInt 34).toInt32 ∨ B = 5) : dl_N t ts n 2 A B s nr gs I := by
  obtain ⟨a1, a2, a3, a4, a5, a6, a7, ⟨a8, a9, a10⟩, st⟩ := h
  refine ⟨a1, a2, a3, a4, a5, a6, a7, ⟨a8, a9, a10⟩, Or.inr (Or.inr ⟨rfl, hA, ?_⟩)⟩
  have key : ∀ nm fs, dh1 ts n A B s nm fs → nr = dw_v nm → gs = [] → (∀ j, j < B → I 532 j = dw_x A j ∧ I 533 j = (if fs j = Int32.ofInt 1 then 1 else 0)) → (∀ j, j < 6 → I 534 j = Int32.ofInt 2) → (¬ tk_now ts s = (Int8.ofInt 34).toInt32 ∨ B = 5) → ∃ nx sg, dh2 ts n A B ((s, gs), nr, nx, sg) ∧ (∀ j, j < B → I 532 j = nx j ∧ I 533 j = dsFs ts n j) ∧ ∀ j, j < 6 → I 534 j = sg j := by
    rintro nm fs h1 rfl rfl h2 h3 h4
    obtain ⟨g1, g2⟩ := dh1_2 h1 (fun _ => by have := a10 hA; omega) h4.symm
    refine ⟨_, _, g1, fun j hj => ⟨(h2 j hj).1, ?_⟩, h3⟩
    rw [(h2 j hj).2]
    unfold dsFs
    rw [g2]
  rcases st with ⟨rfl, nm, h0, h1, rfl, h2, h3⟩ | ⟨rfl, _, nm, fs, h0, h1, h2, h3, h4⟩ | ⟨rfl, _, h0⟩
  · exact key nm _ (dh0_1 h0 hA ((h33 rfl).symm)) h1 h2 (fun j hj => by omega) h3 (h34 (by omega))
  · exact key nm fs h0 h1 h2 h3 h4 (h34 (by omega))
  · exact h0
/-- a token that no statement begins with -/
theorem dl_bad {t : Nat → Int32} {ts : List wt_t} {n g A B : Nat} {s : wt_q} {nr : ds_n} {gs : ds_g} {I : Nat → Nat → Int32} (h : dl_N t ts n g A B s nr gs I) (hl : ts.length ≤ 401) (h0 : 0 < A → ¬ tk_now ts s = 0) (h33 : g = 0 → ¬ tk_now ts s = (Int8.ofInt 33).toInt32 ∨ A = 3) (h34 : 0 < A → g < 2 → ¬ tk_now ts s = (Int8.ofInt 34).toInt32 ∨ B = 5) (hi : 0 < A → ¬ ds_is (tk_now ts s) = true) (hg : A = 0 → g = 0) : (dsZ ts n).1.1.2 = some (tk_place ts n s.1) := by
  by_cases hA : 0 < A
  · obtain ⟨a1, a2, _, _, _, _, _, _, st⟩ := dl_2 h hl hA h33 (h34 hA)
    rcases st with ⟨z, _⟩ | ⟨z, _⟩ | ⟨_, _, nx, sg, h1, _⟩
    · omega
    · omega
    · exact dh2_b h1 a1 (dl_len a2 a1) (h0 hA) (hi hA)
  · have hA : A = 0 := by omega
    subst hA
    have := hg rfl
    subst this
    obtain ⟨a1, a2, _, _, _, _, _, _, st⟩ := h
    rcases st with ⟨_, nm, h1, _⟩ | ⟨z, _⟩ | ⟨z, _⟩
    · exact dh0_b h1 a1 ((h33 rfl).elim id (fun z => by omega))
    · omega
    · omega
theorem dl_in {t : Nat → Int32} {ts : List wt_t} {n A B : Nat} {s : wt_q} {nr : ds_n} {gs : ds_g} {I I1 : Nat → Nat → Int32} (h : dl_N t ts n 0 A B s nr gs I) (hl : ts.length ≤ 401) (h33 : tk_now ts s = (Int8.ofInt 33).toInt32) (hZ : dm_Z t ts n (dm_inp ts n nr A s).2 I1) (hF : dm_IF I I1) (hN : (dm_inp ts n nr A s).2.2 = none → dm_N t n (nr ++ [((dm_inp ts n nr A s).1, Int32.ofNat (2 * (A + 1)))]) I1 ∧ I1 460 101 = Int32.ofNat (A + 1)) : (∃ A2 B2 s2 nr2 gs2, dl_N t ts n 0 A2 B2 s2 nr2 gs2 I1 ∧ s.1 < s2.1) ∨ dl_B ts n I1 := by
  have hd := h
  obtain ⟨a1, a2, a3, a4, a5, a6, a7, ⟨a8, a9, a10⟩, st⟩ := h
  rcases st with ⟨_, nm, h0, h1, h2, h3, h4⟩ | ⟨z, _⟩ | ⟨z, _⟩
  rotate_left
  · omega
  · omega
  by_cases c3 : A = 3
  · right
    have e : (dm_inp ts n nr A s).2 = (s.1, some (tk_place ts n s.1)) := by
      unfold dm_inp
      rw [if_pos c3, dw_ref a1]
      have e1 : tk_take ts n (Int8.ofInt 33).toInt32 (s.1, some (tk_place ts n s.1)) = (s.1, some (tk_place ts n s.1)) := dw_take2 rfl (by decide)
      rw [e1, dw_nn2 (z := tk_place ts n s.1) rfl]
      show tk_take ts n (Int8.ofInt 9).toInt32 (s.1, some (tk_place ts n s.1)) = _
      exact dw_take2 rfl (by decide)
    rw [e] at hZ
    refine dl_Bz hZ rfl (dl_bad hd hl (fun _ => by rw [h33]; decide) (fun _ => Or.inr c3) (fun _ _ => Or.inl (by rw [h33]; decide)) (fun _ => by rw [h33]; decide) (fun z => by omega))
  · have e : dm_inp ts n nr A s = ((ds_nn ts n nm (tk_take ts n (Int8.ofInt 33).toInt32 s)).1, dw_i ts n nm s) := by
      unfold dm_inp dw_i
      rw [if_neg c3, h1, dw_nn (dw_v_f nm)]
    rw [e] at hZ hN
    have g := dh0_s h0 (by omega) (Or.inr h33)
    cases hs : (dw_i ts n nm s).2 with
    | some z => exact Or.inr (dl_Bz hZ hs (dh0_f g (by omega) hs))
    | none =>
      left
      obtain ⟨n1, n2⟩ := hN hs
      have hs2 : (tk_take ts n (Int8.ofInt 9).toInt32 (ds_nn ts n nm (tk_take ts n (Int8.ofInt 33).toInt32 s)).2).2 = none := hs
      obtain ⟨b1, b2, b3, b4, b5⟩ := dw_take hs2 (by decide)
      obtain ⟨c1, c2, c3⟩ := dw_nn1 b1
      obtain ⟨d1, d2, d3, d4, d5⟩ := dw_take c1 (by decide)
      have es : dw_i ts n nm s = (s.1 + 1 + 1 + 1, none) := by
        show tk_take ts n (Int8.ofInt 9).toInt32 (ds_nn ts n nm (tk_take ts n (Int8.ofInt 33).toInt32 s)).2 = _
        rw [b3, c2, d3]
      rw [c2, d3] at b5
      rw [d3] at c3
      have w33 : ds_w (Int8.ofInt 33).toInt32 = 5 := by decide
      have w9 : ds_w (Int8.ofInt 9).toInt32 = 1 := by decide
      rw [w9] at b5
      rw [w33] at d5
      have b5 : dw_ln ts (s.1 + 1 + 1 + 1) = dw_ln ts (s.1 + 1 + 1) + 1 := b5
      have c3 : dw_ln ts (s.1 + 1 + 1) = dw_ln ts (s.1 + 1) + 1 := c3
      have hlen := h0.2.1
      have hlr : nr.length = A := by rw [h1, dw_v_l, hlen]
      refine ⟨A + 1, 0, dw_i ts n nm s, dw_v (nm ++ [((ds_nn ts n nm (tk_take ts n (Int8.ofInt 33).toInt32 s)).1, Int32.ofInt 0)]), [], ⟨hs, hZ, ?_, ⟨n2, ?_, ?_, Nat.zero_le _, fun j x hx => absurd hx (by simp)⟩, fun y hy => ?_, by omega, by omega, ⟨?_, ?_, fun _ => by rw [es]; show 1 ≤ s.1 + 1 + 1 + 1; omega⟩, Or.inl ⟨rfl, _, g, rfl, rfl, rfl, fun j hj => by rw [hF _ _ (by omega) (by omega)]; exact h4 j hj⟩⟩, by rw [es]; show s.1 < s.1 + 1 + 1 + 1; omega⟩
      · rw [dw_v_a, hlen, ← h1]
        exact n1
      · rw [hF _ _ (by omega) (by omega), a4.2.1, h2]
      · rw [hF _ _ (by omega) (by omega), a4.2.2.1, h3]
      · rw [dw_v_a, hlen] at hy
        rcases List.mem_append.mp hy with w | w
        · exact a5 y (by rw [h1]; exact w)
        · rw [List.mem_singleton.mp w]
          show 0 ≤ (Int32.ofNat (2 * (A + 1))).toInt ∧ (Int32.ofNat (2 * (A + 1))).toInt < 160
          rw [wi_on (by omega)]
          omega
      · rw [es, dw_v_l, List.length_append, hlen]
        show 7 * (A + 1) + 8 * (A + 1 - (A + 1)) ≤ dw_ln ts (s.1 + 1 + 1 + 1)
        omega
      · rw [dw_v_l, List.length_append, hlen]
        exact Nat.le_refl _
