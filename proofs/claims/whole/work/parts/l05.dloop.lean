/-! ===== a design text: latches and statements ===== -/
theorem dl_la {t : Nat → Int32} {ts : List wt_t} {n g A B : Nat} {s : wt_q} {nr : ds_n} {gs : ds_g} {I I1 : Nat → Nat → Int32} (h : dl_N t ts n g A B s nr gs I) (hl : ts.length ≤ 401) (hg : g < 2) (hA : 0 < A) (h34 : tk_now ts s = (Int8.ofInt 34).toInt32) (hZ : dm_Z t ts n (tk_take ts n (Int8.ofInt 9).toInt32 (dm_lt ts n (dm_lat ts n nr B s).2)) I1) (hF : dm_LF B I I1) (hN : (tk_take ts n (Int8.ofInt 9).toInt32 (dm_lt ts n (dm_lat ts n nr B s).2)).2 = none → dm_N t n (nr ++ [((dm_lat ts n nr B s).1, Int32.ofNat (2 * (A + B + 1)))]) I1 ∧ I1 460 102 = Int32.ofNat (B + 1) ∧ I1 533 B = wp_b (decide (tk_now ts (dm_lat ts n nr B s).2 = Int32.ofInt 5)) ∧ I1 532 B = Int32.ofNat (2 * (1 + A + B))) : (∃ A2 B2 s2 nr2 gs2, dl_N t ts n 1 A2 B2 s2 nr2 gs2 I1 ∧ s.1 < s2.1) ∨ dl_B ts n I1 := by
  have hd := h
  obtain ⟨a1, a2, a3, a4, a5, a6, a7, ⟨a8, a9, a10⟩, st⟩ := h
  by_cases c5 : B = 5
  · right
    have e : tk_take ts n (Int8.ofInt 9).toInt32 (dm_lt ts n (dm_lat ts n nr B s).2) = (s.1, some (tk_place ts n s.1)) := by
      have e0 : (dm_lat ts n nr B s).2 = (s.1, some (tk_place ts n s.1)) := by
        unfold dm_lat
        rw [if_pos c5, dw_ref a1]
        have e1 : tk_take ts n (Int8.ofInt 34).toInt32 (s.1, some (tk_place ts n s.1)) = (s.1, some (tk_place ts n s.1)) := dw_take2 rfl (by decide)
        rw [e1]
        exact dw_nn2 rfl
      rw [e0]
      have e2 : dm_lt ts n (s.1, some (tk_place ts n s.1)) = (s.1, some (tk_place ts n s.1)) := by
        unfold dm_lt
        split
        · exact dw_take2 rfl (by decide)
        · exact dw_take2 rfl (by decide)
      rw [e2]
      exact dw_take2 rfl (by decide)
    rw [e] at hZ
    exact dl_Bz hZ rfl (dl_bad hd hl (fun _ => by rw [h34]; decide) (fun _ => Or.inl (by rw [h34]; decide)) (fun _ _ => Or.inr c5) (fun _ => by rw [h34]; decide) (fun z => by omega))
  · have key : ∀ nm fs, dh1 ts n A B s nm fs → nr = dw_v nm → gs = [] → (∀ j, j < B → I 532 j = dw_x A j ∧ I 533 j = (if fs j = Int32.ofInt 1 then 1 else 0)) → (∀ j, j < 6 → I 534 j = Int32.ofInt 2) → (∃ A2 B2 s2 nr2 gs2, dl_N t ts n 1 A2 B2 s2 nr2 gs2 I1 ∧ s.1 < s2.1) ∨ dl_B ts n I1 := by
      intro nm fs h0 h1 h2 h3 h4
      have eadv : tk_take ts n (Int8.ofInt 34).toInt32 s = tk_adv ts s := if_pos h34
      have e : dm_lat ts n nr B s = ds_nn ts n nm (tk_adv ts s) := by
        unfold dm_lat
        rw [if_neg c5, h1, dw_nn (dw_v_f nm), eadv]
      have e2 : tk_take ts n (Int8.ofInt 9).toInt32 (dm_lt ts n (dm_lat ts n nr B s).2) = dw_l ts n nm s := by
        rw [e]
        rfl
      rw [e2] at hZ hN
      rw [e] at hN
      have g := dh1_s h0 a6 (by omega) h34
      cases hs : (dw_l ts n nm s).2 with
      | some z => exact Or.inr (dl_Bz hZ hs (dh1_f g hs))
      | none =>
        left
        obtain ⟨n1, n2, n3, n4⟩ := hN hs
        obtain ⟨v1, v2, v3⟩ := tk_now_adv (ts := ts) (s := s) (by rw [h34]; decide)
        have hs2 : (tk_take ts n (Int8.ofInt 9).toInt32 (tk_take ts n (if tk_now ts (ds_nn ts n nm (tk_adv ts s)).2 = Int32.ofInt 5 then Int32.ofInt 5 else Int32.ofInt 4) (ds_nn ts n nm (tk_adv ts s)).2)).2 = none := hs
        obtain ⟨b1, b2, b3, b4, b5⟩ := dw_take hs2 (by decide)
        obtain ⟨p1, p2, p3, p4, p5⟩ := dw_take b1 (by split <;> decide)
        obtain ⟨c1, c2, c3⟩ := dw_nn1 p1
        have t0 : (tk_take ts n (Int8.ofInt 34).toInt32 s).2 = none := by
          rw [eadv]
          exact c1
        obtain ⟨d1, d2, d3, d4, d5⟩ := dw_take t0 (by decide)
        have es : dw_l ts n nm s = (s.1 + 1 + 1 + 1 + 1, none) := by
          show tk_take ts n (Int8.ofInt 9).toInt32 (tk_take ts n (if tk_now ts (ds_nn ts n nm (tk_adv ts s)).2 = Int32.ofInt 5 then Int32.ofInt 5 else Int32.ofInt 4) (ds_nn ts n nm (tk_adv ts s)).2) = _
          rw [b3, p3, c2, v3]
        have w34 : ds_w (Int8.ofInt 34).toInt32 = 5 := by decide
        have w9 : ds_w (Int8.ofInt 9).toInt32 = 1 := by decide
        have wx : 1 ≤ ds_w (if tk_now ts (ds_nn ts n nm (tk_adv ts s)).2 = Int32.ofInt 5 then Int32.ofInt 5 else Int32.ofInt 4) := ds_w_1 _
        generalize ds_w (if tk_now ts (ds_nn ts n nm (tk_adv ts s)).2 = Int32.ofInt 5 then Int32.ofInt 5 else Int32.ofInt 4) = ww at p5 wx
        rw [p3, c2, v3, w9] at b5
        rw [c2, v3] at p5
        rw [v3] at c3
        rw [w34] at d5
        have b5 : dw_ln ts (s.1 + 1 + 1 + 1 + 1) = dw_ln ts (s.1 + 1 + 1 + 1) + 1 := b5
        have p5 : dw_ln ts (s.1 + 1 + 1 + 1) = dw_ln ts (s.1 + 1 + 1) + ww := p5
        have c3 : dw_ln ts (s.1 + 1 + 1) = dw_ln ts (s.1 + 1) + 1 := c3
        have hlen := h0.2.2.1
        have hlr : nr.length = A + B := by rw [h1, dw_v_l, hlen]
        refine ⟨A, B + 1, dw_l ts n nm s, dw_v (nm ++ [((ds_nn ts n nm (tk_adv ts s)).1, Int32.ofInt 0)]), [], ⟨hs, hZ, ?_, ⟨?_, n2, ?_, Nat.zero_le _, fun j x hx => absurd hx (by simp)⟩, fun y hy => ?_, a6, by omega, ⟨?_, ?_, fun _ => by rw [es]; show 1 ≤ s.1 + 1 + 1 + 1 + 1; omega⟩, Or.inr (Or.inl ⟨rfl, hA, _, _, g, rfl, rfl, fun j hj => ?_, fun j hj => by rw [hF _ _ (by omega) (by omega) (by omega)]; exact h4 j hj⟩)⟩, by rw [es]; show s.1 < s.1 + 1 + 1 + 1 + 1; omega⟩
        · rw [dw_v_a, hlen, ← h1]
          exact n1
        · rw [hF _ _ (by omega) (by omega) (by omega), a4.1]
        · rw [hF _ _ (by omega) (by omega) (by omega), a4.2.2.1, h2]
        · rw [dw_v_a, hlen] at hy
          rcases List.mem_append.mp hy with w | w
          · exact a5 y (by rw [h1]; exact w)
          · rw [List.mem_singleton.mp w]
            show 0 ≤ (Int32.ofNat (2 * (A + B + 1))).toInt ∧ (Int32.ofNat (2 * (A + B + 1))).toInt < 160
            rw [wi_on (by omega)]
            omega
        · rw [es, dw_v_l, List.length_append, hlen]
          show 7 * A + 8 * (A + B + 1 - A) ≤ dw_ln ts (s.1 + 1 + 1 + 1 + 1)
          omega
        · rw [dw_v_l, List.length_append, hlen]
          show A ≤ A + B + 1
          omega
        · by_cases ej : j = B
          · subst ej
            refine ⟨?_, ?_⟩
            · rw [n4]
              unfold dw_x
              rw [show Int32.ofInt 1 + Int32.ofNat A = Int32.ofNat (A + 1) by rw [← wq_4s A, Int32.add_comm], wq_ad (by omega), wi_2, show A + 1 + j = 1 + A + j by omega]
            · rw [n3]
              unfold ds_up
              rw [if_pos rfl]
              by_cases c : tk_now ts (ds_nn ts n nm (tk_adv ts s)).2 = Int32.ofInt 5
              · rw [decide_eq_true c, if_pos c]
                rfl
              · rw [decide_eq_false c, if_neg c]
                rfl
          · obtain ⟨f1, f2⟩ := h3 j (by omega)
            rw [hF _ _ (by omega) (by omega) (by omega), hF _ _ (by omega) (by omega) (by omega)]
            refine ⟨f1, f2.trans ?_⟩
            unfold ds_up
            rw [if_neg ej]
    rcases st with ⟨rfl, nm, h0, h1, rfl, h2, h3⟩ | ⟨rfl, _, nm, fs, h0, h1, h2, h3, h4⟩ | ⟨rfl, _, h0⟩
    · exact key nm _ (dh0_1 h0 hA (Or.inr (by rw [h34]; decide))) h1 h2 (fun j hj => by omega) h3
    · exact key nm fs h0 h1 h2 h3 h4
    · omega
/-- what a statement starts from, and where it leads -/
theorem dl_s3 {ts : List wt_t} {n A B : Nat} {nm : ds_n} {s : wt_q} {gs : ds_g} (hs : s.2 = none) (h2 : ¬ tk_now ts s = Int32.ofInt 2) : s.1 + 1 ≤ (ds_s3 ts n (ds_s2 ts n A B nm s)).1 ∧ ((ds_s3 ts n (ds_s2 ts n A B nm s)).2 = none → (ds_s3 ts n (ds_s2 ts n A B nm s)) = (s.1 + 3, none) ∧ dw_ln ts (s.1 + 3) = dw_ln ts (s.1 + 1) + 2) := by
  obtain ⟨v1, v2, v3⟩ := tk_now_adv h2
  have e1 : (ds_s2 ts n A B nm s).1 = s.1 + 1 := by
    unfold ds_s2
    split
    · rw [v3]
    · rw [v3, dw_ref rfl]
  have m1 := tk_take_le (ts := ts) (n := n) (s := ds_s2 ts n A B nm s) (k := (Int8.ofInt 32).toInt32)
  have m2 := tk_take_le (ts := ts) (n := n) (s := tk_take ts n (Int8.ofInt 32).toInt32 (ds_s2 ts n A B nm s)) (k := (Int8.ofInt 37).toInt32)
  refine ⟨by show s.1 + 1 ≤ (tk_take ts n (Int8.ofInt 37).toInt32 (tk_take ts n (Int8.ofInt 32).toInt32 (ds_s2 ts n A B nm s))).1; omega, fun hn => ?_⟩
  have hn : (tk_take ts n (Int8.ofInt 37).toInt32 (tk_take ts n (Int8.ofInt 32).toInt32 (ds_s2 ts n A B nm s))).2 = none := hn
  obtain ⟨b1, b2, b3, b4, b5⟩ := dw_take hn (by decide)
  obtain ⟨c1, c2, c3, c4, c5⟩ := dw_take b1 (by decide)
  have w37 : ds_w (Int8.ofInt 37).toInt32 = 1 := by decide
  have w32 : ds_w (Int8.ofInt 32).toInt32 = 1 := by decide
  rw [c3, e1, w37] at b5
  rw [e1, w32] at c5
  have b5 : dw_ln ts (s.1 + 1 + 1 + 1) = dw_ln ts (s.1 + 1 + 1) + 1 := b5
  refine ⟨?_, by show dw_ln ts (s.1 + 1 + 1 + 1) = _; omega⟩
  show tk_take ts n (Int8.ofInt 37).toInt32 (tk_take ts n (Int8.ofInt 32).toInt32 (ds_s2 ts n A B nm s)) = _
  rw [b3, c3, e1]
theorem dl_E1 {ts : List wt_t} {n A B : Nat} {nm : ds_n} {x : ds_q} : x.1.1 ≤ (dm_E ts n nm A B x).2.1.1 := by
  have m1 := ds_E_mo (ts := ts) (n := n) (nm := nm) (A := A) (B := B) 20 x
  have m1 : x.1.1 ≤ (ds_E20 ts n nm A B x).2.1.1 := m1
  have m2 := tk_take_le (ts := ts) (n := n) (s := (ds_E20 ts n nm A B x).2.1) (k := (Int8.ofInt 9).toInt32)
  exact Nat.le_trans m1 m2
