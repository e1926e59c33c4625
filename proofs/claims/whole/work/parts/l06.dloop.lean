/-! ===== a design text: wires, next, signals ===== -/
theorem dl_fin {A : Nat} {k : Int32} {c : Int64} {at_ : Option Nat} {e : Int32} {x : ds_q} {nm : ds_n} {nx sg : Nat → Int32} : (ds_fin A k c at_ e x nm nx sg).1 = x := by
  unfold ds_fin
  split
  · rfl
  split
  · rfl
  split
  · rfl
  · rfl
def dl_Y (ts : List wt_t) (n A B : Nat) (nr : ds_n) (s : wt_q) (gs : ds_g) : Int32 × ds_q := dm_E ts n nr A B (ds_s3 ts n (ds_s2 ts n A B nr s), gs)
theorem dl_stm {ts : List wt_t} {n A B : Nat} {nr : ds_n} {s : wt_q} {gs : ds_g} {nx sg : Nat → Int32} : ds_stm ts n A B ((s, gs), nr, nx, sg) = ds_fin A (tk_now ts s) (tk_name ts (tk_adv ts s).1) (ds_ix nr (tk_name ts (tk_adv ts s).1)) (dl_Y ts n A B nr s gs).1 (dl_Y ts n A B nr s gs).2 nr nx sg := by
  unfold ds_stm dl_Y dm_E
  generalize ds_E20 = F
  rfl
theorem dl_st1 {ts : List wt_t} {n A B : Nat} {nr : ds_n} {s : wt_q} {gs : ds_g} (hs : s.2 = none) (h2 : ¬ tk_now ts s = Int32.ofInt 2) : s.1 + 1 ≤ (dl_Y ts n A B nr s gs).2.1.1 ∧ ((dl_Y ts n A B nr s gs).2.1.2 = none → dw_ln ts (s.1 + 1) + 4 ≤ dw_ln ts (dl_Y ts n A B nr s gs).2.1.1) := by
  obtain ⟨a1, a2⟩ := dl_s3 (n := n) (A := A) (B := B) (nm := nr) (gs := gs) hs h2
  have m := dl_E1 (ts := ts) (n := n) (A := A) (B := B) (nm := nr) (x := (ds_s3 ts n (ds_s2 ts n A B nr s), gs))
  have m : (ds_s3 ts n (ds_s2 ts n A B nr s)).1 ≤ (dl_Y ts n A B nr s gs).2.1.1 := m
  refine ⟨by omega, fun hn => ?_⟩
  obtain ⟨e1, e2, e3⟩ := dw_E (x := (ds_s3 ts n (ds_s2 ts n A B nr s), gs)) hn
  have e1 : (ds_s3 ts n (ds_s2 ts n A B nr s)).1 + 2 ≤ (dl_Y ts n A B nr s gs).2.1.1 := e1
  have e2 : (dl_Y ts n A B nr s gs).2.1.1 ≤ ts.length := e2
  have hs3 : (ds_s3 ts n (ds_s2 ts n A B nr s)).2 = none := by
    cases c : (ds_s3 ts n (ds_s2 ts n A B nr s)).2 with
    | none => rfl
    | some z =>
      exfalso
      have e3 : (ds_E20 ts n nr A B (ds_s3 ts n (ds_s2 ts n A B nr s), gs)).2.1.2 = none := e3
      rw [ds_E20_some c] at e3
      cases e3
  obtain ⟨s1, s2⟩ := a2 hs3
  rw [s1] at e1
  have e1 : s.1 + 3 + 2 ≤ (dl_Y ts n A B nr s gs).2.1.1 := e1
  generalize (dl_Y ts n A B nr s gs).2.1.1 = w at *
  have := dw_ln_m (ts := ts) (a := s.1 + 3) (w - (s.1 + 3)) (by omega)
  rw [show s.1 + 3 + (w - (s.1 + 3)) = w by omega] at this
  omega
/-- how many names there can be -/
theorem dl_cnt {t : Nat → Int32} {ts : List wt_t} {n : Nat} {s : wt_q} {I : Nat → Nat → Int32} (ht : wt_tx t n) (hn : n ≤ 400) (hts : ts = wt_lex (ds_st t n) n 400 0) (hZ : dm_Z t ts n s I) (hs : s.2 = none) : dw_ln ts s.1 ≤ 400 := by
  have hl := dl_len hZ hs
  have g := dw_lex ht 400 0 (Nat.zero_le _) s.1 ts[s.1] (by rw [← hts]; exact List.getElem?_eq_getElem hl)
  rw [← hts] at g
  omega
/-- a statement that ends in a fault -/
theorem dl_stB {t : Nat → Int32} {ts : List wt_t} {n A B : Nat} {s : wt_q} {nr : ds_n} {gs : ds_g} {I I1 : Nat → Nat → Int32} {x2 : ds_q} {z : Nat} (h : dl_N t ts n 2 A B s nr gs I) (h0 : ¬ tk_now ts s = 0) (h2 : ¬ tk_now ts s = Int32.ofInt 2) (hi : ds_is (tk_now ts s) = true) (hZ : dm_Z t ts n x2.1 I1) (hx : x2.1.2 = some z) (he : x2.1.2 = (dl_Y ts n A B nr s gs).2.1.2) : dl_B ts n I1 := by
  obtain ⟨a1, a2, _, _, _, _, _, _, st⟩ := h
  rcases st with ⟨y, _⟩ | ⟨y, _⟩ | ⟨_, _, nx, sg, h1, _⟩
  · omega
  · omega
  have hm := (dl_st1 (n := n) (A := A) (B := B) (nr := nr) (gs := gs) a1 h2).1
  have e1 : (ds_stm ts n A B ((s, gs), nr, nx, sg)).1 = (dl_Y ts n A B nr s gs).2 := by
    rw [dl_stm, dl_fin]
  have g := dh2_s h1 a1 (dl_len a2 a1) h0 hi (by rw [e1]; exact hm)
  have ez : (dl_Y ts n A B nr s gs).2.1.2 = some z := he.symm.trans hx
  have e2 := dh2_f g (Or.inr (by rw [e1, ez]; rfl))
  exact dl_Bz hZ hx (by rw [e2, e1]; exact ez)
/-- a statement without fault -/
theorem dl_stN {ts : List wt_t} {n A B : Nat} {s : wt_q} {nr nr2 : ds_n} {gs : ds_g} {nx nx2 sg sg2 : Nat → Int32} {x2 : ds_q} (h1 : dh2 ts n A B ((s, gs), nr, nx, sg)) (hs : s.2 = none) (hl : s.1 < ts.length) (h0 : ¬ tk_now ts s = 0) (hi : ds_is (tk_now ts s) = true) (hm : s.1 + 1 ≤ x2.1.1) (e : ds_stm ts n A B ((s, gs), nr, nx, sg) = (x2, nr2, nx2, sg2)) : dh2 ts n A B ((x2.1, x2.2), nr2, nx2, sg2) := by
  have g := dh2_s h1 hs hl h0 hi (by rw [e]; exact hm)
  rw [e] at g
  exact g
theorem dl_wr {t : Nat → Int32} {ts : List wt_t} {n A B : Nat} {s : wt_q} {nr : ds_n} {gs : ds_g} {I I1 : Nat → Nat → Int32} {v : Int32} {x2 : ds_q} (ht : wt_tx t n) (hn : n ≤ 400) (hts : ts = wt_lex (ds_st t n) n 400 0) (h : dl_N t ts n 2 A B s nr gs I) (h35 : tk_now ts s = (Int8.ofInt 35).toInt32) (hZ : dm_Z t ts n x2.1 I1) (hG : dm_G I1 A B x2.2) (hF : dm_WF I I1) (he : x2.1.2 = (dm_E ts n nr A B (dm_wir ts n nr s, gs)).2.1.2) (hN : x2.1.2 = none → (v, x2) = dm_E ts n nr A B (dm_wir ts n nr s, gs) ∧ ds_lp v ∧ dm_N t n (nr ++ [((ds_nn ts n nr (tk_take ts n (Int8.ofInt 35).toInt32 s)).1, v)]) I1) : (∃ A2 B2 s2 nr2 gs2, dl_N t ts n 2 A2 B2 s2 nr2 gs2 I1 ∧ s.1 < s2.1) ∨ dl_B ts n I1 := by
  have hd := h
  have h0 : ¬ tk_now ts s = 0 := by rw [h35]; decide
  have h2 : ¬ tk_now ts s = Int32.ofInt 2 := by rw [h35]; decide
  have hi : ds_is (tk_now ts s) = true := by rw [h35]; decide
  have eadv : tk_take ts n (Int8.ofInt 35).toInt32 s = tk_adv ts s := if_pos h35
  have ew : dm_wir ts n nr s = ds_s3 ts n (ds_s2 ts n A B nr s) := by
    unfold dm_wir ds_s3 ds_s2
    rw [eadv]
    unfold ds_nn ds_fit
    rw [if_pos h35]
    by_cases c : ds_ix nr (tk_name ts (tk_adv ts s).1) = none
    · rw [if_pos c, decide_eq_true c, if_pos rfl]
    · rw [if_neg c, decide_eq_false c, if_neg (by decide)]
  rw [ew] at he hN
  have he : x2.1.2 = (dl_Y ts n A B nr s gs).2.1.2 := he
  cases hx : x2.1.2 with
  | some z => exact Or.inr (dl_stB hd h0 h2 hi hZ hx he)
  | none =>
    left
    obtain ⟨n1, n2, n3⟩ := hN hx
    have n1 : (v, x2) = dl_Y ts n A B nr s gs := n1
    obtain ⟨a1, a2, a3, a4, a5, a6, a7, ⟨a8, a9, a10⟩, st⟩ := h
    rcases st with ⟨y, _⟩ | ⟨y, _⟩ | ⟨_, hA, nx, sg, h1, h3, h4⟩
    · omega
    · omega
    have yv : (dl_Y ts n A B nr s gs).1 = v := by rw [← n1]
    have yx : (dl_Y ts n A B nr s gs).2 = x2 := by rw [← n1]
    obtain ⟨m1, m2⟩ := dl_st1 (n := n) (A := A) (B := B) (nr := nr) (gs := gs) a1 h2
    have m2 := m2 (by rw [yx]; exact hx)
    rw [yx] at m1 m2
    have t0 : (tk_take ts n (Int8.ofInt 35).toInt32 s).2 = none := by
      rw [eadv, (tk_now_adv h2).2.2]
    have d5 := (dw_take t0 (by decide)).2.2.2.2
    have w35 : ds_w (Int8.ofInt 35).toInt32 = 4 := by decide
    rw [w35] at d5
    have cnt := dl_cnt ht hn hts hZ hx
    have ead : ds_ad nr (tk_name ts (tk_adv ts s).1) v = nr ++ [(tk_name ts (tk_adv ts s).1, v)] := if_pos (by omega)
    have e : ds_stm ts n A B ((s, gs), nr, nx, sg) = (x2, nr ++ [(tk_name ts (tk_adv ts s).1, v)], nx, sg) := by
      rw [dl_stm, yv, yx]
      unfold ds_fin
      rw [if_neg (by rw [hx]; decide), if_pos h35, ead]
    have g := dl_stN h1 a1 (dl_len a2 a1) h0 hi m1 e
    have enm : (ds_nn ts n nr (tk_take ts n (Int8.ofInt 35).toInt32 s)).1 = tk_name ts (tk_adv ts s).1 := by
      rw [eadv]
      rfl
    rw [enm] at n3
    have hll : (nr ++ [(tk_name ts (tk_adv ts s).1, v)]).length = nr.length + 1 := by
      rw [List.length_append]
      rfl
    refine ⟨A, B, x2.1, nr ++ [(tk_name ts (tk_adv ts s).1, v)], x2.2, ⟨hx, hZ, n3, hG, fun y hy => ?_, a6, a7, ⟨by rw [hll]; omega, by rw [hll]; omega, fun _ => by omega⟩, Or.inr (Or.inr ⟨rfl, hA, nx, sg, g, fun j hj => ?_, fun j hj => ?_⟩)⟩, by omega⟩
    · rcases List.mem_append.mp hy with w | w
      · exact a5 y w
      · rw [List.mem_singleton.mp w]
        exact n2
    · rw [hF _ _ (by omega) (by omega), hF _ _ (by omega) (by omega)]
      exact h3 j hj
    · rw [hF _ _ (by omega) (by omega)]
      exact h4 j hj
theorem dl_ne {t : Nat → Int32} {ts : List wt_t} {n A B : Nat} {s : wt_q} {nr : ds_n} {gs : ds_g} {I I1 : Nat → Nat → Int32} {v : Int32} {x2 : ds_q} (h : dl_N t ts n 2 A B s nr gs I) (h28 : tk_now ts s = (Int8.ofInt 28).toInt32) (hZ : dm_Z t ts n x2.1 I1) (hG : dm_G I1 A B x2.2) (hF : dm_XF 532 I I1) (he : x2.1.2 = (dl_Y ts n A B nr s gs).2.1.2) (hN : x2.1.2 = none → (v, x2) = dl_Y ts n A B nr s gs ∧ ds_lp v ∧ ∀ j, I1 532 j = ds_up (fun j => I 532 j) ((ds_ix nr (tk_name ts (tk_adv ts s).1)).getD 0 - A) v j) : (∃ A2 B2 s2 nr2 gs2, dl_N t ts n 2 A2 B2 s2 nr2 gs2 I1 ∧ s.1 < s2.1) ∨ dl_B ts n I1 := by
  have hd := h
  have h0 : ¬ tk_now ts s = 0 := by rw [h28]; decide
  have h2 : ¬ tk_now ts s = Int32.ofInt 2 := by rw [h28]; decide
  have hi : ds_is (tk_now ts s) = true := by rw [h28]; decide
  cases hx : x2.1.2 with
  | some z => exact Or.inr (dl_stB hd h0 h2 hi hZ hx he)
  | none =>
    left
    obtain ⟨n1, n2, n3⟩ := hN hx
    obtain ⟨a1, a2, a3, a4, a5, a6, a7, ⟨a8, a9, a10⟩, st⟩ := h
    rcases st with ⟨y, _⟩ | ⟨y, _⟩ | ⟨_, hA, nx, sg, h1, h3, h4⟩
    · omega
    · omega
    have yv : (dl_Y ts n A B nr s gs).1 = v := by rw [← n1]
    have yx : (dl_Y ts n A B nr s gs).2 = x2 := by rw [← n1]
    obtain ⟨m1, m2⟩ := dl_st1 (n := n) (A := A) (B := B) (nr := nr) (gs := gs) a1 h2
    have m2 := m2 (by rw [yx]; exact hx)
    rw [yx] at m1 m2
    have d5 := dw_ln_m (ts := ts) (a := s.1) 1 (dl_len a2 a1)
    have e : ds_stm ts n A B ((s, gs), nr, nx, sg) = (x2, nr, ds_up nx ((ds_ix nr (tk_name ts (tk_adv ts s).1)).getD 0 - A) v, sg) := by
      rw [dl_stm, yv, yx]
      unfold ds_fin
      rw [if_neg (by rw [hx]; decide), if_neg (by rw [h28]; decide), if_pos h28]
    have g := dl_stN h1 a1 (dl_len a2 a1) h0 hi m1 e
    refine ⟨A, B, x2.1, nr, x2.2, ⟨hx, hZ, dm_N_F a3 (hF _ _ (by omega) (by omega)) (fun c j hc => hF _ _ (by omega) (by omega)), hG, a5, a6, a7, ⟨by omega, a9, fun _ => by omega⟩, Or.inr (Or.inr ⟨rfl, hA, _, _, g, fun j hj => ?_, fun j hj => ?_⟩)⟩, by omega⟩
    · rw [n3 j]
      refine ⟨?_, ?_⟩
      · unfold ds_up
        split
        · rfl
        · exact (h3 j hj).1
      · rw [hF _ _ (by omega) (by omega)]
        exact (h3 j hj).2
    · rw [hF _ _ (by omega) (by omega)]
      exact h4 j hj
theorem dl_si {t : Nat → Int32} {ts : List wt_t} {n A B : Nat} {s : wt_q} {nr : ds_n} {gs : ds_g} {I I1 : Nat → Nat → Int32} {v : Int32} {x2 : ds_q} (h : dl_N t ts n 2 A B s nr gs I) (h28 : tk_now ts s = (Int8.ofInt 36).toInt32) (hZ : dm_Z t ts n x2.1 I1) (hG : dm_G I1 A B x2.2) (hF : dm_XF 534 I I1) (he : x2.1.2 = (dl_Y ts n A B nr s gs).2.1.2) (hN : x2.1.2 = none → (v, x2) = dl_Y ts n A B nr s gs ∧ ds_lp v ∧ ∀ j, I1 534 j = ds_up (fun j => I 534 j) (((tk_name ts (tk_adv ts s).1).toInt32 - Int32.ofInt 1).toNatClampNeg) v j) : (∃ A2 B2 s2 nr2 gs2, dl_N t ts n 2 A2 B2 s2 nr2 gs2 I1 ∧ s.1 < s2.1) ∨ dl_B ts n I1 := by
  have hd := h
  have h0 : ¬ tk_now ts s = 0 := by rw [h28]; decide
  have h2 : ¬ tk_now ts s = Int32.ofInt 2 := by rw [h28]; decide
  have hi : ds_is (tk_now ts s) = true := by rw [h28]; decide
  cases hx : x2.1.2 with
  | some z => exact Or.inr (dl_stB hd h0 h2 hi hZ hx he)
  | none =>
    left
    obtain ⟨n1, n2, n3⟩ := hN hx
    obtain ⟨a1, a2, a3, a4, a5, a6, a7, ⟨a8, a9, a10⟩, st⟩ := h
    rcases st with ⟨y, _⟩ | ⟨y, _⟩ | ⟨_, hA, nx, sg, h1, h3, h4⟩
    · omega
    · omega
    have yv : (dl_Y ts n A B nr s gs).1 = v := by rw [← n1]
    have yx : (dl_Y ts n A B nr s gs).2 = x2 := by rw [← n1]
    obtain ⟨m1, m2⟩ := dl_st1 (n := n) (A := A) (B := B) (nr := nr) (gs := gs) a1 h2
    have m2 := m2 (by rw [yx]; exact hx)
    rw [yx] at m1 m2
    have d5 := dw_ln_m (ts := ts) (a := s.1) 1 (dl_len a2 a1)
    have e : ds_stm ts n A B ((s, gs), nr, nx, sg) = (x2, nr, nx, ds_up sg (((tk_name ts (tk_adv ts s).1).toInt32 - Int32.ofInt 1).toNatClampNeg) v) := by
      rw [dl_stm, yv, yx]
      unfold ds_fin
      rw [if_neg (by rw [hx]; decide), if_neg (by rw [h28]; decide), if_neg (by rw [h28]; decide)]
    have g := dl_stN h1 a1 (dl_len a2 a1) h0 hi m1 e
    refine ⟨A, B, x2.1, nr, x2.2, ⟨hx, hZ, dm_N_F a3 (hF _ _ (by omega) (by omega)) (fun c j hc => hF _ _ (by omega) (by omega)), hG, a5, a6, a7, ⟨by omega, a9, fun _ => by omega⟩, Or.inr (Or.inr ⟨rfl, hA, _, _, g, fun j hj => ?_, fun j hj => ?_⟩)⟩, by omega⟩
    · rw [hF _ _ (by omega) (by omega), hF _ _ (by omega) (by omega)]
      exact h3 j hj
    · rw [n3 j]
      unfold ds_up
      split
      · rfl
      · exact h4 j hj
