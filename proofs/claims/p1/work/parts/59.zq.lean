/-! ===== one call on fresh objects: what is to be counted ===== -/
theorem zb_s0 (xs : Nat → Int32) (fv : Value) : zR_c (zg xs fv) (1, 0, 0) (.inl (0, 0, (List.range 0).map (fun j => (j, .int (xs j))))) := by
  refine Or.inr ⟨rfl, rfl, ?_⟩
  intro i
  dsimp only
  rw [zl_e_lo (by decide) (by decide)]
  have hr : (List.range 0).map (fun j => (j, Value.int (xs j))) = [] := rfl
  rw [hr]
  obtain ⟨e, rfl⟩ : ∃ e, i = 0 + e := ⟨i - 0, by omega⟩
  have e1 : zp_g 0 (zp_D (0 + e)) = 0 := by
    show 0 / zp_D (0 + e) % _ = 0
    have hlt : 0 < zp_D 0 := by decide
    have hp := zp_Dp e
    have : zp_D 0 * 1 ≤ zp_D 0 * zp_D e := Nat.mul_le_mul_left _ hp
    rw [zp_Da, Nat.div_eq_of_lt (by omega)]
  rw [e1]
  have e2 : pz_g [] (0 + e) = .null := by
    simp only [pz_g]
  rw [e2]
  rfl
theorem zb_s1 (xs : Nat → Int32) (fv : Value) : zR_c (zg xs fv) (1, 1, 3) (.inl (0, 1, (List.range 1).map (fun j => (j, .int (xs j))))) := by
  refine Or.inr ⟨rfl, rfl, ?_⟩
  intro i
  dsimp only
  rw [zl_e_lo (by decide) (by decide)]
  have hr : (List.range 1).map (fun j => (j, Value.int (xs j))) = [(0, .int (xs 0))] := rfl
  rw [hr]
  by_cases h0 : i = 0
  · subst h0
    have e : zp_g 3 (zp_D 0) = 3 := by decide
    rw [e]
    rfl
  · obtain ⟨e, rfl⟩ : ∃ e, i = 1 + e := ⟨i - 1, by omega⟩
    have e1 : zp_g 3 (zp_D (1 + e)) = 0 := by
      show 3 / zp_D (1 + e) % _ = 0
      have hlt : 3 < zp_D 1 := by decide
      have hp := zp_Dp e
      have : zp_D 1 * 1 ≤ zp_D 1 * zp_D e := Nat.mul_le_mul_left _ hp
      rw [zp_Da, Nat.div_eq_of_lt (by omega)]
    rw [e1]
    have e2 : pz_g [(0, Value.int (xs 0))] (1 + e) = .null := by
      simp only [pz_g]
      rw [if_neg (by omega)]
    rw [e2]
    rfl
theorem zb_s2 (xs : Nat → Int32) (fv : Value) : zR_c (zg xs fv) (1, 2, 89724963174523259060227) (.inl (0, 2, (List.range 2).map (fun j => (j, .int (xs j))))) := by
  refine Or.inr ⟨rfl, rfl, ?_⟩
  intro i
  dsimp only
  rw [zl_e_lo (by decide) (by decide)]
  have hr : (List.range 2).map (fun j => (j, Value.int (xs j))) = [(0, .int (xs 0)), (1, .int (xs 1))] := rfl
  rw [hr]
  by_cases h0 : i = 0
  · subst h0
    have e : zp_g 89724963174523259060227 (zp_D 0) = 3 := by decide
    rw [e]
    rfl
  · by_cases h1 : i = 1
    · subst h1
      have e : zp_g 89724963174523259060227 (zp_D 1) = 19 := by decide
      rw [e]
      rfl
    · obtain ⟨e, rfl⟩ : ∃ e, i = 2 + e := ⟨i - 2, by omega⟩
      have e1 : zp_g 89724963174523259060227 (zp_D (2 + e)) = 0 := by
        show 89724963174523259060227 / zp_D (2 + e) % _ = 0
        have hlt : 89724963174523259060227 < zp_D 2 := by decide
        have hp := zp_Dp e
        have : zp_D 2 * 1 ≤ zp_D 2 * zp_D e := Nat.mul_le_mul_left _ hp
        rw [zp_Da, Nat.div_eq_of_lt (by omega)]
      rw [e1]
      have e2 : pz_g [(0, Value.int (xs 0)), (1, Value.int (xs 1))] (2 + e) = .null := by
        simp only [pz_g]
        rw [if_neg (by omega), if_neg (by omega)]
      rw [e2]
      rfl
theorem zb_s3 (xs : Nat → Int32) (fv : Value) : zR_c (zg xs fv) (1, 3, 780526081948571809953839864505867175968374787) (.inl (0, 3, (List.range 3).map (fun j => (j, .int (xs j))))) := by
  refine Or.inr ⟨rfl, rfl, ?_⟩
  intro i
  dsimp only
  rw [zl_e_lo (by decide) (by decide)]
  have hr : (List.range 3).map (fun j => (j, Value.int (xs j))) = [(0, .int (xs 0)), (1, .int (xs 1)), (2, .int (xs 2))] := rfl
  rw [hr]
  by_cases h0 : i = 0
  · subst h0
    have e : zp_g 780526081948571809953839864505867175968374787 (zp_D 0) = 3 := by decide
    rw [e]
    rfl
  · by_cases h1 : i = 1
    · subst h1
      have e : zp_g 780526081948571809953839864505867175968374787 (zp_D 1) = 19 := by decide
      rw [e]
      rfl
    · by_cases h2 : i = 2
      · subst h2
        have e : zp_g 780526081948571809953839864505867175968374787 (zp_D 2) = 35 := by decide
        rw [e]
        rfl
      · obtain ⟨e, rfl⟩ : ∃ e, i = 3 + e := ⟨i - 3, by omega⟩
        have e1 : zp_g 780526081948571809953839864505867175968374787 (zp_D (3 + e)) = 0 := by
          show 780526081948571809953839864505867175968374787 / zp_D (3 + e) % _ = 0
          have hlt : 780526081948571809953839864505867175968374787 < zp_D 3 := by decide
          have hp := zp_Dp e
          have : zp_D 3 * 1 ≤ zp_D 3 * zp_D e := Nat.mul_le_mul_left _ hp
          rw [zp_Da, Nat.div_eq_of_lt (by omega)]
        rw [e1]
        have e2 : pz_g [(0, Value.int (xs 0)), (1, Value.int (xs 1)), (2, Value.int (xs 2))] (3 + e) = .null := by
          simp only [pz_g]
          rw [if_neg (by omega), if_neg (by omega), if_neg (by omega)]
        rw [e2]
        rfl
def z1_LV : Nat := 4398046511111
noncomputable def z1_0 : ze_R := zq (zb_E0 4 zb_P4) 5000 (fun pc => Nat.beq pc 32) 200 (fun _ _ => false) 590 0 zt_0 (zk_at zt_0 0) z1_LV [] ze_N (0, 0, 0)
def z1_end (r : ze_R) : Bool := match r with
  | some (.inl (.inl (some c), _, m)) => Nat.beq c 4 && Nat.ble m.2.1 600002 && Nat.ble m.2.2 7302232
  | _ => false
noncomputable def z1_chk (op : Int32) (b : zb_B) (r : Nat) : Bool := match z1_0 with
  | some (.inr (pc, lv, st, t, m)) => z1_end (ze (zb_E op b r) 20000 (fun _ _ => false) 590 0 zt_0 (zk_at zt_0 pc) lv st t m)
  | _ => false
noncomputable def z1_L (L P : Nat) : Bool := z1_end (ze (zb_E0 L P) 5000 (fun _ _ => false) 590 0 zt_0 (zk_at zt_0 0) z1_LV [] ze_N (0, 0, 0))
/-- cuts of boxes: 0 here it is counted, 1 the second number against the third, i + 2 the name i at a place -/
noncomputable def z1_d (op : Int32) : Nat → List (Nat × Nat) → zb_B → Nat → Option (List (Nat × Nat))
  | 0, _, _, _ => none
  | _ + 1, [], _, _ => none
  | n + 1, (k, c) :: rest, b, r => (match k with
    | 0 => if z1_chk op b r = true then some rest else none
    | 1 => (match z1_d op n rest b 1 with
      | some rest => (match z1_d op n rest b 2 with
        | some rest => z1_d op n rest b 3
        | none => none)
      | none => none)
    | i + 2 => if c = 0 then none else (match z1_d op n rest ((i, (zb_l b i).1, c - 1) :: b) r with
      | some rest => z1_d op n rest ((i, c, (zb_l b i).2) :: b) r
      | none => none))
theorem z1_d_ok {g : zy_G} {op : Int32} : ∀ (n : Nat) (code : List (Nat × Nat)) (b : zb_B) (r : Nat) (rest : List (Nat × Nat)), z1_d op n code b r = some rest → zb_in g b r → ∃ b' r', z1_chk op b' r' = true ∧ zb_in g b' r'
  | 0, code, b, r, rest, h, _ => by cases h
  | n + 1, [], b, r, rest, h, _ => by cases h
  | n + 1, (k, c) :: code, b, r, rest, h, hb => by
    unfold z1_d at h
    split at h
    · split at h
      · rename_i hc
        exact ⟨b, r, hc, hb⟩
      · cases h
    · split at h
      · rename_i r1 h1
        split at h
        · rename_i r2 h2
          have hq : g.1 2 < g.1 3 ∨ g.1 2 = g.1 3 ∨ g.1 3 < g.1 2 := by
            rw [zb_lt, zb_eq, zb_lt]
            omega
          rcases hq with hq | hq | hq
          · exact z1_d_ok n _ _ _ _ h1 ⟨hb.1, fun _ => hq, fun z => by omega, fun z => by omega, by omega⟩
          · exact z1_d_ok n _ _ _ _ h2 ⟨hb.1, fun z => by omega, fun _ => hq, fun z => by omega, by omega⟩
          · exact z1_d_ok n _ _ _ _ h ⟨hb.1, fun z => by omega, fun z => by omega, fun _ => hq, by omega⟩
        · cases h
      · cases h
    · rename_i i
      split at h
      · cases h
      · rename_i hc0
        split at h
        · rename_i r1 h1
          by_cases hq : zb_o (g.1 i) < c
          · refine z1_d_ok n _ _ _ _ h1 ⟨?_, hb.2⟩
            intro k
            show (if i = k then ((zb_l b i).1, c - 1) else zb_l b k).1 ≤ _ ∧ _ ≤ (if i = k then ((zb_l b i).1, c - 1) else zb_l b k).2
            by_cases hk : i = k
            · subst hk
              rw [if_pos rfl]
              exact ⟨(hb.1 i).1, by show _ ≤ c - 1; omega⟩
            · rw [if_neg hk]
              exact hb.1 k
          · refine z1_d_ok n _ _ _ _ h ⟨?_, hb.2⟩
            intro k
            show (if i = k then (c, (zb_l b i).2) else zb_l b k).1 ≤ _ ∧ _ ≤ (if i = k then (c, (zb_l b i).2) else zb_l b k).2
            by_cases hk : i = k
            · subst hk
              rw [if_pos rfl]
              exact ⟨by show c ≤ _; omega, (hb.1 i).2⟩
            · rw [if_neg hk]
              exact hb.1 k
        · cases h
/-- the end that is wanted -/
def z1_Q (r : pz_O) : Prop := ∃ w c s, r = (.inl (some (.int 1)), w, c, s) ∧ c ≤ 600002 ∧ s ≤ 7302232
section ZRR
variable {g : zy_G} {sc : pt_Sc}
theorem z1_end_ok {r : ze_R} {d j : Nat} (h : z1_end r = true) : ∃ out, r = some out ∧ zO sc g d j z1_Q out := by
  unfold z1_end at h
  split at h
  · rename_i c t m
    rw [Bool.and_eq_true, Bool.and_eq_true] at h
    obtain ⟨⟨h1, h2⟩, h3⟩ := h
    have hc : c = 4 := Nat.eq_of_beq_eq_true h1
    subst hc
    refine ⟨_, rfl, ?_⟩
    intro w' hw
    refine ⟨w', m.2.1, m.2.2, ?_, Nat.le_of_ble_eq_true h2, Nat.le_of_ble_eq_true h3⟩
    have e : zv g 4 = .int 1 := by
      have h0 : Nat.mod 4 4 = 0 := rfl
      rw [zc_i0 h0]
      rfl
    show (Sum.inl (some (zv g 4)), w', m.2.1, m.2.2) = _
    rw [e]
  · cases h
theorem z1_lv : zR_l g z1_LV [(0, .ref 1099511627776)] := by
  have h := zAI_1 (g := g) (c := 4398046511110) (zAI_0 (g := g)) (by decide)
  have e1 : zp_s 0 (zp_D 0) (4398046511110 + 1) = z1_LV := by decide
  have e2 : zv g 4398046511110 = .ref 1099511627776 := zc_ref 1099511627776
  rw [e1, e2] at h
  exact zAI_l h
theorem z1_w0 : zR_w g ze_N 0 [] := ⟨rfl, by decide, fun a c h => by cases h⟩
theorem z1_run {xs : Nat → Int32} {fv : Value} {L : Nat} (h : zZ (pt_sc L xs fv) (zg xs fv) 590 0 0 z1_LV [] ze_N (0, 0, 0) z1_Q) : ∃ (n d c1 s1 : Nat) (w1 : List pz_C), pt_run (pt_sc L xs fv) n d 0 0 [(0, .ref 1099511627776)] [] [] 0 0 = some (.inl (some (.int 1)), w1, c1, s1) ∧ d ≤ 600 ∧ c1 ≤ 600002 ∧ s1 ≤ 7302232 := by
  obtain ⟨n, r, h1, w, c, s, rfl, h2, h3⟩ := h _ _ z1_lv z1_w0
  exact ⟨n, 590, c, s, w, h1, by decide, h2, h3⟩
end ZRR
theorem zg_G {xs : Nat → Int32} {fv : Value} (hfv : fv = .null ∨ fv = .ref 1099511627783) : zG (zg xs fv) := by
  rcases hfv with rfl | rfl
  · exact Or.inl rfl
  · exact Or.inr ⟨_, rfl⟩
theorem zP_00 : zP 0 = some zt_0 := rfl
theorem zb_E0_ok {sc : pt_Sc} {g : zy_G} {L P : Nat} (hs : zR_c g (1, L, P) (.inl (0, sc.1, sc.2.1))) : zE_ok sc g (zb_E0 L P) :=
  ⟨fun _ _ _ h => (by cases h), fun _ _ _ _ h => (by cases h), fun _ _ _ _ h => (by cases h), fun _ _ h => (by cases h), zb_ot_ok hs⟩
theorem z1_small {xs : Nat → Int32} {fv : Value} (hfv : fv = .null ∨ fv = .ref 1099511627783) {L P : Nat} (hs : zR_c (zg xs fv) (1, L, P) (.inl (0, L, (List.range L).map (fun j => (j, .int (xs j)))))) (h : z1_L L P = true) : ∃ (n d c1 s1 : Nat) (w1 : List pz_C), pt_run (pt_sc L xs fv) n d 0 0 [(0, .ref 1099511627776)] [] [] 0 0 = some (.inl (some (.int 1)), w1, c1, s1) ∧ d ≤ 600 ∧ c1 ≤ 600002 ∧ s1 ≤ 7302232 := by
  apply z1_run
  obtain ⟨out, e1, e2⟩ := z1_end_ok (sc := pt_sc L xs fv) (g := zg xs fv) (d := 590) (j := 0) h
  exact ze_go (zg_G hfv) rfl (zb_E0_ok hs) zP_00 e1 e2
theorem z1_four {xs : Nat → Int32} {fv : Value} (hfv : fv = .null ∨ fv = .ref 1099511627783) {op : Int32} {b : zb_B} {r : Nat} (hop : xs 0 &&& 31 = op) (hb : zb_in (zg xs fv) b r) (h : z1_chk op b r = true) : ∃ (n d c1 s1 : Nat) (w1 : List pz_C), pt_run (pt_sc 4 xs fv) n d 0 0 [(0, .ref 1099511627776)] [] [] 0 0 = some (.inl (some (.int 1)), w1, c1, s1) ∧ d ≤ 600 ∧ c1 ≤ 600002 ∧ s1 ≤ 7302232 := by
  apply z1_run
  unfold z1_chk at h
  split at h
  · rename_i pc lv st t m h0
    obtain ⟨out, e1, e2⟩ := z1_end_ok (sc := pt_sc 4 xs fv) (g := zg xs fv) (d := 590) (j := 0) h
    refine zq_go (zg_G hfv) rfl (zb_E0_ok (zb_s4 xs fv)) zP_00 h0 ?_
    exact ze_go (zg_G hfv) rfl (zb_E_ok hop hb) zP_00 e1 e2
  · cases h
theorem zb_in0 {g : zy_G} : zb_in g [] 0 := by
  refine ⟨fun i => ⟨Nat.zero_le _, ?_⟩, fun z => by omega, fun z => by omega, fun z => by omega, by omega⟩
  have := zb_o_lt (g.1 i)
  show _ ≤ 4294967295
  omega
/-- an op of which every box has been counted -/
theorem z1_op {xs : Nat → Int32} {fv : Value} (hfv : fv = .null ∨ fv = .ref 1099511627783) {op : Int32} {n : Nat} {code rest : List (Nat × Nat)} (h : z1_d op n code [] 0 = some rest) (hop : xs 0 &&& 31 = op) : ∃ (n d c1 s1 : Nat) (w1 : List pz_C), pt_run (pt_sc 4 xs fv) n d 0 0 [(0, .ref 1099511627776)] [] [] 0 0 = some (.inl (some (.int 1)), w1, c1, s1) ∧ d ≤ 600 ∧ c1 ≤ 600002 ∧ s1 ≤ 7302232 := by
  obtain ⟨b, r, h1, h2⟩ := z1_d_ok (g := zg xs fv) n code [] 0 rest h zb_in0
  exact z1_four hfv hop h2 h1
