/-! ===== phases of a design text ===== -/
/-- names with their literals -/
def dw_v (nm : ds_n) : ds_n := nm.mapIdx (fun i x => (x.1, Int32.ofNat (2 * (i + 1))))
theorem dw_v_a (nm : ds_n) (c : Int64) (x : Int32) : dw_v (nm ++ [(c, x)]) = dw_v nm ++ [(c, Int32.ofNat (2 * (nm.length + 1)))] := by
  unfold dw_v
  rw [List.mapIdx_concat]
theorem dw_v_l (nm : ds_n) : (dw_v nm).length = nm.length := by
  unfold dw_v
  rw [List.length_mapIdx]
theorem dw_v_f (nm : ds_n) : (dw_v nm).map Prod.fst = nm.map Prod.fst := by
  apply List.ext_getElem?
  intro i
  unfold dw_v
  rw [List.getElem?_map, List.getElem?_map, List.getElem?_mapIdx]
  cases nm[i]? with
  | none => rfl
  | some x => rfl
theorem dw_v_t {nm : ds_n} : ds_lits nm.length nm = dw_v nm := by
  apply List.ext_getElem?
  intro i
  unfold ds_lits dw_v
  rw [List.getElem?_mapIdx, List.getElem?_mapIdx]
  cases h : nm[i]? with
  | none => rfl
  | some x =>
    have hi := (List.getElem?_eq_some_iff.mp h).1
    show some (if i < nm.length then (x.1, Int32.ofInt 2 * (Int32.ofInt 1 + Int32.ofNat i)) else x) = some (x.1, Int32.ofNat (2 * (i + 1)))
    rw [if_pos hi]
    have e : Int32.ofInt 2 * (Int32.ofInt 1 + Int32.ofNat i) = Int32.ofNat (2 * (i + 1)) := by
      rw [show Int32.ofInt 1 + Int32.ofNat i = Int32.ofNat (i + 1) by rw [← wq_4s i, Int32.add_comm], wi_2]
    rw [e]
section DZ
variable (ts : List wt_t) (n : Nat)
def dw_I (k : Nat) (s : wt_q) (nm : ds_n) : Nat × wt_q × ds_n := if k = 0 ∨ (k < 3 ∧ tk_now ts s = (Int8.ofInt 33).toInt32) then ds_RI ts n (3 - k) k s nm else (k, s, nm)
def dw_i (nm : ds_n) (s : wt_q) : wt_q := tk_take ts n (Int8.ofInt 9).toInt32 (ds_nn ts n nm (tk_take ts n (Int8.ofInt 33).toInt32 s)).2
def dw_l (nm : ds_n) (s : wt_q) : wt_q := tk_take ts n (Int8.ofInt 9).toInt32 (tk_take ts n (if tk_now ts (ds_nn ts n nm (tk_adv ts s)).2 = Int32.ofInt 5 then Int32.ofInt 5 else Int32.ofInt 4) (ds_nn ts n nm (tk_adv ts s)).2)
def dh0 (k : Nat) (s : wt_q) (nm : ds_n) : Prop := dsI ts n = dw_I ts n k s nm ∧ nm.length = k ∧ k ≤ 3
def dh1 (A B : Nat) (s : wt_q) (nm : ds_n) (fs : Nat → Int32) : Prop := dsA ts n = A ∧ dsL ts n = ds_RL ts n (5 - B) B s nm fs ∧ nm.length = A + B ∧ B ≤ 5
def dh2 (A B : Nat) (z : ds_Z) : Prop := dsA ts n = A ∧ dsB ts n = B ∧ ∃ f, (z.1.1.2 = none → ts.length ≤ z.1.1.1 + f) ∧ dsZ ts n = ds_SL ts n A B f z
def dw_x (A : Nat) (j : Nat) : Int32 := Int32.ofInt 2 * (Int32.ofInt 1 + Int32.ofNat A + Int32.ofNat j)
end DZ
section DY
variable {ts : List wt_t} {n : Nat}
theorem dh0_00 (ts : List wt_t) (n : Nat) : dh0 ts n 0 (0, none) [] := ⟨by
  show _ = dw_I ts n 0 (0, none) []
  unfold dw_I
  rw [if_pos (Or.inl rfl)]
  rfl, rfl, by omega⟩
theorem dz_RI (f k : Nat) (s : wt_q) (nm : ds_n) : ds_RI ts n (f + 1) k s nm = if k + 1 < 3 ∧ tk_now ts (dw_i ts n nm s) = (Int8.ofInt 33).toInt32 then ds_RI ts n f (k + 1) (dw_i ts n nm s) (ds_ad nm (ds_nn ts n nm (tk_take ts n (Int8.ofInt 33).toInt32 s)).1 (Int32.ofInt 0)) else (k + 1, dw_i ts n nm s, ds_ad nm (ds_nn ts n nm (tk_take ts n (Int8.ofInt 33).toInt32 s)).1 (Int32.ofInt 0)) := rfl
theorem dh0_s {k : Nat} {s : wt_q} {nm : ds_n} (h : dh0 ts n k s nm) (hk : k < 3) (h33 : k = 0 ∨ tk_now ts s = (Int8.ofInt 33).toInt32) : dh0 ts n (k + 1) (dw_i ts n nm s) (nm ++ [((ds_nn ts n nm (tk_take ts n (Int8.ofInt 33).toInt32 s)).1, Int32.ofInt 0)]) := by
  obtain ⟨h1, h2, h3⟩ := h
  refine ⟨?_, by rw [List.length_append, h2]; rfl, by omega⟩
  have ead : ds_ad nm (ds_nn ts n nm (tk_take ts n (Int8.ofInt 33).toInt32 s)).1 (Int32.ofInt 0) = nm ++ [((ds_nn ts n nm (tk_take ts n (Int8.ofInt 33).toInt32 s)).1, Int32.ofInt 0)] := if_pos (by omega)
  rw [h1]
  unfold dw_I
  rw [if_pos (by rcases h33 with e | e; exact Or.inl e; exact Or.inr ⟨hk, e⟩), show 3 - k = (2 - k) + 1 by omega, dz_RI, ead]
  by_cases c : k + 1 < 3 ∧ tk_now ts (dw_i ts n nm s) = (Int8.ofInt 33).toInt32
  · rw [if_pos (Or.inr c), show 3 - (k + 1) = 2 - k by omega]
    exact if_pos c
  · rw [if_neg (show ¬ (k + 1 = 0 ∨ (k + 1 < 3 ∧ tk_now ts (dw_i ts n nm s) = (Int8.ofInt 33).toInt32)) from fun z => z.elim (fun e => by omega) c)]
    exact if_neg c
theorem dh0_1 {k : Nat} {s : wt_q} {nm : ds_n} (h : dh0 ts n k s nm) (hk : 1 ≤ k) (h33 : k = 3 ∨ ¬ tk_now ts s = (Int8.ofInt 33).toInt32) : dh1 ts n k 0 s nm (fun _ => 0) := by
  obtain ⟨h1, h2, h3⟩ := h
  have e : dsI ts n = (k, s, nm) := by
    rw [h1]
    unfold dw_I
    rw [if_neg (by
      rintro (z | ⟨z1, z2⟩)
      · omega
      · rcases h33 with y | y
        · omega
        · exact y z2)]
  refine ⟨by unfold dsA; rw [e], by unfold dsL; rw [e], by omega, by omega⟩
theorem dh1_s {A B : Nat} {s : wt_q} {nm : ds_n} {fs : Nat → Int32} (h : dh1 ts n A B s nm fs) (hA : A ≤ 3) (hB : B < 5) (h34 : tk_now ts s = (Int8.ofInt 34).toInt32) : dh1 ts n A (B + 1) (dw_l ts n nm s) (nm ++ [((ds_nn ts n nm (tk_adv ts s)).1, Int32.ofInt 0)]) (ds_up fs B (if tk_now ts (ds_nn ts n nm (tk_adv ts s)).2 = Int32.ofInt 5 then Int32.ofInt 1 else Int32.ofInt 0)) := by
  obtain ⟨h1, h2, h3, h4⟩ := h
  refine ⟨h1, ?_, by rw [List.length_append, h3]; show A + B + 1 = _; omega, by omega⟩
  have ead : ds_ad nm (ds_nn ts n nm (tk_adv ts s)).1 (Int32.ofInt 0) = nm ++ [((ds_nn ts n nm (tk_adv ts s)).1, Int32.ofInt 0)] := if_pos (by omega)
  rw [h2, show 5 - B = (4 - B) + 1 by omega, show 5 - (B + 1) = 4 - B by omega, ← ead]
  show (if tk_now ts s = (Int8.ofInt 34).toInt32 then _ else _) = _
  rw [if_pos h34]
  rfl
theorem dz_RL {f B : Nat} {s : wt_q} {nm : ds_n} {fs : Nat → Int32} (h : ¬ tk_now ts s = (Int8.ofInt 34).toInt32 ∨ f = 0) : ds_RL ts n f B s nm fs = (B, s, nm, fs) := by
  cases f with
  | zero => rfl
  | succ f =>
    show (if tk_now ts s = (Int8.ofInt 34).toInt32 then _ else _) = _
    rw [if_neg (h.elim id (fun e => by cases e))]
theorem dh1_2 {A B : Nat} {s : wt_q} {nm : ds_n} {fs : Nat → Int32} (h : dh1 ts n A B s nm fs) (hl : s.2 = none → ts.length ≤ s.1 + 400) (h34 : B = 5 ∨ ¬ tk_now ts s = (Int8.ofInt 34).toInt32) : dh2 ts n A B ((s, []), dw_v nm, dw_x A, fun _ => Int32.ofInt 2) ∧ (dsL ts n).2.2.2 = fs := by
  obtain ⟨h1, h2, h3, h4⟩ := h
  have e : dsL ts n = (B, s, nm, fs) := by
    rw [h2]
    exact dz_RL (h34.elim (fun z => Or.inr (by omega)) Or.inl)
  have eB : dsB ts n = B := by
    unfold dsB
    rw [e]
  refine ⟨⟨h1, eB, 400, hl, ?_⟩, by rw [e]⟩
  unfold dsZ dsZ0
  rw [h1, eB, e]
  have e3 : ds_lits (A + B) nm = dw_v nm := by
    rw [← h3]
    exact dw_v_t
  show ds_SL ts n A B 400 ((s, []), ds_lits (A + B) nm, _, _) = _
  rw [e3]
  rfl
theorem dz_SL_f {A B f : Nat} {z : ds_Z} (h : tk_now ts z.1.1 = 0 ∨ z.1.1.2.isSome = true) : ds_SL ts n A B f z = z := by
  cases f with
  | zero => rfl
  | succ f =>
    show (if tk_now ts z.1.1 = 0 ∨ z.1.1.2.isSome = true then z else _) = z
    rw [if_pos h]
theorem dh2_f {A B : Nat} {z : ds_Z} (h : dh2 ts n A B z) (hz : tk_now ts z.1.1 = 0 ∨ z.1.1.2.isSome = true) : dsZ ts n = z := by
  obtain ⟨_, _, f, _, e⟩ := h
  rw [e]
  exact dz_SL_f hz
theorem dh1_f {A B : Nat} {s : wt_q} {nm : ds_n} {fs : Nat → Int32} {w : Nat} (h : dh1 ts n A B s nm fs) (hs : s.2 = some w) : (dsZ ts n).1.1.2 = some w := by
  rw [dh2_f (dh1_2 h (fun z => by rw [hs] at z; cases z) (Or.inr (by rw [dw_now hs]; decide))).1 (Or.inr (by show s.2.isSome = true; rw [hs]; rfl))]
  exact hs
theorem dh0_f {k : Nat} {s : wt_q} {nm : ds_n} {w : Nat} (h : dh0 ts n k s nm) (hk : 1 ≤ k) (hs : s.2 = some w) : (dsZ ts n).1.1.2 = some w := dh1_f (dh0_1 h hk (Or.inr (by rw [dw_now hs]; decide))) hs
theorem dh2_s {A B : Nat} {z : ds_Z} (h : dh2 ts n A B z) (hs : z.1.1.2 = none) (hl : z.1.1.1 < ts.length) (h0 : ¬ tk_now ts z.1.1 = 0) (hi : ds_is (tk_now ts z.1.1) = true) (hm : z.1.1.1 + 1 ≤ (ds_stm ts n A B z).1.1.1) : dh2 ts n A B (ds_stm ts n A B z) := by
  obtain ⟨h1, h2, f, h3, h4⟩ := h
  cases f with
  | zero => have := h3 hs; omega
  | succ f =>
    refine ⟨h1, h2, f, fun _ => by have := h3 hs; omega, ?_⟩
    rw [h4]
    show (if tk_now ts z.1.1 = 0 ∨ z.1.1.2.isSome = true then z else if ds_is (tk_now ts z.1.1) = true then ds_SL ts n A B f (ds_stm ts n A B z) else _) = _
    rw [if_neg (by
      rintro (y | y)
      · exact h0 y
      · rw [hs] at y
        cases y), if_pos hi]
theorem dh2_b {A B : Nat} {z : ds_Z} (h : dh2 ts n A B z) (hs : z.1.1.2 = none) (hl : z.1.1.1 < ts.length) (h0 : ¬ tk_now ts z.1.1 = 0) (hi : ¬ ds_is (tk_now ts z.1.1) = true) : (dsZ ts n).1.1.2 = some (tk_place ts n z.1.1.1) := by
  obtain ⟨h1, h2, f, h3, h4⟩ := h
  cases f with
  | zero => have := h3 hs; omega
  | succ f =>
    have e : dsZ ts n = ds_SL ts n A B f ((tk_ref ts n z.1.1, z.1.2), z.2) := by
      rw [h4]
      show (if tk_now ts z.1.1 = 0 ∨ z.1.1.2.isSome = true then z else if ds_is (tk_now ts z.1.1) = true then _ else ds_SL ts n A B f ((tk_ref ts n z.1.1, z.1.2), z.2)) = _
      rw [if_neg (by
        rintro (y | y)
        · exact h0 y
        · rw [hs] at y
          cases y), if_neg hi]
    rw [e, dw_ref hs, dz_SL_f (Or.inr rfl)]
theorem dh0_b {s : wt_q} {nm : ds_n} (h : dh0 ts n 0 s nm) (hs : s.2 = none) (h33 : ¬ tk_now ts s = (Int8.ofInt 33).toInt32) : (dsZ ts n).1.1.2 = some (tk_place ts n s.1) := by
  have g := dh0_s h (by omega) (Or.inl rfl)
  have e1 : tk_take ts n (Int8.ofInt 33).toInt32 s = (s.1, some (tk_place ts n s.1)) := by
    unfold tk_take
    rw [if_neg h33, dw_ref hs]
  have e2 : (ds_nn ts n nm (s.1, some (tk_place ts n s.1))).2 = (s.1, some (tk_place ts n s.1)) := by
    unfold ds_nn
    have : (if ds_ix nm (tk_name ts s.1) = none then (s.1, some (tk_place ts n s.1)) else tk_ref ts n (s.1, some (tk_place ts n s.1))) = (s.1, some (tk_place ts n s.1)) := by
      split
      · rfl
      · exact dw_ref2 rfl
    show tk_take ts n (Int8.ofInt 32).toInt32 (if ds_ix nm (tk_name ts s.1) = none then (s.1, some (tk_place ts n s.1)) else tk_ref ts n (s.1, some (tk_place ts n s.1))) = _
    rw [this]
    exact dw_take2 rfl (by decide)
  have e3 : dw_i ts n nm s = (s.1, some (tk_place ts n s.1)) := by
    unfold dw_i
    rw [e1, e2]
    exact dw_take2 rfl (by decide)
  rw [e3] at g
  exact dh0_f g (by omega) rfl
end DY
