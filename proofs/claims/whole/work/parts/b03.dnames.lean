/-! ===== names, room and gates of a design text ===== -/
/-- names, and the literals that they tell -/
def ds_N (I : Nat → Nat → Int32) (L : Nat → Nat → Int64) (nm : List (Int64 × Int32)) : Prop := I 22 4 = Int32.ofNat nm.length ∧ nm.length ≤ 50 ∧ ∀ i x, nm[i]? = some x → L 23 i = x.1 ∧ I 24 i = x.2
def ds_ix (nm : List (Int64 × Int32)) (c : Int64) : Option Nat := match nm with
  | [] => none
  | x :: l => if x.1 = c then some 0 else (ds_ix l c).map (· + 1)
theorem lg_cmp_0 {x y : Int64} : lg_cmp x y = 0 ↔ x = y := by
  unfold lg_cmp
  constructor
  · intro h
    split at h
    · exact absurd h (by decide)
    · split at h
      · assumption
      · exact absurd h (by decide)
  · intro h
    rw [h]
    simp [Int64.lt_irrefl]
theorem ds_ix_k (c : Int64) : ∀ (nm : List (Int64 × Int32)) (k : Nat) (x : Int64 × Int32), nm[k]? = some x → x.1 = c → (∀ j y, j < k → nm[j]? = some y → ¬ y.1 = c) → ds_ix nm c = some k
  | [], k, x, h, _, _ => by cases k <;> cases h
  | y :: l, 0, x, h, hc, _ => by
    have h : some y = some x := h
    cases h
    exact if_pos hc
  | y :: l, k + 1, x, h, hc, hj => by
    have h0 := hj 0 y (by omega) rfl
    have h1 := ds_ix_k c l k x h hc (fun j z hjk hz => hj (j + 1) z (by omega) hz)
    show (if y.1 = c then some 0 else (ds_ix l c).map (· + 1)) = _
    rw [if_neg h0, h1]
    rfl
theorem ds_ix_none (c : Int64) : ∀ (nm : List (Int64 × Int32)), (∀ y, y ∈ nm → ¬ y.1 = c) → ds_ix nm c = none
  | [], _ => rfl
  | y :: l, h => by
    show (if y.1 = c then some 0 else (ds_ix l c).map (· + 1)) = _
    rw [if_neg (h y List.mem_cons_self), ds_ix_none c l (fun z hz => h z (List.mem_cons_of_mem _ hz))]
    rfl
theorem ds_ix_some {c : Int64} : ∀ {nm : List (Int64 × Int32)} {k : Nat}, ds_ix nm c = some k → ∃ x, nm[k]? = some x ∧ x.1 = c ∧ k < nm.length
  | [], k, h => by cases h
  | y :: l, k, h => by
    have h : (if y.1 = c then some 0 else (ds_ix l c).map (· + 1)) = some k := h
    split at h
    · cases h
      exact ⟨y, rfl, by assumption, by simp⟩
    · obtain ⟨k1, h1, h2⟩ := Option.map_eq_some_iff.mp h
      obtain ⟨x, x1, x2, x3⟩ := ds_ix_some h1
      subst h2
      exact ⟨x, x1, x2, by simp only [List.length_cons]; omega⟩
def ds_h55 (c : Int64) (nm : List (Int64 × Int32)) (T : wv_T) (N : Nat) (I : Nat → Nat → Int32) (L : Nat → Nat → Int64) (R : Nat → Nat → Option Nat) : Nat → Option (Nat → wv_P) := fun pc =>
  if pc = 2 then some (fun m lv st T1 N1 I1 L1 R1 nc ns => ∃ k : Nat, lv = [some (.ref 22), some (.long c), none, some (.int (Int32.ofNat k)), none, none, none] ∧ st = [] ∧ T1 = T ∧ N1 = N ∧ I1 = I ∧ L1 = L ∧ R1 = R ∧ nc = 0 ∧ ns = 0 ∧ k ≤ nm.length ∧ m = nm.length - k ∧ ∀ j y, j < k → nm[j]? = some y → ¬ y.1 = c)
  else none
def ds_c55 : wv_c1 := fun as T N I L R q => ∃ (c : Int64) (nm : List (Int64 × Int32)), as = [.ref 22, .long c] ∧ wm_T T ∧ ds_N I L nm ∧ q (.inl (some (.int (wt_f (ds_ix nm c))))) T N I L R 0 0
set_option maxRecDepth 100000 in
theorem wM_55 : ∃ cb ci np, pt_mt 55 = some (6, cb, 4, false, some .int, ci, np) := ⟨_, _, _, rfl⟩
set_option maxRecDepth 100000 in
set_option maxHeartbeats 4000000 in
theorem ds_indexOf {sc : pt_Sc} {d : Nat} : wv_C wm_fx sc (d + 1) 55 ds_c55 := by
  rintro as T N I L R q ⟨c, nm, rfl, hT, hN, h⟩ w0 HR
  obtain ⟨cb, ci, np, hm⟩ := wM_55
  refine wv_meth (hh := none) rfl (sp := fun _ _ _ _ _ _ _ _ => False) (hd := ds_h55 c nm T N I L R) (n := 300) (n1 := 300) hm zc_55 rfl (fun k as T N I L R q h => by cases h) ?_ ?_ HR
  · exact ⟨nm.length, 0, rfl, rfl, rfl, rfl, rfl, rfl, rfl, rfl, rfl, Nat.zero_le _, rfl, fun j y hj => by omega⟩
  · intro pc P hP m lv st T1 N1 I1 L1 R1 nc ns hh
    unfold ds_h55 at hP
    split at hP
    · cases hP
      rename_i hpc
      subst hpc
      obtain ⟨k, rfl, rfl, rfl, rfl, rfl, rfl, rfl, rfl, rfl, hk, hm, hj⟩ := hh
      obtain ⟨n1, n2, n3⟩ := hN
      have ek := wi_on (n := k) (by omega)
      have en := wi_onn (n := k) (by omega)
      have el := wi_on (n := nm.length) (by omega)
      refine ⟨fun h1 => ?_, fun h1 => ?_⟩
      · have e : k = nm.length := by rw [n1, wi_le, ek, el] at h1; omega
        have hx : ds_ix nm c = none := ds_ix_none c nm (fun y hy => by
          obtain ⟨j, hjl, hje⟩ := List.mem_iff_getElem.mp hy
          exact hj j y (by omega) (by rw [List.getElem?_eq_getElem hjl, hje]))
        rw [hx] at h
        exact h
      · have hlt : k < nm.length := by rw [n1, wi_le, ek, el] at h1; omega
        have hx : nm[k]? = some nm[k] := List.getElem?_eq_getElem hlt
        obtain ⟨x1, x2⟩ := n3 k _ hx
        refine ⟨_, wm_t hT rfl, ⟨by rw [wi_le, ek, wi_0]; omega, by rw [ek]; omega⟩, ?_⟩
        rw [en, x1]
        refine ⟨fun h2 => ?_, fun h2 => ?_⟩
        · have h3 : ¬ nm[k].1 = c := fun z => h2 (lg_cmp_0.mpr z)
          refine ⟨nm.length - (k + 1), by omega, k + 1, by rw [← wq_4s]; rfl, rfl, rfl, rfl, rfl, rfl, rfl, rfl, rfl, by omega, rfl, ?_⟩
          intro j y hjk hy
          by_cases e : j = k
          · subst e
            rw [hx] at hy
            cases hy
            exact h3
          · exact hj j y (by omega) hy
        · have h3 : nm[k].1 = c := lg_cmp_0.mp (Decidable.not_not.mp h2)
          rw [ds_ix_k c nm k _ hx h3 hj] at h
          exact h
    · cases hP
/-- what adding a name leaves alone -/
def ds_A (I : Nat → Nat → Int32) (L : Nat → Nat → Int64) (I1 : Nat → Nat → Int32) (L1 : Nat → Nat → Int64) : Prop := (∀ c j, ¬ (c = 22 ∧ j = 4) → ¬ c = 24 → I1 c j = I c j) ∧ ∀ c j, ¬ c = 23 → L1 c j = L c j
def ds_c56 : wv_c1 := fun as T N I L R q => ∃ (c : Int64) (x : Int32) (nm : List (Int64 × Int32)), as = [.ref 22, .long c, .int x] ∧ wm_T T ∧ ds_N I L nm ∧ ∀ I1 L1, ds_N I1 L1 (if nm.length < 50 then nm ++ [(c, x)] else nm) → ds_A I L I1 L1 → q (.inl none) T N I1 L1 R 0 0
set_option maxRecDepth 100000 in
theorem wM_56 : ∃ cb ci np, pt_mt 56 = some (6, cb, 4, false, none, ci, np) := ⟨_, _, _, rfl⟩
set_option maxRecDepth 100000 in
set_option maxHeartbeats 4000000 in
theorem ds_addName {sc : pt_Sc} {d : Nat} : wv_C wm_fx sc (d + 1) 56 ds_c56 := by
  rintro as T N I L R q ⟨c, x, nm, rfl, hT, ⟨n1, n2, n3⟩, h⟩ w0 HR
  obtain ⟨cb, ci, np, hm⟩ := wM_56
  refine wv_meth (hh := none) rfl (sp := fun _ _ _ _ _ _ _ _ => False) (hd := fun _ => none) (n := 0) (n1 := 300) hm zc_56 rfl (fun k as T N I L R q h => by cases h) ?_ (fun pc P h => by cases h) HR
  have el := wi_on (n := nm.length) (by omega)
  have en := wi_onn (n := nm.length) (by omega)
  have e50 : ((Int8.ofInt 50).toInt32).toInt = 50 := rfl
  refine ⟨fun h1 => ?_, fun h1 => ?_⟩
  · rw [n1, wi_le, el, e50] at h1
    rw [if_neg (by omega)] at h
    exact h I L ⟨n1, n2, n3⟩ ⟨fun _ _ _ _ => rfl, fun _ _ _ => rfl⟩
  · rw [n1, wi_le, el, e50] at h1
    have hlt : nm.length < 50 := by omega
    rw [if_pos hlt] at h
    have bd : 0 ≤ I 22 4 ∧ (I 22 4).toInt < (50 : Nat) := by rw [n1]; exact ⟨by rw [wi_le, el, wi_0]; omega, by rw [el]; omega⟩
    have i4 : (I 22 4).toNatClampNeg = nm.length := by rw [n1, en]
    refine ⟨_, wm_t hT rfl, bd, by decide, _, wm_t hT rfl, bd, by decide, ?_⟩
    rw [i4]
    have hX : ∀ y, y = Int32.ofNat nm.length → q (.inl none) T N (wv_u (wv_u I 24 nm.length x) 22 4 (y + Int32.ofInt 1)) (wv_u L 23 nm.length c) R 0 0 := by
      rintro y rfl
      refine h _ _ ⟨?_, ?_, ?_⟩ ⟨fun c j a b => by rw [wv_u_no _ _ a, wv_u_no _ _ (fun z => b z.1)], fun c j a => wv_u_no _ _ (fun z => a z.1)⟩
      · rw [wv_u_at, List.length_append]; exact wq_4s _
      · rw [List.length_append]; simp only [List.length_singleton]; omega
      · intro i y hy
        by_cases hi : i < nm.length
        · rw [List.getElem?_append_left hi] at hy
          obtain ⟨a1, a2⟩ := n3 i y hy
          exact ⟨by rw [wv_u_no _ _ (by omega)]; exact a1, by rw [wv_u_no _ _ (by omega), wv_u_no _ _ (by omega)]; exact a2⟩
        · have hi2 : i = nm.length := by
            have := (List.getElem?_eq_some_iff.mp hy).1
            rw [List.length_append] at this
            simp only [List.length_singleton] at this
            omega
          subst hi2
          rw [List.getElem?_append_right (Nat.le_refl _), Nat.sub_self] at hy
          cases hy
          exact ⟨wv_u_at _ _ _ _, by rw [wv_u_no _ _ (by omega), wv_u_at]⟩
    exact hX (wv_u I 24 nm.length x 22 4) (by rw [wv_u_no _ _ (by omega)]; exact n1)
abbrev ds_g : Type := List (Int32 × Int32)
abbrev ds_q : Type := wt_q × ds_g
/-- a design that is being read: its gates -/
def ds_P (I : Nat → Nat → Int32) (C A B : Nat) (gs : ds_g) : Prop := I C 8 = Int32.ofNat A ∧ (I C 9 = Int32.ofNat B ∧ I C 7 = 0) ∧ I C 10 = Int32.ofNat gs.length ∧ gs.length ≤ 60 ∧ ∀ j x, gs[j]? = some x → I (C + 1) j = x.1 ∧ I (C + 2) j = x.2
/-- what reading an expression leaves alone -/
def ds_F (C : Nat) (I I1 : Nat → Nat → Int32) : Prop := ∀ c j, ¬ (c = 1 ∧ (j = 8 ∨ j = 9)) → ¬ (c = C ∧ (j = 7 ∨ j = 10)) → ¬ (c = C + 1 ∨ c = C + 2) → I1 c j = I c j
theorem ds_F_id (C : Nat) (I : Nat → Nat → Int32) : ds_F C I I := fun _ _ _ _ _ => rfl
theorem ds_F_tr {C : Nat} {I J K : Nat → Nat → Int32} (h : ds_F C I J) (h2 : ds_F C J K) : ds_F C I K := fun c j a b d => by rw [h2 c j a b d, h c j a b d]
theorem ds_F_Q {C n : Nat} {I J : Nat → Nat → Int32} {L : Nat → Nat → Int64} {ts : List wt_t} {s : wt_q} (h : wt_Q I L ts n s J) : ds_F C I J := fun c j a _ _ => h.2 c j a
theorem ds_P_Q {C A B n : Nat} {I J : Nat → Nat → Int32} {L : Nat → Nat → Int64} {ts : List wt_t} {s : wt_q} {gs : ds_g} (hC : 30 < C) (h : wt_Q I L ts n s J) (hp : ds_P I C A B gs) : ds_P J C A B gs := by
  obtain ⟨p1, p2, p3, p4, p5⟩ := hp
  refine ⟨by rw [h.2 _ _ (by omega)]; exact p1, ⟨by rw [h.2 _ _ (by omega)]; exact p2.1, by rw [h.2 _ _ (by omega)]; exact p2.2⟩, by rw [h.2 _ _ (by omega)]; exact p3, p4, fun j x hx => ?_⟩
  rw [h.2 _ _ (by omega), h.2 _ _ (by omega)]
  exact p5 j x hx
theorem ds_N_F {C : Nat} {I J : Nat → Nat → Int32} {L : Nat → Nat → Int64} {nm : List (Int64 × Int32)} (hC : 30 < C) (h : ds_F C I J) (hn : ds_N I L nm) : ds_N J L nm := by
  obtain ⟨n1, n2, n3⟩ := hn
  refine ⟨by rw [h _ _ (by omega) (by omega) (by omega)]; exact n1, n2, fun i x hx => ?_⟩
  rw [h _ _ (by omega) (by omega) (by omega)]
  exact n3 i x hx
/-- all that reading an expression needs -/
def ds_V (T : wv_T) (I : Nat → Nat → Int32) (L : Nat → Nat → Int64) (R : Nat → Nat → Option Nat) (C A B : Nat) (ts : List wt_t) (n : Nat) (nm : List (Int64 × Int32)) (x : ds_q) : Prop := wm_T T ∧ wd_D T R C ∧ 30 < C ∧ C < 1099511000000 ∧ A ≤ 3 ∧ B ≤ 5 ∧ wt_K I L ts n x.1.1 x.1.2 ∧ ds_P I C A B x.2 ∧ ds_N I L nm
theorem ds_V_Q {T : wv_T} {I J : Nat → Nat → Int32} {L : Nat → Nat → Int64} {R : Nat → Nat → Option Nat} {C A B : Nat} {ts : List wt_t} {n : Nat} {nm : List (Int64 × Int32)} {x : ds_q} {s : wt_q} (h : ds_V T I L R C A B ts n nm x) (hq : wt_Q I L ts n s J) : ds_V T J L R C A B ts n nm (s, x.2) := by
  obtain ⟨v1, v2, v3, v4, v5, v6, v7, v8, v9⟩ := h
  exact ⟨v1, v2, v3, v4, v5, v6, hq.1, ds_P_Q v3 hq v8, ds_N_F v3 (ds_F_Q (C := C) hq) v9⟩
/-- one gate more -/
theorem ds_V_add {T : wv_T} {I : Nat → Nat → Int32} {L : Nat → Nat → Int64} {R : Nat → Nat → Option Nat} {C A B : Nat} {ts : List wt_t} {n : Nat} {nm : List (Int64 × Int32)} {s : wt_q} {gs : ds_g} {u v : Int32} (h : ds_V T I L R C A B ts n nm (s, gs)) (hl : gs.length < 60) : ds_V T (wd_add C u v (Int32.ofNat gs.length) I) L R C A B ts n nm (s, gs ++ [(u, v)]) ∧ ds_F C I (wd_add C u v (Int32.ofNat gs.length) I) := by
  obtain ⟨v1, v2, v3, v4, v5, v6, v7, ⟨p1, p2, p3, p4, p5⟩, v9⟩ := h
  have en := wi_onn (n := gs.length) (by omega)
  have hF : ds_F C I (wd_add C u v (Int32.ofNat gs.length) I) := by
    intro c j a b d
    unfold wd_add
    rw [wv_u_no _ _ (by omega), wv_u_no _ _ (by omega), wv_u_no _ _ (by omega), wv_u_no _ _ (by omega)]
  refine ⟨⟨v1, v2, v3, v4, v5, v6, wt_K_D (C := C) (by omega) v7 (fun c j hc => wd_add_no (by omega) (by omega) (by omega)), ⟨?_, ?_, ?_, ?_, ?_⟩, ds_N_F v3 hF v9⟩, hF⟩
  · unfold wd_add
    rw [wv_u_no _ _ (by omega), wv_u_no _ _ (by omega), wv_u_no _ _ (by omega), wv_u_no _ _ (by omega)]; exact p1
  · unfold wd_add
    exact ⟨by rw [wv_u_no _ _ (by omega), wv_u_no _ _ (by omega), wv_u_no _ _ (by omega), wv_u_no _ _ (by omega)]; exact p2.1, by rw [wv_u_at]; rfl⟩
  · unfold wd_add
    rw [wv_u_no _ _ (by omega), wv_u_at, List.length_append]; exact wq_4s _
  · rw [List.length_append]; simp only [List.length_singleton]; omega
  · intro j x hx
    unfold wd_add
    rw [en]
    by_cases hj : j < gs.length
    · rw [List.getElem?_append_left hj] at hx
      obtain ⟨a1, a2⟩ := p5 j x hx
      constructor
      · rw [wv_u_no _ _ (by omega), wv_u_no _ _ (by omega), wv_u_no _ _ (by omega), wv_u_no _ _ (by omega)]; exact a1
      · rw [wv_u_no _ _ (by omega), wv_u_no _ _ (by omega), wv_u_no _ _ (by omega), wv_u_no _ _ (by omega)]; exact a2
    · have hj2 : j = gs.length := by
        have := (List.getElem?_eq_some_iff.mp hx).1
        rw [List.length_append] at this
        simp only [List.length_singleton] at this
        omega
      subst hj2
      rw [List.getElem?_append_right (Nat.le_refl _), Nat.sub_self] at hx
      cases hx
      constructor
      · rw [wv_u_no _ _ (by omega), wv_u_no _ _ (by omega), wv_u_no _ _ (by omega), wv_u_at]
      · rw [wv_u_no _ _ (by omega), wv_u_no _ _ (by omega), wv_u_at]
/-- room for k gates more, told at place pl -/
def ds_rm (k pl : Nat) (x : ds_q) : Bool × ds_q := match x.1.2 with
  | some _ => (false, x)
  | none => if 60 < x.2.length + k then (false, ((x.1.1, some pl), x.2)) else (true, x)
def ds_c68 : wv_c1 := fun as T N I L R q => ∃ (C A B : Nat) (ts : List wt_t) (n : Nat) (nm : List (Int64 × Int32)) (x : ds_q) (k pl : Nat), as = [.ref 22, .ref C, .int (Int32.ofNat k), .int (Int32.ofNat pl)] ∧ ds_V T I L R C A B ts n nm x ∧ k ≤ 3 ∧ pl ≤ 400 ∧ ∀ I1, ds_V T I1 L R C A B ts n nm (ds_rm k pl x).2 → ds_F C I I1 → q (.inl (some (.int (wp_b (ds_rm k pl x).1)))) T N I1 L R 0 0
set_option maxRecDepth 100000 in
theorem wM_68 : ∃ cb ci np, pt_mt 68 = some (6, cb, 4, false, some .boolean, ci, np) := ⟨_, _, _, rfl⟩
set_option maxRecDepth 100000 in
set_option maxHeartbeats 4000000 in
theorem ds_hasRoom {sc : pt_Sc} {d : Nat} : wv_C wm_fx sc (d + 1 + 1) 68 ds_c68 := by
  rintro as T N I L R q ⟨C, A, B, ts, n, nm, ⟨⟨a, f⟩, gs⟩, k, pl, rfl, hV, hk, hpl, h⟩ w0 HR
  obtain ⟨cb, ci, np, hm⟩ := wM_68
  have hc61 : wv_C wm_fx sc (d + 1) 61 wt_c61 := wv_C_deep (by omega) (wt_faulty (d := d))
  have hc69 : wv_C wm_fx sc (d + 1) 69 (wd_g 10) := wv_C_deep (by omega) (wd_gates (d := d))
  have hc70 : wv_C wm_fx sc (d + 1) 70 wt_c70 := wv_C_deep (by omega) (wt_refuseAt (d := d))
  refine wv_meth (hh := none) rfl (sp := wv_sp [(61, wt_c61), (69, wd_g 10), (70, wt_c70)]) (hd := fun _ => none) (n := 0) (n1 := 300) hm zc_68 rfl (wv_sp_ok (fun q hq => by
    rcases List.mem_cons.mp hq with h | h
    · rw [h]; exact hc61
    rcases List.mem_cons.mp h with h | h
    · rw [h]; exact hc69
    rw [List.mem_singleton.mp h]; exact hc70)) ?_ (fun pc P h => by cases h) HR
  obtain ⟨v1, v2, v3, v4, v5, v6, v7, v8, v9⟩ := hV
  have hl : gs.length ≤ 60 := v8.2.2.2.1
  have p3 : I C 10 = Int32.ofNat gs.length := v8.2.2.1
  have e60 : ((Int8.ofInt 60).toInt32).toInt = 60 := rfl
  have hs : (I C 10 + Int32.ofNat k).toInt = gs.length + k := by rw [p3, wi_ona, wi_on (by omega)]; omega
  refine ⟨ts, n, (a, f), rfl, v1, v7, ?_⟩
  cases f with
  | some z =>
    refine ⟨fun z => (by cases z), fun _ => ?_⟩
    exact ⟨⟨rfl, rfl⟩, h I ⟨v1, v2, v3, v4, v5, v6, v7, v8, v9⟩ (ds_F_id _ _)⟩
  | none =>
    refine ⟨fun _ => ?_, fun z => (z rfl).elim⟩
    refine ⟨v2.1, C, rfl, v2.1, ?_⟩
    refine ⟨fun h1 => ?_, fun h1 => ?_⟩
    · rw [wi_le, hs, e60] at h1
      have er : ds_rm k pl ((a, none), gs) = (true, ((a, none), gs)) := if_neg (by show ¬ 60 < gs.length + k; omega)
      rw [er] at h
      exact ⟨⟨rfl, rfl⟩, h I ⟨v1, v2, v3, v4, v5, v6, v7, v8, v9⟩ (ds_F_id _ _)⟩
    · rw [wi_le, hs, e60] at h1
      have er : ds_rm k pl ((a, none), gs) = (false, ((a, some pl), gs)) := if_pos (by show 60 < gs.length + k; omega)
      rw [er] at h
      refine ⟨ts, n, (a, none), pl, rfl, hpl, v1, v7, fun I1 g => ?_⟩
      have hV : ds_V T I L R C A B ts n nm ((a, none), gs) := ⟨v1, v2, v3, v4, v5, v6, v7, v8, v9⟩
      exact ⟨⟨rfl, rfl⟩, h I1 (ds_V_Q hV g) (ds_F_Q g)⟩
/-- a gate's literal, as it is told -/
def wd_c71b : wv_c1 := fun as T N I L R q => ∃ (C A B : Nat) (ts : List wt_t) (n : Nat) (nm : List (Int64 × Int32)) (s : wt_q) (gs : ds_g) (u v : Int32), as = [.ref C, .int u, .int v] ∧ ds_V T I L R C A B ts n nm (s, gs) ∧ gs.length < 60 ∧ ∀ I1, ds_V T I1 L R C A B ts n nm (s, gs ++ [(u, v)]) → ds_F C I I1 → q (.inl (some (.int (Int32.ofNat (1 + A + B + gs.length))))) T N I1 L R 0 0
theorem wd_addGateB {sc : pt_Sc} {d : Nat} : wv_C wm_fx sc (d + 1 + 1) 71 wd_c71b := by
  refine wv_C_mono wd_addGate ?_
  rintro as T N I L R q ⟨C, A, B, ts, n, nm, s, gs, u, v, rfl, hV, hl, h⟩
  have hV0 := hV
  obtain ⟨v1, v2, v3, v4, v5, v6, v7, ⟨p1, p2, p3, p4, p5⟩, v9⟩ := hV
  have p3 : I C 10 = Int32.ofNat gs.length := p3
  have p2 : I C 9 = Int32.ofNat B := p2.1
  obtain ⟨a1, a2⟩ := ds_V_add (u := u) (v := v) hV0 hl
  refine ⟨C, u, v, rfl, v2, v4, by rw [p3, wi_on (by omega)]; omega, by rw [p3, wi_on (by omega)]; omega, ?_⟩
  have e := wo_res (a := I C 8) (b := I C 9) (c := I C 10) (by rw [p1, wi_on (by omega)]; omega) (by rw [p1, wi_on (by omega)]; omega) (by rw [p2, wi_on (by omega)]; omega) (by rw [p2, wi_on (by omega)]; omega) (by rw [p3, wi_on (by omega)]; omega) (by rw [p3, wi_on (by omega)]; omega)
  rw [e, p3]
  have h2 := h _ a1 a2
  have e2 : I C 8 + I C 9 + (Int32.ofNat gs.length + Int32.ofInt 1) = Int32.ofNat (1 + A + B + gs.length) := by
    rw [p1, p2, wq_4s, wi_ona, wi_ona]
    congr 1
    omega
  rw [← e2] at h2
  exact h2
