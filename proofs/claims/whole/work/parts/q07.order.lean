/-! ===== sequences in the order of the text, while a property is read ===== -/
theorem fl_60 {S : rn_N} {w : Nat} {h : Nat → Bool} (hq : rn_q S) : fQ (rn_d (rn_mk S (60, 0, 0, 0, 0) w h)) (rn_n S) = [] := by
  have hq2 : rn_q (rn_mk S (60, 0, 0, 0, 0) w h) := rn_q_mk hq (rn_q_row (Or.inl rfl))
  rw [fQ_eq (fq_w_q hq2) (Nat.lt_succ_self (rn_n S)), rn_mk_a.1]
  rfl
theorem fl_k60 {S : rn_N} {x : Nat} (hq : rn_q S) (hx : x < rn_n S) (h : rn_k S x = 60) : fQ (rn_d S) x = [] := by
  have h : nq_k (rn_d S x) = 60 := h
  rw [fQ_eq (fq_w_q hq) hx, h]
  rfl
theorem ap_fl_g {S : rn_N} {k l : Nat} {fr : List ap_F} {sq : List Nat} (h : ap_fl S fr none sq) (hk : k = 32 ∨ k = 33) : ap_fl S ((k, l, 0) :: fr) none (sq ++ [l]) := by
  refine ⟨?_, fun z z1 z2 => List.mem_append_left _ (h.2 z z1 z2)⟩
  have h1 : fF (rn_d S) fr ++ [] = sq := h.1
  show (fF (rn_d S) fr ++ (if k = 32 ∨ k = 33 then [l] else if k = 15 then fQ (rn_d S) l else [])) ++ [] = sq ++ [l]
  rw [if_pos hk, List.append_nil, ← h1, List.append_nil]
theorem ap_fl_n {S : rn_N} {k l : Nat} {fr : List ap_F} {sq : List Nat} (hq : rn_q S) (hf : ap_fr S fr) (h : ap_fl S fr none sq) (hk : k = 61 ∨ k = 11) (hl : l < rn_n S ∧ nq_row (rn_k S l) ∧ rn_w S l ≤ 40) : ap_fl (rn_m S (k, l, 0, 0, 0)) fr (some (rn_n S)) (sq ++ [l]) := by
  have h1 : fF (rn_d S) fr ++ [] = sq := h.1
  refine ap_fl_m (l := [l]) hq ⟨by show k < 100; omega, fun _ => ⟨fun w => ?_, fun w => ?_, fun _ => hl, fun w => ?_, fun w => ?_, fun w => ?_⟩⟩ hf ?_ (fun z z1 z2 => List.mem_append_left _ (h.2 z z1 z2)) (fun _ => List.mem_append_right _ List.mem_cons_self) ?_
  · have w : k = 10 ∨ k = 12 ∨ k = 13 ∨ k = 15 := w
    omega
  · have w : (31 ≤ k ∧ k ≤ 33) ∨ k = 15 := w
    omega
  · have w : k = 31 ∨ k = 14 := w
    omega
  · have w : k = 13 ∨ k = 14 := w
    omega
  · have w : k = 12 := w
    omega
  · rw [← h1, List.append_nil]
  · show [l] = (if k = 61 ∨ k = 32 ∨ k = 33 ∨ k = 11 then [l] else []) ++ ((if k = 10 ∨ k = 12 ∨ k = 13 ∨ k = 15 then _ else []) ++ (if (31 ≤ k ∧ k ≤ 33) ∨ k = 15 then _ else []))
    rw [if_pos (by omega), if_neg (by omega), if_neg (by omega)]
    rfl
def fl_ok (ts : List wt_t) (n o : Nat) (S : rn_N) (s : wt_q) (fr : List ap_F) : Prop := rn_q (sq_fin ts n o S s).1 ∧ ap_fr (sq_fin ts n o S s).1 fr ∧ ((sq_fin ts n o S s).2.2.1.headD 0 < rn_n (sq_fin ts n o S s).1 ∧ nq_row (rn_k (sq_fin ts n o S s).1 ((sq_fin ts n o S s).2.2.1.headD 0)) ∧ rn_w (sq_fin ts n o S s).1 ((sq_fin ts n o S s).2.2.1.headD 0) ≤ 40)
theorem ap_fl_b {ts : List wt_t} {n : Nat} {S : rn_N} {fr : List ap_F} {o : Nat} {s : wt_q} {sq : List Nat} (hq : rn_q S) (hf : ap_fr S fr) (hq1 : tk_now ts s = (Int8.ofInt 13).toInt32 → fl_ok ts n o S s fr) (hq2 : tk_now ts s = (Int8.ofInt 27).toInt32 → tk_now ts (tk_adv ts s) = (Int8.ofInt 13).toInt32 → fl_ok ts n o S (tk_adv ts s) fr) (h : ap_fl S fr none sq) : ap_fl (ap_b ts n S fr o s sq).1 (ap_b ts n S fr o s sq).2.1 (ap_b ts n S fr o s sq).2.2.1 (ap_b ts n S fr o s sq).2.2.2.2.2.1 := by
  unfold ap_b
  by_cases c1 : tk_now ts s = (Int8.ofInt 26).toInt32
  · rw [if_pos c1]
    exact (ap_fl_fr (by decide)).mpr h
  rw [if_neg c1]
  by_cases c2 : tk_now ts s = (Int8.ofInt 28).toInt32
  · rw [if_pos c2]
    refine (ap_fl_fr ?_).mpr h
    exact ⟨by show ¬ (12 = 32 ∨ 12 = 33); omega, by show ¬ 12 = 15; omega⟩
  rw [if_neg c2]
  by_cases c3 : tk_now ts s = (Int8.ofInt 27).toInt32
  · rw [if_pos c3]
    unfold ap_nv
    by_cases c4 : tk_now ts (tk_adv ts s) = (Int8.ofInt 13).toInt32
    · rw [if_pos c4]
      obtain ⟨a1, a2, a3⟩ := hq2 c3 c4
      exact ap_fl_n a1 a2 (ap_fl_rx hq hf rx_fin h) (Or.inr rfl) a3
    · rw [if_neg c4]
      exact h
  rw [if_neg c3]
  by_cases c4 : tk_now ts s = (Int8.ofInt 13).toInt32
  · rw [if_pos c4]
    obtain ⟨a1, a2, a3⟩ := hq1 c4
    have g := ap_fl_rx hq hf (rx_fin (ts := ts) (n := n) (z := o) (s := s)) h
    generalize sq_fin ts n o S s = r at g a1 a2 a3 ⊢
    unfold ap_sq
    by_cases c5 : tk_now ts r.2.2.2.2.1 = (Int8.ofInt 18).toInt32
    · rw [if_pos c5]
      exact ap_fl_g g (Or.inl rfl)
    rw [if_neg c5]
    by_cases c6 : tk_now ts r.2.2.2.2.1 = (Int8.ofInt 19).toInt32
    · rw [if_pos c6]
      exact ap_fl_g g (Or.inr rfl)
    rw [if_neg c6]
    exact ap_fl_n a1 a2 g (Or.inl rfl) a3
  rw [if_neg c4]
  by_cases c5 : tk_now ts s = (Int8.ofInt 15).toInt32
  · rw [if_pos c5]
    by_cases c6 : o < 20
    · rw [if_pos c6]
      exact (ap_fl_fr (by decide)).mpr h
    · rw [if_neg c6]
      exact h
  rw [if_neg c5]
  have g := ap_fl_rx hq hf (rx_c (rx_id S) (ts := ts) (n := n) (s := s)) h
  unfold ap_cd
  by_cases c6 : tk_now ts (cd_all ts n s).2.2 = (Int8.ofInt 17).toInt32
  · rw [if_pos c6]
    refine (ap_fl_fr ?_).mpr g
    exact ⟨by show ¬ (31 = 32 ∨ 31 = 33); omega, by show ¬ 31 = 15; omega⟩
  · rw [if_neg c6]
    refine ⟨?_, g.2⟩
    show fF (rn_d (sm_c ts n S s)) fr ++ fQ (rn_d (sm_c ts n S s)) (rn_n S) = sq
    unfold sm_c
    rw [fl_60 hq]
    exact g.1
theorem ap_fl_e {ts : List wt_t} {n : Nat} {S : rn_N} {x o : Nat} {s : wt_q} {sq : List Nat} (hq : rn_q S) (hx : x < rn_n S ∧ fl_prop (rn_k S x)) : ∀ {fr : List ap_F}, ap_fr S fr → ap_fl S fr (some x) sq → ap_fl (ap_e ts n S x o s sq fr).1 (ap_e ts n S x o s sq fr).2.1 (ap_e ts n S x o s sq fr).2.2.1 (ap_e ts n S x o s sq fr).2.2.2.2.2.1
  | [], _, h => h
  | f :: fr, hf, h => by
    have hf1 := hf f List.mem_cons_self
    have hf2 : ap_fr S fr := fun g hg => hf g (List.mem_cons_of_mem _ hg)
    have hE : (fF (rn_d S) fr ++ (if f.1 = 32 ∨ f.1 = 33 then [f.2.1] else if f.1 = 15 then fQ (rn_d S) f.2.1 else [])) ++ fQ (rn_d S) x = sq := h.1
    show ap_fl (ap_e1 ts n S x o s sq f fr).1 (ap_e1 ts n S x o s sq f fr).2.1 (ap_e1 ts n S x o s sq f fr).2.2.1 (ap_e1 ts n S x o s sq f fr).2.2.2.2.2.1
    unfold ap_e1
    obtain ⟨h9, hk⟩ := hf1
    by_cases c1 : f.1 = 15
    · rw [if_pos c1]
      have hl : f.2.1 < rn_n S ∧ fl_prop (rn_k S f.2.1) := by
        rcases hk with e | e | e | ⟨e, _⟩ | ⟨e, _⟩ | ⟨_, e, e2⟩
        all_goals first | omega | exact ⟨e, e2⟩
      rw [if_neg (by omega), if_pos c1] at hE
      refine ap_fl_m (l := fQ (rn_d S) f.2.1 ++ fQ (rn_d S) x) hq ⟨by show 15 < 100; omega, fun _ => ⟨fun _ => hl, fun _ => hx, fun w => ?_, fun w => ?_, fun w => ?_, fun w => ?_⟩⟩ hf2 (by rw [← hE, List.append_assoc]) h.2 (fun w => ?_) ?_
      · have w : 15 = 61 ∨ 15 = 32 ∨ 15 = 33 ∨ 15 = 11 := w
        omega
      · have w : 15 = 31 ∨ 15 = 14 := w
        omega
      · have w : 15 = 13 ∨ 15 = 14 := w
        omega
      · have w : 15 = 12 := w
        omega
      · have w : 15 = 61 ∨ 15 = 32 ∨ 15 = 33 ∨ 15 = 11 := w
        omega
      · rfl
    rw [if_neg c1] at hE ⊢
    by_cases c2 : ¬ f.1 = 29
    · rw [if_pos c2]
      have hk2 : f.1 = 10 ∨ f.1 = 12 ∨ f.1 = 31 ∨ f.1 = 32 ∨ f.1 = 33 := by
        rcases hk with e | e | e | ⟨e, _⟩ | ⟨e, _⟩ | ⟨e, _⟩
        all_goals omega
      have h31 : f.1 = 31 → f.2.1 < rn_n S ∧ rn_k S f.2.1 = 60 := fun w => by
        rcases hk with e | e | e | ⟨_, e⟩ | ⟨e, _⟩ | ⟨e, _⟩
        all_goals first | omega | exact e
      have h32 : f.1 = 32 ∨ f.1 = 33 → f.2.1 < rn_n S ∧ nq_row (rn_k S f.2.1) ∧ rn_w S f.2.1 ≤ 40 := fun w => by
        rcases hk with e | e | e | ⟨e, _⟩ | ⟨_, e⟩ | ⟨e, _⟩
        all_goals first | omega | exact e
      refine ap_fl_m (l := (if f.1 = 32 ∨ f.1 = 33 then [f.2.1] else []) ++ fQ (rn_d S) x) hq ⟨by show f.1 < 100; omega, fun _ => ⟨fun w => ?_, fun _ => hx, fun w => ?_, fun w => ?_, fun w => ?_, fun w => ?_⟩⟩ hf2 (by rw [← hE, List.append_assoc]) h.2 (fun w => ?_) ?_
      · have w : f.1 = 10 ∨ f.1 = 12 ∨ f.1 = 13 ∨ f.1 = 15 := w
        show (if f.1 = 10 ∨ f.1 = 12 then x else f.2.1) < rn_n S ∧ fl_prop (rn_k S (if f.1 = 10 ∨ f.1 = 12 then x else f.2.1))
        rw [if_pos (by omega)]
        exact hx
      · have w : f.1 = 61 ∨ f.1 = 32 ∨ f.1 = 33 ∨ f.1 = 11 := w
        show (if f.1 = 10 ∨ f.1 = 12 then x else f.2.1) < rn_n S ∧ nq_row (rn_k S (if f.1 = 10 ∨ f.1 = 12 then x else f.2.1)) ∧ rn_w S (if f.1 = 10 ∨ f.1 = 12 then x else f.2.1) ≤ 40
        rw [if_neg (by omega)]
        exact h32 (by omega)
      · have w : f.1 = 31 ∨ f.1 = 14 := w
        show (if f.1 = 10 ∨ f.1 = 12 then x else f.2.1) < rn_n S ∧ rn_k S (if f.1 = 10 ∨ f.1 = 12 then x else f.2.1) = 60
        rw [if_neg (by omega)]
        exact h31 (by omega)
      · have w : f.1 = 13 ∨ f.1 = 14 := w
        omega
      · exact h9
      · have w : f.1 = 61 ∨ f.1 = 32 ∨ f.1 = 33 ∨ f.1 = 11 := w
        show (if f.1 = 10 ∨ f.1 = 12 then x else f.2.1) ∈ sq
        rw [if_neg (by omega), ← hE, if_pos (by omega)]
        exact List.mem_append_left _ (List.mem_append_right _ List.mem_cons_self)
      · show _ = (if f.1 = 61 ∨ f.1 = 32 ∨ f.1 = 33 ∨ f.1 = 11 then [if f.1 = 10 ∨ f.1 = 12 then x else f.2.1] else []) ++ ((if f.1 = 10 ∨ f.1 = 12 ∨ f.1 = 13 ∨ f.1 = 15 then fQ (rn_d S) (if f.1 = 10 ∨ f.1 = 12 then x else f.2.1) else []) ++ (if (31 ≤ f.1 ∧ f.1 ≤ 33) ∨ f.1 = 15 then fQ (rn_d S) x else []))
        rcases hk2 with e | e | e | e | e
        all_goals rw [e]
        all_goals simp
    rw [if_neg c2]
    have c3 : f.1 = 29 := Decidable.not_not.mp c2
    have h2 : ap_fl S fr (some x) sq := (ap_fl_fr (by omega)).mp h
    have hE2 : fF (rn_d S) fr ++ fQ (rn_d S) x = sq := h2.1
    by_cases c4 : tk_now ts s = (Int8.ofInt 31).toInt32
    · rw [if_pos c4]
      refine ⟨?_, h2.2⟩
      show (fF (rn_d S) fr ++ fQ (rn_d S) x) ++ [] = sq
      rw [List.append_nil]
      exact hE2
    rw [if_neg c4]
    have g := ap_fl_rx1 hq hf2 hx.1 (rx_c (rx_id S) (ts := ts) (n := n) (s := tk_adv ts s)) h2
    have gE : fF (rn_d (sm_c ts n S (tk_adv ts s))) fr ++ fQ (rn_d (sm_c ts n S (tk_adv ts s))) x = sq := g.1
    have gq : rn_q (sm_c ts n S (tk_adv ts s)) := rn_q_c hq
    have gE2 : rn_E S (sm_c ts n S (tk_adv ts s)) := ⟨Nat.le_succ _, fun z hz => ⟨rn_mk_p hz, (rn_mk_d hz).1, (rn_mk_d hz).2.2.1⟩⟩
    have gf := ap_fr_E gE2 hf2
    have gx := rn_E_k gE2 hx.1
    have g60 : rn_n S < rn_n (sm_c ts n S (tk_adv ts s)) ∧ rn_k (sm_c ts n S (tk_adv ts s)) (rn_n S) = 60 := ⟨Nat.lt_succ_self _, rn_mk_k⟩
    have gx2 : x < rn_n (sm_c ts n S (tk_adv ts s)) := Nat.lt_succ_of_lt hx.1
    by_cases c5 : tk_now ts s = (Int8.ofInt 29).toInt32
    · rw [if_pos c5]
      unfold ap_u
      refine ap_fl_m (l := fQ (rn_d (sm_c ts n S (tk_adv ts s))) x) gq ⟨by show 13 < 100; omega, fun _ => ⟨fun _ => ⟨gx2, by show fl_prop (rn_k (sm_c ts n S (tk_adv ts s)) x); rw [gx.1]; exact hx.2⟩, fun w => ?_, fun w => ?_, fun w => ?_, fun _ => g60, fun w => ?_⟩⟩ gf gE g.2 (fun w => ?_) ?_
      · have w : (31 ≤ 13 ∧ 13 ≤ 33) ∨ 13 = 15 := w
        omega
      · have w : 13 = 61 ∨ 13 = 32 ∨ 13 = 33 ∨ 13 = 11 := w
        omega
      · have w : 13 = 31 ∨ 13 = 14 := w
        omega
      · have w : 13 = 12 := w
        omega
      · have w : 13 = 61 ∨ 13 = 32 ∨ 13 = 33 ∨ 13 = 11 := w
        omega
      · show _ = [] ++ (fQ (rn_d (sm_c ts n S (tk_adv ts s))) x ++ [])
        rw [List.append_nil]
        rfl
    rw [if_neg c5]
    by_cases c6 : tk_now ts s = (Int8.ofInt 30).toInt32 ∧ rn_k S x = 60
    · rw [if_pos c6]
      unfold ap_u
      have e6 : fQ (rn_d (sm_c ts n S (tk_adv ts s))) x = [] := fl_k60 gq gx2 (by rw [gx.1]; exact c6.2)
      rw [e6] at gE
      refine ap_fl_m (l := []) gq ⟨by show 14 < 100; omega, fun _ => ⟨fun w => ?_, fun w => ?_, fun w => ?_, fun _ => ⟨gx2, by show rn_k (sm_c ts n S (tk_adv ts s)) x = 60; rw [gx.1]; exact c6.2⟩, fun _ => g60, fun w => ?_⟩⟩ gf gE g.2 (fun w => ?_) rfl
      · have w : 14 = 10 ∨ 14 = 12 ∨ 14 = 13 ∨ 14 = 15 := w
        omega
      · have w : (31 ≤ 14 ∧ 14 ≤ 33) ∨ 14 = 15 := w
        omega
      · have w : 14 = 61 ∨ 14 = 32 ∨ 14 = 33 ∨ 14 = 11 := w
        omega
      · have w : 14 = 12 := w
        omega
      · have w : 14 = 61 ∨ 14 = 32 ∨ 14 = 33 ∨ 14 = 11 := w
        omega
    rw [if_neg c6]
    exact h2
