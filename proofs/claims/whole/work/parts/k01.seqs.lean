/-! ===== sequences of a property that was read ===== -/
/-- from S0 on only nodes of rows were made -/
def rx (S0 S : rn_N) : Prop := rn_n S0 ≤ rn_n S ∧ (∀ z, z < rn_n S0 → rn_d S z = rn_d S0 z ∧ rn_w S z = rn_w S0 z) ∧ ∀ z, rn_n S0 ≤ z → z < rn_n S → nq_row (rn_k S z)
theorem rx_id (S : rn_N) : rx S S := ⟨Nat.le_refl _, fun _ _ => ⟨rfl, rfl⟩, fun z h1 h2 => by omega⟩
theorem rx_mk {S0 S : rn_N} {x : nq_N} {w : Nat} {h : Nat → Bool} (g : rx S0 S) (hr : nq_row (nq_k x)) : rx S0 (rn_mk S x w h) := by
  obtain ⟨g1, g2, g3⟩ := g
  refine ⟨Nat.le_succ_of_le g1, fun z hz => ?_, fun z h1 h2 => ?_⟩
  · have hz2 : z < rn_n S := by omega
    rw [(rn_mk_d hz2).1, (rn_mk_d hz2).2.1]
    exact g2 z hz
  · have h2 : z < rn_n S + 1 := h2
    by_cases e : z = rn_n S
    · subst e
      rw [rn_mk_k]
      exact hr
    · rw [rn_mk_kk (by omega)]
      exact g3 z h1 (by omega)
theorem rx_rj {S0 : rn_N} {rank : Nat} : ∀ {js xs : List Nat} {S : rn_N}, rx S0 S → (∀ r, r ∈ js → r ≤ 4) → rx S0 (rj rank js S xs).2.1 ∧ ∀ r, r ∈ (rj rank js S xs).1 → r ≤ 4
  | [], [], S, h, hj => ⟨h, hj⟩
  | [], [y], S, h, hj => ⟨h, hj⟩
  | [], y :: x :: l, S, h, hj => ⟨h, hj⟩
  | r :: js, [], S, h, hj => ⟨h, hj⟩
  | r :: js, [y], S, h, hj => ⟨h, hj⟩
  | r :: js, y :: x :: l, S, h, hj => by
    by_cases c : 1 ≤ r ∧ rank ≤ r
    · rw [rj_at c]
      have h4 := hj r List.mem_cons_self
      exact rx_rj (S := rj_1 S r y x) (xs := rn_n S :: l) (rx_mk h (by show nq_row (22 + r); unfold nq_row; omega)) (fun q hq => hj q (List.mem_cons_of_mem _ hq))
    · rw [rj_no c]
      exact ⟨h, hj⟩
theorem rx_kd {ts : List wt_t} {s : wt_q} : nq_row (sm_kd ts s) := by
  unfold sm_kd nq_row
  repeat' split
  all_goals omega
theorem rx_rp {S0 : rn_N} {ts : List wt_t} {n x : Nat} {b : Bool} {S : rn_N} {s : wt_q} (h : rx S0 S) : rx S0 (sm_rp ts n b S x s).1 := by
  by_cases c : rc_is ts b s
  · by_cases c2 : rc_bad ts s
    · rw [sm_rp_2 c c2]
      exact h
    · rw [sm_rp_3 c c2]
      exact rx_mk h rx_kd
  · rw [sm_rp_1 c]
    exact h
theorem rx_c {S0 : rn_N} {ts : List wt_t} {n : Nat} {S : rn_N} {s : wt_q} (h : rx S0 S) : rx S0 (sm_c ts n S s) := rx_mk h (Or.inl rfl)
theorem rx_1 {S0 : rn_N} {ts : List wt_t} {n b : Nat} {S : rn_N} {js xs : List Nat} {o : Nat} {s : wt_q} {it : Bool} (h : rx S0 S) (hj : ∀ r, r ∈ js → r ≤ 4) : rx S0 (sm_1 ts n b (S, js, xs, o, s, it)).1 ∧ ∀ r, r ∈ (sm_1 ts n b (S, js, xs, o, s, it)).2.1 → r ≤ 4 := by
  cases it with
  | true =>
    show rx S0 (sm_it ts n S js xs o s).1 ∧ ∀ r, r ∈ (sm_it ts n S js xs o s).2.1 → r ≤ 4
    unfold sm_it
    split
    · split
      · refine ⟨h, fun r hr => ?_⟩
        rcases List.mem_cons.mp hr with w | w
        · omega
        · exact hj r w
      · exact ⟨h, hj⟩
    · exact ⟨rx_rp (rx_c h), hj⟩
  | false =>
    show rx S0 (sm_en ts n b S js xs o s).1 ∧ ∀ r, r ∈ (sm_en ts n b S js xs o s).2.1 → r ≤ 4
    unfold sm_en
    split
    · refine ⟨(rx_rj h hj).1, fun r hr => ?_⟩
      rcases List.mem_cons.mp hr with w | w
      · rw [w]
        exact rk_of_4 _
      · exact (rx_rj h hj).2 r w
    · split
      · unfold sm_cl
        split
        · exact ⟨(rx_rj h hj).1, fun r hr => absurd hr (by simp)⟩
        · exact ⟨rx_rp (rx_rj h hj).1, fun r hr => (rx_rj h hj).2 r (List.mem_of_mem_tail hr)⟩
      · exact ⟨h, hj⟩
theorem rx_run {S0 : rn_N} {ts : List wt_t} {n b : Nat} : ∀ (f : Nat) (x : sm_S), rx S0 x.1 → (∀ r, r ∈ x.2.1 → r ≤ 4) → rx S0 (sm_run ts n b f x).1 := by
  intro f
  induction f with
  | zero => exact fun x h _ => h
  | succ f ih =>
    intro x h hj
    by_cases hg : sm_go x = true
    · rw [sm_run_at hg]
      obtain ⟨S, js, xs, o, s, it⟩ := x
      obtain ⟨a, b⟩ := rx_1 (ts := ts) (n := n) (b := b) (xs := xs) (o := o) (s := s) (it := it) h hj
      exact ih _ a b
    · rw [sm_run_no hg]
      exact h
theorem rx_fin {ts : List wt_t} {n z : Nat} {S : rn_N} {s : wt_q} : rx S (sq_fin ts n z S s).1 := by
  unfold sq_fin sq_0
  split
  · exact rx_run _ _ (rx_id S) (fun r hr => by rw [List.mem_singleton.mp hr]; decide)
  · exact rx_run _ _ (rx_id S) (fun r hr => by rw [List.mem_singleton.mp hr]; decide)
theorem fw_s_c {S S2 : rn_N} {z : Nat} (h : rn_d S2 z = rn_d S z) : fw_s S2 z = fw_s S z := by
  unfold fw_s rn_k
  rw [h]
theorem fw_n_c {S S2 : rn_N} : ∀ {k : Nat}, (∀ z, z < k → rn_d S2 z = rn_d S z) → fw_n S2 k = fw_n S k
  | 0, _ => rfl
  | k + 1, h => by
    show fw_n S2 k + (if fw_s S2 k = true then 1 else 0) = fw_n S k + (if fw_s S k = true then 1 else 0)
    rw [fw_n_c (k := k) (fun z hz => h z (by omega)), fw_s_c (h k (by omega))]
theorem fw_row {S : rn_N} {z : Nat} (h : nq_row (rn_k S z)) : ¬ fw_s S z = true := fun g => by
  have g := of_decide_eq_true g
  unfold nq_row at h
  omega
theorem fw_n_r {S : rn_N} {a : Nat} : ∀ {d : Nat}, (∀ z, a ≤ z → z < a + d → nq_row (rn_k S z)) → fw_n S (a + d) = fw_n S a
  | 0, _ => rfl
  | d + 1, h => by
    show fw_n S (a + d) + (if fw_s S (a + d) = true then 1 else 0) = fw_n S a
    rw [fw_n_r (d := d) (fun z h1 h2 => h z h1 (by omega)), if_neg (fw_row (h (a + d) (by omega) (by omega)))]
    rfl
theorem fw_rx {S0 S : rn_N} (h : rx S0 S) : fw_n S (rn_n S) = fw_n S0 (rn_n S0) := by
  obtain ⟨h1, h2, h3⟩ := h
  have e := fw_n_r (S := S) (a := rn_n S0) (d := rn_n S - rn_n S0) (fun z z1 z2 => h3 z z1 (by omega))
  rw [show rn_n S0 + (rn_n S - rn_n S0) = rn_n S by omega] at e
  rw [e]
  exact fw_n_c (fun z hz => (h2 z hz).1)
/-- sequences: those that nodes have, and those that wait in frames -/
def ap_nf : List ap_F → Nat
  | [] => 0
  | f :: fr => (if f.1 = 32 ∨ f.1 = 33 then 1 else 0) + ap_nf fr
def ap_kf (fr : List ap_F) : Prop := ∀ f, f ∈ fr → f.1 = 10 ∨ f.1 = 12 ∨ f.1 = 29 ∨ f.1 = 31 ∨ f.1 = 32 ∨ f.1 = 33 ∨ f.1 = 15
def ap_sm (S : rn_N) (fr : List ap_F) (y : Nat) : Prop := (∃ z, z < rn_n S ∧ fw_s S z = true ∧ nq_l (rn_d S z) = y) ∨ ∃ f, f ∈ fr ∧ (f.1 = 32 ∨ f.1 = 33) ∧ f.2.1 = y
def ap_sw (S : rn_N) (fr : List ap_F) (sq : List Nat) : Prop := ap_kf fr ∧ fw_n S (rn_n S) + ap_nf fr = sq.length ∧ ∀ y, y ∈ sq → ap_sm S fr y
theorem ap_sm_x {S S2 : rn_N} {fr : List ap_F} {y : Nat} (h : ap_sm S fr y) (hn : rn_n S ≤ rn_n S2) (hd : ∀ z, z < rn_n S → rn_d S2 z = rn_d S z) : ap_sm S2 fr y := by
  rcases h with ⟨z, z1, z2, z3⟩ | h
  · exact Or.inl ⟨z, by omega, by rw [fw_s_c (hd z z1)]; exact z2, by rw [hd z z1]; exact z3⟩
  · exact Or.inr h
theorem ap_sm_f {S : rn_N} {f : ap_F} {fr : List ap_F} {y : Nat} (h : ap_sm S fr y) : ap_sm S (f :: fr) y := by
  rcases h with h | ⟨g, g1, g2⟩
  · exact Or.inl h
  · exact Or.inr ⟨g, List.mem_cons_of_mem _ g1, g2⟩
theorem ap_kf_1 {f : ap_F} {fr : List ap_F} (h : f.1 = 10 ∨ f.1 = 12 ∨ f.1 = 29 ∨ f.1 = 31 ∨ f.1 = 32 ∨ f.1 = 33 ∨ f.1 = 15) (g : ap_kf fr) : ap_kf (f :: fr) := fun x hx => by
  rcases List.mem_cons.mp hx with e | e
  · rw [e]
    exact h
  · exact g x e
theorem ap_sw_rx {S S2 : rn_N} {fr : List ap_F} {sq : List Nat} (h : ap_sw S fr sq) (g : rx S S2) : ap_sw S2 fr sq := ⟨h.1, by rw [fw_rx g]; exact h.2.1, fun y hy => ap_sm_x (h.2.2 y hy) g.1 (fun z hz => (g.2.1 z hz).1)⟩
theorem ap_sw_fr {S : rn_N} {f : ap_F} {fr : List ap_F} {sq : List Nat} (h : ap_sw S fr sq) (hk : f.1 = 10 ∨ f.1 = 12 ∨ f.1 = 29 ∨ f.1 = 31 ∨ f.1 = 15) : ap_sw S (f :: fr) sq := by
  refine ⟨ap_kf_1 (by omega) h.1, ?_, fun y hy => ap_sm_f (h.2.2 y hy)⟩
  show fw_n S (rn_n S) + ((if f.1 = 32 ∨ f.1 = 33 then 1 else 0) + ap_nf fr) = sq.length
  rw [if_neg (by omega), Nat.zero_add]
  exact h.2.1
theorem fw_n_m {S : rn_N} {x : nq_N} : fw_n (rn_m S x) (rn_n (rn_m S x)) = fw_n S (rn_n S) + (if nq_k x = 61 ∨ nq_k x = 32 ∨ nq_k x = 33 ∨ nq_k x = 11 then 1 else 0) := by
  show fw_n (rn_m S x) (rn_n S) + (if fw_s (rn_m S x) (rn_n S) = true then 1 else 0) = _
  have e0 : fw_n (rn_m S x) (rn_n S) = fw_n S (rn_n S) := fw_n_c (fun z hz => (rn_mk_d hz).1)
  rw [e0]
  have e : fw_s (rn_m S x) (rn_n S) = decide (nq_k x = 61 ∨ nq_k x = 32 ∨ nq_k x = 33 ∨ nq_k x = 11) := by
    unfold fw_s rn_m
    rw [rn_mk_k]
  rw [e]
  by_cases c : nq_k x = 61 ∨ nq_k x = 32 ∨ nq_k x = 33 ∨ nq_k x = 11
  · rw [decide_eq_true c, if_pos rfl, if_pos c]
  · rw [decide_eq_false c, if_neg (by decide), if_neg c]
theorem ap_sw_m {S : rn_N} {x : nq_N} {fr : List ap_F} {sq : List Nat} (h : ap_sw S fr sq) (hk : ¬ (nq_k x = 61 ∨ nq_k x = 32 ∨ nq_k x = 33 ∨ nq_k x = 11)) : ap_sw (rn_m S x) fr sq := by
  refine ⟨h.1, ?_, fun y hy => ap_sm_x (h.2.2 y hy) (Nat.le_succ _) (fun z hz => (rn_mk_d hz).1)⟩
  rw [fw_n_m, if_neg hk]
  exact h.2.1
theorem ap_new {S : rn_N} {x : nq_N} {fr : List ap_F} (hk : nq_k x = 61 ∨ nq_k x = 32 ∨ nq_k x = 33 ∨ nq_k x = 11) : ap_sm (rn_m S x) fr (nq_l x) := by
  refine Or.inl ⟨rn_n S, Nat.lt_succ_self _, ?_, ?_⟩
  · unfold fw_s rn_m
    rw [rn_mk_k]
    exact decide_eq_true hk
  · unfold rn_m
    rw [rn_mk_a.1]
/-- a node with a new sequence -/
theorem ap_sw_n {S : rn_N} {x : nq_N} {fr : List ap_F} {sq : List Nat} (h : ap_sw S fr sq) (hk : nq_k x = 61 ∨ nq_k x = 32 ∨ nq_k x = 33 ∨ nq_k x = 11) : ap_sw (rn_m S x) fr (sq ++ [nq_l x]) := by
  refine ⟨h.1, ?_, fun y hy => ?_⟩
  · rw [fw_n_m, if_pos hk, List.length_append]
    have := h.2.1
    show fw_n S (rn_n S) + 1 + ap_nf fr = sq.length + 1
    omega
  · rcases List.mem_append.mp hy with e | e
    · exact ap_sm_x (h.2.2 y e) (Nat.le_succ _) (fun z hz => (rn_mk_d hz).1)
    · rw [List.mem_singleton.mp e]
      exact ap_new hk
/-- a frame with a new sequence -/
theorem ap_sw_g {S : rn_N} {k l : Nat} {fr : List ap_F} {sq : List Nat} (h : ap_sw S fr sq) (hk : k = 32 ∨ k = 33) : ap_sw S ((k, l, 0) :: fr) (sq ++ [l]) := by
  refine ⟨ap_kf_1 (by show k = 10 ∨ k = 12 ∨ k = 29 ∨ k = 31 ∨ k = 32 ∨ k = 33 ∨ k = 15; omega) h.1, ?_, fun y hy => ?_⟩
  · show fw_n S (rn_n S) + ((if k = 32 ∨ k = 33 then 1 else 0) + ap_nf fr) = (sq ++ [l]).length
    rw [if_pos hk, List.length_append]
    have := h.2.1
    show _ = sq.length + 1
    omega
  · rcases List.mem_append.mp hy with e | e
    · exact ap_sm_f (h.2.2 y e)
    · exact Or.inr ⟨_, List.mem_cons_self, hk, (List.mem_singleton.mp e).symm⟩
/-- a frame becomes a node -/
theorem ap_sw_p {S : rn_N} {f : ap_F} {fr : List ap_F} {x a : Nat} {sq : List Nat} (h : ap_sw S (f :: fr) sq) : ap_sw (rn_m S (f.1, if f.1 = 10 ∨ f.1 = 12 then x else f.2.1, x, a, 0)) fr sq := by
  obtain ⟨h1, h2, h3⟩ := h
  have hf := h1 f List.mem_cons_self
  have h2 : fw_n S (rn_n S) + ((if f.1 = 32 ∨ f.1 = 33 then 1 else 0) + ap_nf fr) = sq.length := h2
  refine ⟨fun g hg => h1 g (List.mem_cons_of_mem _ hg), ?_, fun y hy => ?_⟩
  · rw [fw_n_m]
    show fw_n S (rn_n S) + (if f.1 = 61 ∨ f.1 = 32 ∨ f.1 = 33 ∨ f.1 = 11 then 1 else 0) + ap_nf fr = sq.length
    by_cases c : f.1 = 32 ∨ f.1 = 33
    · rw [if_pos c] at h2
      rw [if_pos (by omega)]
      omega
    · rw [if_neg c] at h2
      rw [if_neg (by omega)]
      omega
  · rcases h3 y hy with ⟨z, z1, z2, z3⟩ | ⟨g, g1, g2, g3⟩
    · exact ap_sm_x (fr := fr) (Or.inl ⟨z, z1, z2, z3⟩) (Nat.le_succ _) (fun z hz => (rn_mk_d hz).1)
    · rcases List.mem_cons.mp g1 with e | e
      · subst e
        have en := ap_new (S := S) (x := (g.1, if g.1 = 10 ∨ g.1 = 12 then x else g.2.1, x, a, 0)) (fr := fr) (by show g.1 = 61 ∨ g.1 = 32 ∨ g.1 = 33 ∨ g.1 = 11; omega)
        have el : nq_l (g.1, if g.1 = 10 ∨ g.1 = 12 then x else g.2.1, x, a, 0) = y := by
          show (if g.1 = 10 ∨ g.1 = 12 then x else g.2.1) = y
          rw [if_neg (by omega)]
          exact g3
        rw [el] at en
        exact en
      · exact Or.inr ⟨g, e, g2, g3⟩
theorem ap_sw_t {S : rn_N} {f : ap_F} {fr : List ap_F} {sq : List Nat} (h : ap_sw S (f :: fr) sq) (hk : ¬ (f.1 = 32 ∨ f.1 = 33)) : ap_sw S fr sq := by
  obtain ⟨h1, h2, h3⟩ := h
  have h2 : fw_n S (rn_n S) + ((if f.1 = 32 ∨ f.1 = 33 then 1 else 0) + ap_nf fr) = sq.length := h2
  rw [if_neg hk, Nat.zero_add] at h2
  refine ⟨fun g hg => h1 g (List.mem_cons_of_mem _ hg), h2, fun y hy => ?_⟩
  rcases h3 y hy with e | ⟨g, g1, g2, g3⟩
  · exact Or.inl e
  · rcases List.mem_cons.mp g1 with e | e
    · subst e
      exact (hk g2).elim
    · exact Or.inr ⟨g, e, g2, g3⟩
theorem ap_sw_b {ts : List wt_t} {n : Nat} {S : rn_N} {fr : List ap_F} {o : Nat} {s : wt_q} {sq : List Nat} (h : ap_sw S fr sq) : ap_sw (ap_b ts n S fr o s sq).1 (ap_b ts n S fr o s sq).2.1 (ap_b ts n S fr o s sq).2.2.2.2.2.1 := by
  unfold ap_b
  split
  · exact ap_sw_fr h (Or.inl rfl)
  split
  · exact ap_sw_fr h (Or.inr (Or.inl rfl))
  split
  · unfold ap_nv
    split
    · exact ap_sw_n (ap_sw_rx h rx_fin) (Or.inr (Or.inr (Or.inr rfl)))
    · exact h
  split
  · have g := ap_sw_rx h (rx_fin (ts := ts) (n := n) (z := o) (s := s))
    generalize sq_fin ts n o S s = r at g ⊢
    unfold ap_sq
    split
    · exact ap_sw_g g (Or.inl rfl)
    split
    · exact ap_sw_g g (Or.inr rfl)
    · exact ap_sw_n g (Or.inl rfl)
  split
  · split
    · exact ap_sw_fr h (Or.inr (Or.inr (Or.inl rfl)))
    · exact h
  · unfold ap_cd
    split
    · exact ap_sw_fr (ap_sw_rx h (rx_c (rx_id S))) (Or.inr (Or.inr (Or.inr (Or.inl rfl))))
    · exact ap_sw_rx h (rx_c (rx_id S))
theorem ap_sw_e {ts : List wt_t} {n : Nat} {S : rn_N} {x o : Nat} {s : wt_q} {sq : List Nat} : ∀ {fr : List ap_F}, ap_sw S fr sq → ap_sw (ap_e ts n S x o s sq fr).1 (ap_e ts n S x o s sq fr).2.1 (ap_e ts n S x o s sq fr).2.2.2.2.2.1
  | [], h => h
  | f :: fr, h => by
    show ap_sw (ap_e1 ts n S x o s sq f fr).1 (ap_e1 ts n S x o s sq f fr).2.1 (ap_e1 ts n S x o s sq f fr).2.2.2.2.2.1
    unfold ap_e1
    split
    · rename_i e
      exact ap_sw_m (ap_sw_t h (by omega)) (by show ¬ (15 = 61 ∨ 15 = 32 ∨ 15 = 33 ∨ 15 = 11); omega)
    split
    · exact ap_sw_p h
    · rename_i e1 e2
      have e3 : f.1 = 29 := Decidable.not_not.mp e2
      have h2 := ap_sw_t h (by omega)
      split
      · exact ap_sw_fr h2 (Or.inr (Or.inr (Or.inr (Or.inr rfl))))
      split
      · exact ap_sw_m (ap_sw_rx h2 (rx_c (rx_id S))) (by show ¬ (13 = 61 ∨ 13 = 32 ∨ 13 = 33 ∨ 13 = 11); omega)
      split
      · exact ap_sw_m (ap_sw_rx h2 (rx_c (rx_id S))) (by show ¬ (14 = 61 ∨ 14 = 32 ∨ 14 = 33 ∨ 14 = 11); omega)
      · exact h2
theorem ap_sw_run {ts : List wt_t} {n : Nat} : ∀ (f : Nat) (y : ap_S), ap_sw y.1 y.2.1 y.2.2.2.2.2.1 → ap_sw (ap_run ts n f y).1 (ap_run ts n f y).2.1 (ap_run ts n f y).2.2.2.2.2.1 := by
  intro f
  induction f with
  | zero => exact fun y h => h
  | succ f ih =>
    intro y h
    by_cases hg : ap_go y = true
    · rw [ap_run_at hg]
      obtain ⟨S, fr, p, o, s, sq, d⟩ := y
      cases p with
      | none => exact ih _ (ap_sw_b (ts := ts) (n := n) (o := o) (s := s) h)
      | some x => exact ih _ (ap_sw_e (ts := ts) (n := n) (x := x) (o := o) (s := s) h)
    · rw [ap_run_no hg]
      exact h
/-- the sequences of a property that was read are those of its nodes -/
theorem ap_sw_all {ts : List wt_t} {n : Nat} : ap_sw (ap_fin ts n).1 (ap_fin ts n).2.1 (ap_fin ts n).2.2.2.2.2.1 := ap_sw_run _ _ ⟨fun f hf => absurd hf (by simp), rfl, fun y hy => absurd hy (by simp)⟩
/-- enough wild letters for every sequence -/
def sc_Zq (S : rn_N) (sq : List Nat) : Prop := ∀ y, y ∈ sq → nt_n (rn_t S y) + 1 ≤ mr_wd S
theorem sc_Zq_of {S : rn_N} {sq : List Nat} (h : ap_sw S [] sq) (hq : rn_q S) (hZ : sc_Z S) : sc_Zq S sq := by
  intro y hy
  rcases h.2.2 y hy with ⟨z, z1, z2, z3⟩ | ⟨f, f1, _⟩
  · have z2 := of_decide_eq_true z2
    have := hZ z z1 (by unfold fl_prop; omega) z2
    rw [z3] at this
    exact this
  · exact absurd f1 (by simp)
