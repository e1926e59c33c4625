/-! ===== what is known of a property that was read ===== -/
theorem np_op_c {x : nq_N} {c ca : Nat → Bool} {U U2 V V2 : np_A} (hr : nq_row (nq_k x)) (h1 : ¬ nq_k x = 60 → U = U2) (h2 : nq_two (nq_k x) → V = V2) : np_op x c ca U V = np_op x c ca U2 V2 := by
  by_cases k : nq_k x = 60
  · unfold np_op
    rw [if_pos k, if_pos k]
  · have hU := h1 k
    subst hU
    by_cases k2 : nq_two (nq_k x)
    · rw [h2 k2]
    · unfold nq_two at k2
      unfold np_op
      have n3 : ¬ nq_k x = 23 := by omega
      have n4 : ¬ nq_k x = 24 := by omega
      have n5 : ¬ nq_k x = 25 := by omega
      have n6 : ¬ nq_k x = 26 := by omega
      rw [if_neg k, if_neg k, if_neg n3, if_neg n3, if_neg n4, if_neg n4, if_neg n5, if_neg n5, if_neg n6, if_neg n6]
/-- the reference's places of every node -/
def nu_f (nd : Nat → nq_N) (hc : Nat → Nat → Bool) : Nat → Nat → np_A
  | 0, _ => np_cond (fun _ => false)
  | f + 1, n => np_op (nd n) (hc n) (hc (nq_l (nd n))) (nu_f nd hc f (nq_l (nd n))) (nu_f nd hc f (nq_r (nd n)))
def nu_U (S : rn_N) (n : Nat) : np_A := nu_f (rn_d S) (rn_h S) (n + 1) n
theorem nu_m {S : rn_N} (hi : rn_i S) : ∀ n, n < rn_n S → nq_row (rn_k S n) → ∀ f, n < f → nu_f (rn_d S) (rn_h S) f n = nu_U S n := by
  intro n
  induction n using Nat.strongRecOn with
  | ind n ih =>
    intro hn hr f hf
    obtain ⟨f, rfl⟩ : ∃ g, f = g + 1 := ⟨f - 1, by omega⟩
    unfold nu_U nu_f
    refine np_op_c hr (fun k => ?_) (fun k => ?_)
    · obtain ⟨⟨l1, l2⟩, _⟩ := hi.2.1 n hn hr k
      rw [ih _ l1 (by omega) l2 f (by omega), ih _ l1 (by omega) l2 n l1]
    · have k6 : ¬ nq_k (rn_d S n) = 60 := by unfold nq_two at k; omega
      obtain ⟨_, w, _⟩ := hi.2.1 n hn hr k6
      obtain ⟨l1, l2⟩ := w k
      rw [ih _ l1 (by omega) l2 f (by omega), ih _ l1 (by omega) l2 n l1]
theorem nu_ok {S : rn_N} (hi : rn_i S) : np_sol (rn_d S) (rn_h S) (rn_n S) (nu_U S) := by
  intro n hn hr
  have e : nu_U S n = np_op (rn_d S n) (rn_h S n) (rn_h S (nq_l (rn_d S n))) (nu_f (rn_d S) (rn_h S) n (nq_l (rn_d S n))) (nu_f (rn_d S) (rn_h S) n (nq_r (rn_d S n))) := rfl
  rw [e]
  refine np_op_c hr (fun k => ?_) (fun k => ?_)
  · obtain ⟨⟨l1, l2⟩, _⟩ := hi.2.1 n hn hr k
    exact nu_m hi _ (by omega) l2 n l1
  · have k6 : ¬ nq_k (rn_d S n) = 60 := by unfold nq_two at k; omega
    obtain ⟨_, w, _⟩ := hi.2.1 n hn hr k6
    obtain ⟨l1, l2⟩ := w k
    exact nu_m hi _ (by omega) l2 n l1
/-- all that is known of a property that was read, or that stands at the start -/
def rb_S (P : pd_P) (S : rn_N) (m0 x : Nat) (sq : List Nat) : Prop := sc_R P S x ∧ mr_ok S m0 x ∧ (sc_Z S ∧ (¬ sq = [] → rn_y S)) ∧ rw_a S ∧ ap_sw S [] sq ∧ (∀ y, y ∈ sq → y < rn_n S ∧ nq_row (rn_k S y) ∧ rn_w S y ≤ 40) ∧ sq.length ≤ 67 ∧ uC S ≤ 133 ∧ po_a S ∧ fQ (rn_d S) x = sq ∧ (∀ z, z < rn_n S → fw_s S z = true → nq_l (rn_d S z) ∈ sq) ∧ pd_m P ≤ 155
theorem rb_of {t : Nat → Int32} {n : Nat} {P : pd_P} {S : rn_N} {x o m0 : Nat} {s : wt_q} {sq : List Nat} (ht : wt_tx t n) (hn : n ≤ 400) (h : ap_fin (rd_ts t n) n = (S, [], some x, o, s, sq, true)) (hs : s.2 = none) (hI : ap_I (rd_ts t n) S [] (some x) o s sq) (hR : cR P [] S [] (some x)) (hm : m0 ≤ 402) (h67 : sq.length ≤ 67) (hP : pd_m P ≤ 155) : rb_S P S m0 x sq := by
  have hv : ∀ y, y ∈ rd_ts t n → pr_vt y := fun y hy => pr_lex_vt hn _ _ y hy
  have hl : (rd_ts t n).length ≤ 401 := by
    have := wt_lex_len (st := pr_st t n) (n := n) (n - 0) 0
    show (wt_lex (pr_st t n) n (n - 0) 0).length ≤ 401
    omega
  have hf : (ap_t (ap_fin (rd_ts t n) n)).2 = none := by rw [h]; exact hs
  have e1 : (ap_fin (rd_ts t n) n).1 = S := by rw [h]
  have hy : rn_y S := by rw [← e1]; exact rn_y_all
  have hw : rw_a S := by rw [← e1]; exact rw_all hv hl hf
  have hu : uC S ≤ 133 := by rw [← e1]; exact uC_few ht hn hv hl hf
  have hp : po_a S := by rw [← e1]; exact po_all hv hl hf
  have hsw : ap_sw S [] sq := by
    have := ap_sw_all (ts := rd_ts t n) (n := n)
    rw [h] at this
    exact this
  obtain ⟨i1, iq, i2, i3, i4, i5, i6, i7, i8⟩ := hI
  obtain ⟨g1, g2⟩ := fl_all hv hl h hs
  exact ⟨sc_R_of hR, ⟨by have : rn_n S + 0 ≤ s.1 := i6; omega, by omega, (i3 x rfl).1, i1, iq, rn_ab i1 hy hw⟩, ⟨sc_Z_of i1 iq hy, fun _ => hy⟩, hw, hsw, i8, h67, hu, hp, g1, g2, hP⟩
section RB
variable {P : pd_P} {S : rn_N} {m0 x : Nat} {sq : List Nat}
theorem rb_fw (h : rb_S P S m0 x sq) : fw S = true ↔ sq.length ≤ 4 ∧ ∀ y, y ∈ sq → rn_w S y ≤ 6 := by
  obtain ⟨hR, hok, hy, hw, hsw, hs, h67, hu, hp, hF, hM, hP⟩ := h
  have hn : fw_n S (rn_n S) = sq.length := by
    have : fw_n S (rn_n S) + 0 = sq.length := hsw.2.1
    omega
  unfold fw
  rw [Bool.and_eq_true, hn]
  refine ⟨fun ⟨a, b⟩ => ⟨of_decide_eq_true a, fun y hy => ?_⟩, fun ⟨a, b⟩ => ⟨decide_eq_true a, ?_⟩⟩
  · rcases hsw.2.2 y hy with ⟨z, z1, z2, z3⟩ | ⟨f, f1, _⟩
    · rw [← z3]
      exact fw_l_w b z1 z2
    · exact absurd f1 (by simp)
  · have all : ∀ k, k ≤ rn_n S → fw_l S k = true := by
      intro k
      induction k with
      | zero => exact fun _ => rfl
      | succ k ih =>
        intro hk
        show (if fw_s S k = true then fw_l S k && decide (rn_w S (nq_l (rn_d S k)) ≤ 6) else fw_l S k) = true
        split
        · rename_i c
          rw [ih (by omega), decide_eq_true (b _ (hM k (by omega) c))]
          rfl
        · exact ih (by omega)
    exact all _ (Nat.le_refl _)
theorem rb_Z (h : rb_S P S m0 x sq) : sc_Z S ∧ sc_Zq S sq := by
  obtain ⟨hR, hok, hy, hw, hsw, hs, h67, hu, hp, hF, hM, hP⟩ := h
  have z := hy.1
  exact ⟨z, sc_Zq_of hsw hok.2.2.2.2.1 z⟩
/-- a light sequence: the reference's places of it -/
theorem rb_y (h : rb_S P S m0 x sq) {lo : Nat → Nat} (hlo : po_N S lo) (hnq : ¬ sq = []) {y : Nat} (hy : y < rn_n S) (hr : nq_row (rn_k S y)) (h6 : rn_w S y ≤ 6) : pb_S S lo (nu_U S) y ∧ (∃ cl Al, rs_cc (nu_U S y) cl Al) ∧ np_sim (nu_U S y) (rn_t S y) ∧ np_n (nu_U S y) ≤ 64 ∧ nt_n (rn_t S y) ≤ 6 := by
  obtain ⟨hR, hok, hyz, hw, hsw, hs, h67, hu, hp, hF, hM, hP⟩ := h
  have hyy := hyz.2 hnq
  have hi := hok.2.2.2.1
  obtain ⟨a1, a2⟩ := nc_all hi hyy (nu_ok hi) y hy hr h6
  have hnn : np_n (nu_U S y) ≤ 43 := by
    refine Nat.le_trans a2.2.2 ?_
    unfold cn_t
    repeat' split
    all_goals omega
  refine ⟨⟨hy, hr, hi, hlo, nu_ok hi, ?_, by omega, fun z z1 z2 z3 => ?_⟩, rs_cc_of a1 h6, np_main hi.1 (nu_ok hi) hi.2.1 y hy hr, by omega, ?_⟩
  · have := po_few hi hyy hw hlo hu hy hr h6
    omega
  · have g := hyy z z1 z2
    have hk : nq_k (rn_d S z) = 42 := z3
    have k6 : ¬ nq_k (rn_d S z) = 60 := by omega
    obtain ⟨⟨l1, l2⟩, _⟩ := hi.2.1 z z1 z2 k6
    have e := g.2.2 k6 l1 (fun w => by unfold nq_two at w; omega)
    have w40 := hw z z1 z2
    have w1 := rn_w_1 hi hyy _ (show nq_l (rn_d S z) < rn_n S by omega) l2
    rw [e] at w40
    have e2 : rn_we (nq_k (rn_d S z)) (nq_a (rn_d S z)) (nq_b (rn_d S z)) (rn_w S (nq_l (rn_d S z))) (rn_w S (nq_r (rn_d S z))) = min (ww_mx (nq_b (rn_d S z)) * rn_w S (nq_l (rn_d S z))) 1000 := by
      unfold rn_we
      rw [if_neg k6, if_neg (by omega), if_neg (by omega), if_pos hk]
    rw [e2] at w40
    have m1 : ww_mx (nq_b (rn_d S z)) * 1 ≤ ww_mx (nq_b (rn_d S z)) * rn_w S (nq_l (rn_d S z)) := Nat.mul_le_mul_left _ w1
    have m2 : nq_b (rn_d S z) ≤ ww_mx (nq_b (rn_d S z)) := by
      unfold ww_mx
      split <;> omega
    omega
  · have := rn_nt hi hyy y hy hr
    omega
end RB
