/-! ===== what is known of a property that was read: its parts and its sequences ===== -/
theorem fs_at {P : pd_P} : ∀ m j, j < fs P m → ∃ i, i < m ∧ fs P i = j ∧ fs_b (pd_k P i)
  | 0, j, h => absurd h (Nat.not_lt_zero _)
  | m + 1, j, h => by
    have h : j < fs P m + (if pd_k P m = 1 ∨ pd_k P m = 2 ∨ pd_k P m = 3 ∨ pd_k P m = 6 then 1 else 0) := h
    by_cases c : j < fs P m
    · obtain ⟨i, i1, i2⟩ := fs_at m j c
      exact ⟨i, by omega, i2⟩
    · by_cases k : pd_k P m = 1 ∨ pd_k P m = 2 ∨ pd_k P m = 3 ∨ pd_k P m = 6
      · rw [if_pos k] at h
        exact ⟨m, by omega, by omega, k⟩
      · rw [if_neg k] at h
        omega
theorem rb_t {P : pd_P} {S : rn_N} {m0 x : Nat} {sq : List Nat} (h : rb_S P S m0 x sq) : ∃ (Q : Nat → Prop) (pa pb : Nat → Nat), tr_ok P (rn_d S) (rn_h S) (rn_t S) Q pa pb ∧ (∀ y, Q y → y < rn_n S ∧ fl_prop (rn_k S y)) ∧ Q x ∧ pa x = 0 ∧ pb x = pd_m P ∧ (∀ y z, Q y → Q z → pa y = pa z → y = z) ∧ (∀ n, Q n → tr_S (rn_k S n) → sq[fs P (pa n)]? = some (nq_l (rn_d S n))) ∧ fs P (pd_m P) = sq.length := by
  obtain ⟨⟨Q, pa, pb, hR, hQ, hx, ha, hb⟩, hok, hy, hw, hsw, hs, h67, hu, hp, hF, hM, hP⟩ := h
  obtain ⟨t1, t2⟩ := tq_ok hR hx
  have hq := hok.2.2.2.2.1
  obtain ⟨f1, f2⟩ := fq_part hR hq (fun y hy => (hQ y hy).1) x hx
  have e0 : fs P 0 = 0 := rfl
  refine ⟨tq_Q (rn_d S) x, pa, pb, t1, fun y hy => hQ y (t2 y hy), tq_0, ha, hb, fun y z hy hz e => tq_inj hR x hx y z hy hz e, fun n hn ht => ?_, ?_⟩
  · obtain ⟨j, j1, j2⟩ := f2 n hn ht
    rw [ha, e0, Nat.zero_add] at j1
    rw [j1, ← hF]
    exact j2
  · rw [ha, hb, e0, hF] at f1
    omega
theorem rb_sl {P : pd_P} {S : rn_N} {m0 x : Nat} {sq : List Nat} (h : rb_S P S m0 x sq) {k : Nat → Int32} (hk : ∀ i, i < pd_m P → k i = Int32.ofNat (pd_k P i) ∧ pd_k P i ≤ 10) : pp_sl k (pd_m P) (pd_m P) ≤ 1918 ∧ 0 < pp_sl k (pd_m P) (pd_m P) := by
  have h0 := (sc_R_ok h.1).2
  obtain ⟨Q, pa, pb, _, _, _, _, _, _, _, hf⟩ := rb_t h
  have h1 := tq_sl hk (pd_m P) (Nat.le_refl _)
  have h67 := h.2.2.2.2.2.2.1
  have hP := h.2.2.2.2.2.2.2.2.2.2.2
  have h2 := hu_slm k (pd_m P) 0 (pd_m P)
  rw [Nat.zero_add] at h2
  have h3 : pp_sl k (pd_m P) 0 = 2 * pd_m P := rfl
  omega
/-- kinds of parts and of nodes -/
theorem rb_kd {P : pd_P} {S : rn_N} {Q : Nat → Prop} {pa pb : Nat → Nat} (h : tr_ok P (rn_d S) (rn_h S) (rn_t S) Q pa pb) {n : Nat} (hn : Q n) : (fs_b (pd_k P (pa n)) ↔ tr_S (rn_k S n)) ∧ (tr_S (rn_k S n) → pd_a P (pa n) = rn_t S (nq_l (rn_d S n))) := by
  have te := (h n hn).1
  have e : rn_k S n = nq_k (rn_d S n) := rfl
  unfold fs_b tr_S
  rw [e]
  rcases te with ⟨k1, k2, _, k3⟩ | ⟨k1, k2, k3, _⟩ | ⟨k1, k2, k3, k4, k5⟩ | ⟨k1, k2, k3, k4, k5⟩ | ⟨k1, k2, k3, k4, k5⟩ | ⟨k1, k2, k4, k5⟩ | ⟨k1, k2, k3, _⟩ | ⟨k1, k2, k3, k4, k5⟩ | ⟨k1, k2, k3, k4, k5⟩ | ⟨k1, k2, _, _, k3⟩ | ⟨k1, k2, k3, k4, k5, k6⟩
  all_goals refine ⟨by omega, fun w => ?_⟩
  all_goals first | exact k3 | (exfalso; omega)
