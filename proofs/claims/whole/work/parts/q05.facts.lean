/-! ===== facts for the relation ===== -/
/-- what flop wants of the nodes -/
theorem tq_fb {S : rn_N} {Q : Nat → Prop} {lk : Nat} {v : Nat → Nat} (hn : ∀ y, Q y → y < rn_n S ∧ fl_prop (rn_k S y)) (hq : rn_q S) : fb_Q S lk v Q := by
  intro n hQ
  obtain ⟨n1, n2⟩ := hn n hQ
  obtain ⟨_, q⟩ := hq n n1
  have hkk : nq_k (rn_d S n) = rn_k S n := rfl
  obtain ⟨a1, a2, a3, a4, a5, a6⟩ := q n2
  rw [hkk] at a1 a2 a3 a4 a5 a6
  have ts : ∀ {k : Nat}, (k = 11 ∨ k = 61 ∨ k = 32 ∨ k = 33) → tr_S k := fun h => by
    unfold tr_S
    omega
  refine ⟨⟨fun k => ?_, fun k => ?_, fun k => ?_, fun k => ?_, fun k => ?_, fun k => ?_⟩, ⟨fun k => ?_, fun k => ?_, fun k => ?_⟩, fun en u y t z => ?_⟩
  · have := (a1 k).1
    omega
  · have := (a2 k).1
    omega
  · have h := a4 (Or.inl k)
    exact ⟨by omega, h.2⟩
  · have h := a5 (Or.inl k)
    exact ⟨by omega, h.2⟩
  · have h := (a3 (ts (by omega))).1
    omega
  · have h := a6 k
    omega
  · have h := a5 (Or.inl k)
    exact ⟨by omega, h.2⟩
  · have h := a4 (Or.inr k)
    exact ⟨by omega, h.2⟩
  · have h := (a3 (ts k)).1
    omega
  · have L : (rn_k S n = 10 ∨ rn_k S n = 12 ∨ rn_k S n = 13 ∨ rn_k S n = 15) → ¬ nq_l (rn_d S n) = n := fun k => by
      have := (a1 k).1
      omega
    have R : ((31 ≤ rn_k S n ∧ rn_k S n ≤ 33) ∨ rn_k S n = 15) → ¬ nq_r (rn_d S n) = n := fun k => by
      have := (a2 k).1
      omega
    unfold fb_to at z
    rcases z with ⟨z1, z2, _⟩ | ⟨z1, z2, _⟩ | ⟨z1, z2, _⟩ | ⟨z1, z2, _⟩ | ⟨z1, z2, _⟩ | ⟨z1, z2, _⟩ | ⟨z1, z2 | z2, _⟩
    · rw [z2]
      exact R (by omega)
    · rw [z2]
      exact R (by omega)
    · rw [z2]
      exact R (by omega)
    · rw [z2]
      exact L (by omega)
    · rw [z2]
      exact L (by omega)
    · rw [z2]
      exact L (by omega)
    · rw [z2]
      exact L (by omega)
    · rw [z2]
      exact R (by omega)
/-- a property of one part that holds always never fails -/
theorem tq_true {P : pd_P} (hk : ∀ s, s < pd_m P → pd_k P s = 0) (hc : ∀ s u, s < pd_m P → pd_c P s u = true) (v : Nat → Nat) (l : Nat) : ¬ hw_X P v l := by
  rintro ⟨W, _, t, s, _, hs, hf⟩
  have k0 := hk s hs
  unfold sc_f at hf
  rcases hf with ⟨_, _, z⟩ | ⟨z, _⟩ | ⟨z, _⟩ | ⟨z, _⟩
  · rw [hc s _ hs] at z
    cases z
  · omega
  · omega
  · omega
