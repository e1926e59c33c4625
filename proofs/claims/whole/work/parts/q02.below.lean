/-! ===== nodes below a node ===== -/
/-- nodes at most d below x -/
def tq_b (nd : Nat → nq_N) (x : Nat) : Nat → Nat → Prop
  | 0 => fun y => y = x
  | d + 1 => fun y => tq_b nd x d y ∨ ∃ z, tq_b nd x d z ∧ ((tr_L (nq_k (nd z)) ∧ y = nq_l (nd z)) ∨ (tr_R (nq_k (nd z)) ∧ y = nq_r (nd z)))
def tq_Q (nd : Nat → nq_N) (x y : Nat) : Prop := ∃ d, tq_b nd x d y
theorem tq_0 {nd : Nat → nq_N} {x : Nat} : tq_Q nd x x := ⟨0, rfl⟩
theorem tq_l {nd : Nat → nq_N} {x y : Nat} (h : tq_Q nd x y) (hk : tr_L (nq_k (nd y))) : tq_Q nd x (nq_l (nd y)) := by
  obtain ⟨d, h⟩ := h
  exact ⟨d + 1, Or.inr ⟨y, h, Or.inl ⟨hk, rfl⟩⟩⟩
theorem tq_r {nd : Nat → nq_N} {x y : Nat} (h : tq_Q nd x y) (hk : tr_R (nq_k (nd y))) : tq_Q nd x (nq_r (nd y)) := by
  obtain ⟨d, h⟩ := h
  exact ⟨d + 1, Or.inr ⟨y, h, Or.inr ⟨hk, rfl⟩⟩⟩
theorem tq_in {P : pd_P} {nd : Nat → nq_N} {hc : Nat → Nat → Bool} {T : Nat → nt_A} {Q : Nat → Prop} {pa pb : Nat → Nat} (h : tr_ok P nd hc T Q pa pb) {x : Nat} (hx : Q x) : ∀ d y, tq_b nd x d y → Q y
  | 0, y, e => by
    have e : y = x := e
    rw [e]
    exact hx
  | d + 1, y, e => by
    rcases e with e | ⟨z, e, ⟨k, rfl⟩ | ⟨k, rfl⟩⟩
    · exact tq_in h hx d y e
    · exact ((h z (tq_in h hx d z e)).2.1 k).2
    · exact ((h z (tq_in h hx d z e)).2.2.1 k).2
theorem tq_ok {P : pd_P} {nd : Nat → nq_N} {hc : Nat → Nat → Bool} {T : Nat → nt_A} {Q : Nat → Prop} {pa pb : Nat → Nat} (h : tr_ok P nd hc T Q pa pb) {x : Nat} (hx : Q x) : tr_ok P nd hc T (tq_Q nd x) pa pb ∧ ∀ y, tq_Q nd x y → Q y := by
  have hQ : ∀ y, tq_Q nd x y → Q y := fun y ⟨d, e⟩ => tq_in h hx d y e
  refine ⟨fun n hn => ?_, hQ⟩
  obtain ⟨a1, a2, a3, a4⟩ := h n (hQ n hn)
  exact ⟨a1, fun k => ⟨(a2 k).1, tq_l hn k⟩, fun k => ⟨(a3 k).1, tq_r hn k⟩, a4⟩
/-- a node below n is n, or below a child -/
theorem tq_c {nd : Nat → nq_N} {n : Nat} : ∀ d y, tq_b nd n d y → y = n ∨ (tr_L (nq_k (nd n)) ∧ tq_Q nd (nq_l (nd n)) y) ∨ (tr_R (nq_k (nd n)) ∧ tq_Q nd (nq_r (nd n)) y)
  | 0, y, e => Or.inl e
  | d + 1, y, e => by
    rcases e with e | ⟨z, e, hz⟩
    · exact tq_c d y e
    · rcases tq_c d z e with rfl | ⟨k, q⟩ | ⟨k, q⟩
      · rcases hz with ⟨k, rfl⟩ | ⟨k, rfl⟩
        · exact Or.inr (Or.inl ⟨k, tq_0⟩)
        · exact Or.inr (Or.inr ⟨k, tq_0⟩)
      · refine Or.inr (Or.inl ⟨k, ?_⟩)
        rcases hz with ⟨k2, rfl⟩ | ⟨k2, rfl⟩
        · exact tq_l q k2
        · exact tq_r q k2
      · refine Or.inr (Or.inr ⟨k, ?_⟩)
        rcases hz with ⟨k2, rfl⟩ | ⟨k2, rfl⟩
        · exact tq_l q k2
        · exact tq_r q k2
/-- children lie within, apart from one another -/
theorem tq_k {P : pd_P} {nd : Nat → nq_N} {hc : Nat → Nat → Bool} {T : Nat → nt_A} {Q : Nat → Prop} {pa pb : Nat → Nat} (h : tr_ok P nd hc T Q pa pb) {n : Nat} (hn : Q n) : (tr_L (nq_k (nd n)) → pa n < pa (nq_l (nd n)) ∧ pb (nq_l (nd n)) ≤ pb n) ∧ (tr_R (nq_k (nd n)) → pa n < pa (nq_r (nd n)) ∧ pb (nq_r (nd n)) ≤ pb n) ∧ (tr_L (nq_k (nd n)) → tr_R (nq_k (nd n)) → pb (nq_l (nd n)) ≤ pa (nq_r (nd n))) := by
  obtain ⟨tq, hl, hr, hab, _⟩ := h n hn
  have pl : tr_L (nq_k (nd n)) → pa (nq_l (nd n)) < pb (nq_l (nd n)) := fun k => (h _ (hl k).2).2.2.2.1
  have pr : tr_R (nq_k (nd n)) → pa (nq_r (nd n)) < pb (nq_r (nd n)) := fun k => (h _ (hr k).2).2.2.2.1
  unfold tr_eq at tq
  unfold tr_L tr_R at *
  rcases tq with ⟨k1, k2, _⟩ | ⟨k1, k2, _⟩ | ⟨k1, k2, k3, k4, k5⟩ | ⟨k1, k2, k3, k4, k5⟩ | ⟨k1, k2, k3, k4, k5⟩ | ⟨k1, k2, k4, k5⟩ | ⟨k1, k2, _⟩ | ⟨k1, k2, k3, k4, k5⟩ | ⟨k1, k2, k3, k4, k5⟩ | ⟨k1, k2, _⟩ | ⟨k1, k2, k3, k4, k5, k6⟩
  all_goals refine ⟨fun y => ?_, fun y => ?_, fun y z => ?_⟩
  all_goals first
    | omega
    | (have q1 := pl (by omega); omega)
    | (have q1 := pr (by omega); omega)
    | (have q1 := pl (by omega); have q2 := pr (by omega); omega)
theorem tq_rg {P : pd_P} {nd : Nat → nq_N} {hc : Nat → Nat → Bool} {T : Nat → nt_A} {Q : Nat → Prop} {pa pb : Nat → Nat} (h : tr_ok P nd hc T Q pa pb) : ∀ n, Q n → ∀ y, tq_Q nd n y → pa n ≤ pa y ∧ pb y ≤ pb n ∧ pa y < pb y := by
  intro n
  induction n using Nat.strongRecOn with
  | _ n ih =>
    intro hn y hy
    obtain ⟨k1, k2, _⟩ := tq_k h hn
    obtain ⟨_, hl, hr, hab, _⟩ := h n hn
    obtain ⟨d, hy⟩ := hy
    rcases tq_c d y hy with rfl | ⟨k, q⟩ | ⟨k, q⟩
    · exact ⟨Nat.le_refl _, Nat.le_refl _, hab⟩
    · obtain ⟨a1, a2, a3⟩ := ih _ (hl k).1 (hl k).2 y q
      have := k1 k
      omega
    · obtain ⟨a1, a2, a3⟩ := ih _ (hr k).1 (hr k).2 y q
      have := k2 k
      omega
/-- below a node, parts tell nodes apart -/
theorem tq_inj {P : pd_P} {nd : Nat → nq_N} {hc : Nat → Nat → Bool} {T : Nat → nt_A} {Q : Nat → Prop} {pa pb : Nat → Nat} (h : tr_ok P nd hc T Q pa pb) : ∀ n, Q n → ∀ y z, tq_Q nd n y → tq_Q nd n z → pa y = pa z → y = z := by
  intro n
  induction n using Nat.strongRecOn with
  | _ n ih =>
    intro hn y z hy hz e
    obtain ⟨k1, k2, k3⟩ := tq_k h hn
    obtain ⟨_, hl, hr, hab, _⟩ := h n hn
    obtain ⟨d, hy⟩ := hy
    obtain ⟨d2, hz⟩ := hz
    rcases tq_c d y hy with rfl | ⟨ky, qy⟩ | ⟨ky, qy⟩
    · rcases tq_c d2 z hz with rfl | ⟨kz, qz⟩ | ⟨kz, qz⟩
      · rfl
      · have a1 := tq_rg h _ (hl kz).2 z qz
        have a2 := k1 kz
        omega
      · have a1 := tq_rg h _ (hr kz).2 z qz
        have a2 := k2 kz
        omega
    · have b1 := tq_rg h _ (hl ky).2 y qy
      have b2 := k1 ky
      rcases tq_c d2 z hz with rfl | ⟨kz, qz⟩ | ⟨kz, qz⟩
      · omega
      · exact ih _ (hl ky).1 (hl ky).2 y z qy qz e
      · have a1 := tq_rg h _ (hr kz).2 z qz
        have a2 := k3 ky kz
        omega
    · have b1 := tq_rg h _ (hr ky).2 y qy
      have b2 := k2 ky
      rcases tq_c d2 z hz with rfl | ⟨kz, qz⟩ | ⟨kz, qz⟩
      · omega
      · have a1 := tq_rg h _ (hl kz).2 z qz
        have a2 := k3 kz ky
        omega
      · exact ih _ (hr ky).1 (hr ky).2 y z qy qz e
