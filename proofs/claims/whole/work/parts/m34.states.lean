/-! ===== states of the reference ===== -/
/-! things found one after another, by the letters 0 .. 63 of each -/
section GX
variable {X : Type} {fi ev : X → Prop} {nx : X → Nat → X → Prop} {ss : List X} {tb : Nat → Nat → Nat} {a i j : Nat} {x y : X}
def gx (fi ev : X → Prop) (nx : X → Nat → X → Prop) (ss : List X) (tb : Nat → Nat → Nat) (a i : Nat) : Prop := (∃ x, ss[0]? = some x ∧ fi x) ∧ ss.Nodup ∧ (∀ x, x ∈ ss → ev x) ∧ a ≤ ss.length ∧ (∀ p k, kx_b a i p k → k < 64 → tb p k < ss.length ∧ ∃ x y, ss[p]? = some x ∧ ss[tb p k]? = some y ∧ nx x k y) ∧ ∀ c, 0 < c → c < ss.length → ∃ p k, kx_b a i p k ∧ k < 64 ∧ p < c ∧ tb p k = c ∧ ∀ p2 k2, kx_b p k p2 k2 → k2 < 64 → tb p2 k2 < c
theorem gx_0 (h : fi x) (h2 : ev x) : gx fi ev nx [x] tb 0 0 := by
  refine ⟨⟨x, rfl, h⟩, by simp, fun y hy => by rw [List.mem_singleton.mp hy]; exact h2, Nat.zero_le _, fun p k h => ?_, fun c h1 h2 => ?_⟩
  · unfold kx_b at h
    omega
  · have h2 : c < 1 := h2
    omega
theorem gx_keep {p k : Nat} (h : kx_b a i p k) : kx_u tb a i j p k = tb p k := kx_u_no (fun z => by
  unfold kx_b at h
  omega)
theorem gx_old (h : gx fi ev nx ss tb a i) (hx : ss[a]? = some x) (hy : ss[j]? = some y) (hn : nx x i y) : gx fi ev nx ss (kx_u tb a i j) a (i + 1) := by
  obtain ⟨h1, h2, h3, h4, h5, h6⟩ := h
  have hj := (List.getElem?_eq_some_iff.mp hy).1
  refine ⟨h1, h2, h3, h4, fun p k hb hk => ?_, fun c c1 c2 => ?_⟩
  · rcases kx_b_s hb with z | ⟨z1, z2⟩
    · rw [gx_keep z]
      exact h5 p k z hk
    · subst z1
      subst z2
      rw [kx_u_at]
      exact ⟨hj, x, y, hx, hy, hn⟩
  · obtain ⟨p, k, b1, b2, b3, b4, b5⟩ := h6 c c1 c2
    refine ⟨p, k, ?_, b2, b3, by rw [gx_keep b1]; exact b4, fun p2 k2 d1 d2 => ?_⟩
    · unfold kx_b at *
      omega
    · rw [gx_keep (kx_b_t b1 d1)]
      exact b5 p2 k2 d1 d2
theorem gx_new (h : gx fi ev nx ss tb a i) (hi : i < 64) (hx : ss[a]? = some x) (hy : ¬ y ∈ ss) (hn : nx x i y) (he : ev y) : gx fi ev nx (ss ++ [y]) (kx_u tb a i ss.length) a (i + 1) := by
  obtain ⟨⟨x0, h1, h1b⟩, h2, h3, h4, h5, h6⟩ := h
  have ha := (List.getElem?_eq_some_iff.mp hx).1
  have hlen : (ss ++ [y]).length = ss.length + 1 := List.length_append
  have ap : ∀ (j : Nat) (w : X), ss[j]? = some w → (ss ++ [y])[j]? = some w := fun j w e => by
    rw [List.getElem?_append_left (List.getElem?_eq_some_iff.mp e).1]
    exact e
  have al : (ss ++ [y])[ss.length]? = some y := by
    rw [List.getElem?_append_right (Nat.le_refl _), Nat.sub_self]
    rfl
  refine ⟨⟨x0, ap _ _ h1, h1b⟩, ?_, fun w hw => ?_, by omega, fun p k hb hk => ?_, fun c c1 c2 => ?_⟩
  · rw [List.nodup_append]
    exact ⟨h2, by simp, fun a ha b hb e => hy (by rw [← List.mem_singleton.mp hb, ← e]; exact ha)⟩
  · rcases List.mem_append.mp hw with z | z
    · exact h3 w z
    · rw [List.mem_singleton.mp z]
      exact he
  · rcases kx_b_s hb with z | ⟨z1, z2⟩
    · rw [gx_keep z]
      obtain ⟨d1, d2, d3, d4, d5, d6⟩ := h5 p k z hk
      exact ⟨by omega, d2, d3, ap _ _ d4, ap _ _ d5, d6⟩
    · subst z1
      subst z2
      rw [kx_u_at]
      exact ⟨by omega, x, y, ap _ _ hx, al, hn⟩
  · by_cases c3 : c = ss.length
    · subst c3
      refine ⟨a, i, Or.inr ⟨rfl, Nat.lt_succ_self _⟩, hi, ha, kx_u_at, fun p2 k2 d1 d2 => ?_⟩
      rw [gx_keep d1]
      exact (h5 p2 k2 d1 d2).1
    · obtain ⟨p, k, b1, b2, b3, b4, b5⟩ := h6 c c1 (by omega)
      refine ⟨p, k, ?_, b2, b3, by rw [gx_keep b1]; exact b4, fun p2 k2 d1 d2 => ?_⟩
      · unfold kx_b at *
        omega
      · rw [gx_keep (kx_b_t b1 d1)]
        exact b5 p2 k2 d1 d2
theorem gx_row (h : gx fi ev nx ss tb a 64) (ha : a < ss.length) : gx fi ev nx ss tb (a + 1) 0 := by
  obtain ⟨h1, h2, h3, h4, h5, h6⟩ := h
  refine ⟨h1, h2, h3, by omega, fun p k hb hk => h5 p k ?_ hk, fun c c1 c2 => ?_⟩
  · unfold kx_b at *
    omega
  · obtain ⟨p, k, b1, b2⟩ := h6 c c1 c2
    refine ⟨p, k, ?_, b2⟩
    unfold kx_b at *
    omega
theorem gx_fin (h : gx fi ev nx ss tb ss.length 0) : df_ok ss.length tb ∧ df_bf ss.length tb ∧ ∀ c v, c < ss.length → v < 64 → ∃ x y, ss[c]? = some x ∧ ss[tb c v]? = some y ∧ nx x v y := by
  obtain ⟨⟨x0, h1, h1b⟩, h2, h3, h4, h5, h6⟩ := h
  have h0 := (List.getElem?_eq_some_iff.mp h1).1
  refine ⟨⟨h0, fun c hc v hv => (h5 c v (Or.inl hc) hv).1⟩, fun c c1 c2 => ?_, fun c v hc hv => (h5 c v (Or.inl hc) hv).2⟩
  obtain ⟨p, k, b1, b2, b3, b4, b5⟩ := h6 c c1 c2
  exact ⟨p, k, b3, b2, b4, fun p2 v2 d1 d2 => b5 p2 v2 d1 d2⟩
end GX
/-! states of the reference: places that may come, and whether a row ended -/
section RS
abbrev rs_X : Type := Int64 × Bool
def rs_0 (U : np_A) (x : rs_X) : Prop := (∀ q, q < 64 → (nb x.1 q = true ↔ q < np_n U ∧ np_F U q = true)) ∧ x.2 = np_e U
def rs_nx (U : np_A) (x : rs_X) (v : Nat) (y : rs_X) : Prop := (∀ q, q < 64 → (nb y.1 q = true ↔ ∃ p, p < np_n U ∧ nb x.1 p = true ∧ np_M U p v = true ∧ q < np_n U ∧ np_B U p q = true)) ∧ (y.2 = true ↔ ∃ p, p < np_n U ∧ nb x.1 p = true ∧ np_M U p v = true ∧ np_L U p = true)
/-- states by colours -/
def rs_col (U : np_A) (c : Nat → Nat) (Al : Nat → Prop) (b : Nat → Bool) (x : rs_X) : Prop := (∀ q, q < 64 → (nb x.1 q = true ↔ q < np_n U ∧ ∃ p, Al p ∧ b (c p) = true ∧ np_B U p q = true)) ∧ (x.2 = true ↔ ∃ p, Al p ∧ b (c p) = true ∧ np_L U p = true)
def rs_cc (U : np_A) (c : Nat → Nat) (Al : Nat → Prop) : Prop := (∀ p, Al p → p < np_n U ∧ c p < 6) ∧ (∀ p, p < np_n U → np_F U p = true → Al p) ∧ (∀ p q, Al p → q < np_n U → np_B U p q = true → Al q) ∧ ∀ p q, Al p → Al q → c p = c q → np_L U p = np_L U q ∧ ∀ r, r < np_n U → np_B U p r = np_B U q r
def rs_ev (U : np_A) (c : Nat → Nat) (Al : Nat → Prop) (x : rs_X) : Prop := (∀ q, q < 64 → nb x.1 q = true → Al q) ∧ (rs_0 U x ∨ ∃ b, rs_col U c Al b x)
theorem rs_ext {x y : rs_X} (h1 : ∀ q, q < 64 → (nb x.1 q = true ↔ nb y.1 q = true)) (h2 : x.2 = true ↔ y.2 = true) : x = y := by
  obtain ⟨a, b⟩ := x
  obtain ⟨c, d⟩ := y
  have e1 : a = c := nb_ext (fun k hk => Bool.eq_iff_iff.mpr (h1 k hk))
  have e2 : b = d := Bool.eq_iff_iff.mpr h2
  rw [e1, e2]
theorem rs_0_u {U : np_A} {x y : rs_X} (h : rs_0 U x) (g : rs_0 U y) : x = y := rs_ext (fun q hq => (h.1 q hq).trans (g.1 q hq).symm) (by rw [h.2, g.2])
theorem rs_col_u {U : np_A} {c : Nat → Nat} {Al : Nat → Prop} {b b2 : Nat → Bool} {x y : rs_X} (hc : rs_cc U c Al) (h : rs_col U c Al b x) (g : rs_col U c Al b2 y) (e : ∀ i, i < 6 → b i = b2 i) : x = y := by
  have k : ∀ p, Al p → b (c p) = b2 (c p) := fun p hp => e _ (hc.1 p hp).2
  refine rs_ext (fun q hq => (h.1 q hq).trans (Iff.trans ⟨?_, ?_⟩ (g.1 q hq).symm)) (h.2.trans (Iff.trans ⟨?_, ?_⟩ g.2.symm))
  · rintro ⟨a1, p, a2, a3, a4⟩
    exact ⟨a1, p, a2, by rw [← k p a2]; exact a3, a4⟩
  · rintro ⟨a1, p, a2, a3, a4⟩
    exact ⟨a1, p, a2, by rw [k p a2]; exact a3, a4⟩
  · rintro ⟨p, a2, a3, a4⟩
    exact ⟨p, a2, by rw [← k p a2]; exact a3, a4⟩
  · rintro ⟨p, a2, a3, a4⟩
    exact ⟨p, a2, by rw [k p a2]; exact a3, a4⟩
theorem rs_code : ∀ (b1 b2 b3 b4 b5 b6 : Bool), (kc_code b1 b2 b3 b4 b5 b6).testBit 0 = b1 ∧ (kc_code b1 b2 b3 b4 b5 b6).testBit 1 = b2 ∧ (kc_code b1 b2 b3 b4 b5 b6).testBit 2 = b3 ∧ (kc_code b1 b2 b3 b4 b5 b6).testBit 3 = b4 ∧ (kc_code b1 b2 b3 b4 b5 b6).testBit 4 = b5 ∧ (kc_code b1 b2 b3 b4 b5 b6).testBit 5 = b6 := by decide +kernel
theorem rs_code_6 (b : Nat → Bool) : ∃ m, m < 64 ∧ ∀ i, i < 6 → b i = m.testBit i := by
  obtain ⟨e0, e1, e2, e3, e4, e5⟩ := rs_code (b 0) (b 1) (b 2) (b 3) (b 4) (b 5)
  refine ⟨kc_code (b 0) (b 1) (b 2) (b 3) (b 4) (b 5), kc_code_l _ _ _ _ _ _, fun i hi => ?_⟩
  rcases (by omega : i = 0 ∨ i = 1 ∨ i = 2 ∨ i = 3 ∨ i = 4 ∨ i = 5) with z | z | z | z | z | z <;> subst z
  · exact e0.symm
  · exact e1.symm
  · exact e2.symm
  · exact e3.symm
  · exact e4.symm
  · exact e5.symm
noncomputable def rs_g (P : rs_X → Prop) : rs_X := @dite _ (∃ x, P x) (Classical.propDecidable _) (fun h => h.choose) (fun _ => (0, false))
theorem rs_g_s {P : rs_X → Prop} (h : ∃ x, P x) : P (rs_g P) := by
  unfold rs_g
  rw [dif_pos h]
  exact h.choose_spec
theorem rs_few {U : np_A} {c : Nat → Nat} {Al : Nat → Prop} {ss : List rs_X} (hc : rs_cc U c Al) (hn : ss.Nodup) (h : ∀ x, x ∈ ss → rs_ev U c Al x) : ss.length ≤ 65 := by
  have := hn.length_le_of_subset (l₂ := rs_g (rs_0 U) :: (List.range 64).map (fun m => rs_g (rs_col U c Al (fun i => m.testBit i)))) (fun x hx => by
    obtain ⟨_, e | ⟨b, e⟩⟩ := h x hx
    · rw [rs_0_u e (rs_g_s ⟨x, e⟩)]
      exact List.mem_cons_self
    · obtain ⟨m, m1, m2⟩ := rs_code_6 b
      have hx2 : rs_col U c Al (fun i => m.testBit i) x := by
        have k : ∀ p, Al p → b (c p) = m.testBit (c p) := fun p hp => m2 _ (hc.1 p hp).2
        refine ⟨fun q hq => (e.1 q hq).trans ⟨?_, ?_⟩, e.2.trans ⟨?_, ?_⟩⟩
        · rintro ⟨a1, p, a2, a3, a4⟩
          exact ⟨a1, p, a2, by show m.testBit (c p) = true; rw [← k p a2]; exact a3, a4⟩
        · rintro ⟨a1, p, a2, a3, a4⟩
          exact ⟨a1, p, a2, by rw [k p a2]; exact a3, a4⟩
        · rintro ⟨p, a2, a3, a4⟩
          exact ⟨p, a2, by show m.testBit (c p) = true; rw [← k p a2]; exact a3, a4⟩
        · rintro ⟨p, a2, a3, a4⟩
          exact ⟨p, a2, by rw [k p a2]; exact a3, a4⟩
      exact List.mem_cons_of_mem _ (List.mem_map.mpr ⟨m, List.mem_range.mpr m1, rs_col_u hc (rs_g_s ⟨x, hx2⟩) hx2 (fun _ _ => rfl)⟩))
  rw [List.length_cons, List.length_map, List.length_range] at this
  exact this
theorem rs_ev_0 {U : np_A} {c : Nat → Nat} {Al : Nat → Prop} {x : rs_X} (hc : rs_cc U c Al) (h : rs_0 U x) : rs_ev U c Al x := ⟨fun q hq hb => by
  obtain ⟨a, b⟩ := (h.1 q hq).mp hb
  exact hc.2.1 q a b, Or.inl h⟩
theorem rs_ev_nx {U : np_A} {c : Nat → Nat} {Al : Nat → Prop} {x y : rs_X} {v : Nat} (hc : rs_cc U c Al) (hU : np_n U ≤ 64) (h : rs_ev U c Al x) (hn : rs_nx U x v y) : rs_ev U c Al y := by
  refine ⟨fun q hq hb => ?_, Or.inr ⟨fun i => decide (∃ p, p < np_n U ∧ nb x.1 p = true ∧ np_M U p v = true ∧ c p = i), fun q hq => (hn.1 q hq).trans ⟨?_, ?_⟩, hn.2.trans ⟨?_, ?_⟩⟩⟩
  · obtain ⟨p, a1, a2, a3, a4, a5⟩ := (hn.1 q hq).mp hb
    exact hc.2.2.1 p q (h.1 p (by omega) a2) a4 a5
  · rintro ⟨p, a1, a2, a3, a4, a5⟩
    exact ⟨a4, p, h.1 p (by omega) a2, decide_eq_true ⟨p, a1, a2, a3, rfl⟩, a5⟩
  · rintro ⟨a1, p, a2, a3, a4⟩
    obtain ⟨p2, b1, b2, b3, b4⟩ := of_decide_eq_true a3
    have := (hc.2.2.2 p2 p (h.1 p2 (by omega) b2) a2 b4).2 q a1
    exact ⟨p2, b1, b2, b3, a1, by rw [this]; exact a4⟩
  · rintro ⟨p, a1, a2, a3, a4⟩
    exact ⟨p, h.1 p (by omega) a2, decide_eq_true ⟨p, a1, a2, a3, rfl⟩, a4⟩
  · rintro ⟨p, a2, a3, a4⟩
    obtain ⟨p2, b1, b2, b3, b4⟩ := of_decide_eq_true a3
    have := (hc.2.2.2 p2 p (h.1 p2 (by omega) b2) a2 b4).1
    exact ⟨p2, b1, b2, b3, by rw [this]; exact a4⟩
theorem rs_cc_of {U : np_A} {k : Nat} (h : nc_ok U k) (hk : k ≤ 6) : ∃ c Al, rs_cc U c Al := by
  obtain ⟨c, Al, h1, h2, h3, h4⟩ := h
  exact ⟨c, Al, fun p hp => ⟨(h1 p hp).1, by have := (h1 p hp).2; omega⟩, h2, h3, h4⟩
/-- places that lead to one another -/
def rb (U : np_A) : Nat → Nat → Nat → Prop
  | 0, p, q => p = q
  | m + 1, p, q => ∃ r, r < np_n U ∧ np_B U p r = true ∧ rb U m r q
def rs_r (U : np_A) (x : rs_X) : Prop := ∃ p, p < np_n U ∧ nb x.1 p = true ∧ ∃ m q, rb U m p q ∧ np_L U q = true
theorem nz_F_1 {A : nt_A} {t : Nat} : nz_F A (t + 1) ↔ nt_f A t := ⟨fun h => by
  rcases h with ⟨h, _⟩ | ⟨x, h1, h2⟩
  · cases h
  · have : x = t := by omega
    subst this
    exact h2, fun h => Or.inr ⟨t, rfl, h⟩⟩
theorem nz_D_1 {A : nt_A} {s t : Nat} {l : Option Nat} : nz_D A (s + 1) t l ↔ ∃ y, t = y + 1 ∧ nt_D A s y l := ⟨fun h => by
  obtain ⟨y, h1, ⟨h2, _⟩ | ⟨x, h2, h3⟩⟩ := h
  · cases h2
  · have : x = s := by omega
    subst this
    exact ⟨y, h1, h3⟩, fun ⟨y, h1, h2⟩ => ⟨y, h1, Or.inr ⟨s, rfl, h2⟩⟩⟩
theorem nz_D_0 {A : nt_A} {t : Nat} {l : Option Nat} : nz_D A 0 t l ↔ ∃ y, t = y + 1 ∧ nt_h A y l := ⟨fun h => by
  obtain ⟨y, h1, ⟨_, h2⟩ | ⟨x, h2, h3⟩⟩ := h
  · exact ⟨y, h1, h2⟩
  · exact absurd h2 (by omega), fun ⟨y, h1, h2⟩ => ⟨y, h1, Or.inl ⟨rfl, h2⟩⟩⟩
section RW
variable {U : np_A} {A : nt_A} {rep : Nat → Nat} {Al : Nat → Prop}
def rs_sim (U : np_A) (A : nt_A) (rep : Nat → Nat) (Al : Nat → Prop) : Prop := (∀ p, Al p → p < np_n U ∧ rep p < nt_n A) ∧ (∀ p, p < np_n U → np_F U p = true → Al p) ∧ (∀ p q, Al p → q < np_n U → np_B U p q = true → Al q) ∧ (∀ p, Al p → (np_L U p = true ↔ nt_L A (rep p) = true)) ∧ (∀ s l, nt_h A s l ↔ ∃ p, p < np_n U ∧ np_F U p = true ∧ rep p = s ∧ nl_ok (np_M U p) l) ∧ (∀ p, Al p → ∀ t l, nt_D A (rep p) t l ↔ ∃ q, q < np_n U ∧ np_B U p q = true ∧ rep q = t ∧ nl_ok (np_M U q) l) ∧ np_e U = nt_e A
theorem rs_L (h : rs_sim U A rep Al) {p : Nat} (hp : Al p) : nt_f A (rep p) ↔ np_L U p = true := ⟨fun z => (h.2.2.2.1 p hp).mpr z.2, fun z => ⟨(h.1 p hp).2, (h.2.2.2.1 p hp).mp z⟩⟩
theorem rs_path (h : rs_sim U A rep Al) : ∀ m k p, Al p → ((∃ u, na_p (nz_D A) (fun _ => none) m k (rep p + 1) u ∧ nz_F A u) ↔ ∃ q, rb U m p q ∧ np_L U q = true) := by
  intro m
  induction m with
  | zero =>
    intro k p hp
    constructor
    · rintro ⟨u, h1, h2⟩
      have h1 : rep p + 1 = u := h1
      rw [← h1, nz_F_1, rs_L h hp] at h2
      exact ⟨p, rfl, h2⟩
    · rintro ⟨q, h1, h2⟩
      have h1 : p = q := h1
      subst h1
      exact ⟨rep p + 1, rfl, nz_F_1.mpr ((rs_L h hp).mpr h2)⟩
  | succ m ih =>
    intro k p hp
    constructor
    · rintro ⟨u, ⟨v, h1, h2⟩, h3⟩
      obtain ⟨y, h4, h5⟩ := nz_D_1.mp h1
      subst h4
      obtain ⟨q, q1, q2, q3, q4⟩ := (h.2.2.2.2.2.1 p hp y none).mp h5
      subst q3
      obtain ⟨r, r1, r2⟩ := (ih (k + 1) q (h.2.2.1 p q hp q1 q2)).mp ⟨u, h2, h3⟩
      exact ⟨r, ⟨q, q1, q2, r1⟩, r2⟩
    · rintro ⟨r, ⟨q, q1, q2, r1⟩, r2⟩
      obtain ⟨u, h2, h3⟩ := (ih (k + 1) q (h.2.2.1 p q hp q1 q2)).mpr ⟨r, r1, r2⟩
      exact ⟨u, ⟨rep q + 1, nz_D_1.mpr ⟨rep q, rfl, (h.2.2.2.2.2.1 p hp (rep q) none).mpr ⟨q, q1, q2, rfl, trivial⟩⟩, h2⟩, h3⟩
theorem rs_l (h : rs_sim U A rep Al) {p : Nat} (hp : Al p) : nz_l A (rep p + 1) ↔ np_L U p = true ∨ ∃ r, r < np_n U ∧ np_B U p r = true ∧ ∃ m q, rb U m r q ∧ np_L U q = true := by
  constructor
  · rintro ⟨m, u, h1, h2⟩
    obtain ⟨q, q1, q2⟩ := (rs_path h m 0 p hp).mp ⟨u, h1, h2⟩
    cases m with
    | zero =>
      have q1 : p = q := q1
      subst q1
      exact Or.inl q2
    | succ m =>
      obtain ⟨r, r1, r2, r3⟩ := q1
      exact Or.inr ⟨r, r1, r2, m, q, r3, q2⟩
  · rintro (h1 | ⟨r, r1, r2, m, q, r3, q2⟩)
    · exact nz_l_F (nz_F_1.mpr ((rs_L h hp).mpr h1))
    · obtain ⟨u, u1, u2⟩ := (rs_path h (m + 1) 0 p hp).mpr ⟨q, ⟨r, r1, r2, r3⟩, q2⟩
      exact ⟨m + 1, u, u1, u2⟩
/-- states behind words -/
def rs_w (U : np_A) (z : List Nat) : Nat → rs_X → Prop
  | 0, x => rs_0 U x
  | n + 1, x => ∃ y, rs_w U z n y ∧ ∃ v, z[n]? = some v ∧ rs_nx U y v x
theorem rs_w_a (h : rs_sim U A rep Al) (hU : np_n U ≤ 64) {z : List Nat} : ∀ n x, rs_w U z n x → ∀ q, q < 64 → nb x.1 q = true → Al q := by
  intro n
  induction n with
  | zero =>
    intro x hx q hq hb
    obtain ⟨a, b⟩ := (hx.1 q hq).mp hb
    exact h.2.1 q a b
  | succ n ih =>
    rintro x ⟨y, y1, v, v1, v2⟩ q hq hb
    obtain ⟨p, a1, a2, a3, a4, a5⟩ := (v2.1 q hq).mp hb
    exact h.2.2.1 p q (ih y y1 p (by omega) a2) a4 a5
/-- matched places stand for the states of the table -/
theorem rs_w_p (h : rs_sim U A rep Al) (hU : np_n U ≤ 64) {g : Nat} (hg : ni_A g A) {z : List Nat} : ∀ n x v, rs_w U z n x → z[n]? = some v → ∀ t, na_p (nz_D A) (kw g z) (n + 1) 0 0 t ↔ ∃ p, p < np_n U ∧ nb x.1 p = true ∧ np_M U p v = true ∧ t = rep p + 1 := by
  intro n
  induction n with
  | zero =>
    intro x v hx hv t
    have ew : kw g z 0 = some (v &&& g) := by
      unfold kw
      rw [hv]
      rfl
    have e : na_p (nz_D A) (kw g z) (0 + 1) 0 0 t ↔ nz_D A 0 t (some v) := by
      rw [← ni_z hg, ← ew]
      exact ⟨fun ⟨u, u1, u2⟩ => by
        have u2 : u = t := u2
        rw [← u2]
        exact u1, fun z => ⟨t, z, rfl⟩⟩
    rw [e, nz_D_0]
    constructor
    · rintro ⟨y, y1, y2⟩
      obtain ⟨p, p1, p2, p3, p4⟩ := (h.2.2.2.2.1 y (some v)).mp y2
      exact ⟨p, p1, (hx.1 p (by omega)).mpr ⟨p1, p2⟩, p4, by rw [p3]; exact y1⟩
    · rintro ⟨p, p1, p2, p3, p4⟩
      exact ⟨rep p, p4, (h.2.2.2.2.1 (rep p) (some v)).mpr ⟨p, p1, ((hx.1 p (by omega)).mp p2).2, rfl, p3⟩⟩
  | succ n ih =>
    rintro x v ⟨y, y1, v0, v1, v2⟩ hv t
    have ew : kw g z (0 + (n + 1)) = some (v &&& g) := by
      unfold kw
      rw [Nat.zero_add, hv]
      rfl
    rw [na_p_snoc, ew]
    constructor
    · rintro ⟨u, u1, u2⟩
      obtain ⟨p, p1, p2, p3, p4⟩ := (ih y v0 y1 v1 u).mp u1
      have hal := rs_w_a h hU n y y1 p (by omega) p2
      rw [p4, ni_z hg, nz_D_1] at u2
      obtain ⟨s, s1, s2⟩ := u2
      obtain ⟨q, q1, q2, q3, q4⟩ := (h.2.2.2.2.2.1 p hal s (some v)).mp s2
      exact ⟨q, q1, (v2.1 q (by omega)).mpr ⟨p, p1, p2, p3, q1, q2⟩, q4, by rw [q3]; exact s1⟩
    · rintro ⟨q, q1, q2, q3, q4⟩
      obtain ⟨p, p1, p2, p3, _, p5⟩ := (v2.1 q (by omega)).mp q2
      have hal := rs_w_a h hU n y y1 p (by omega) p2
      refine ⟨rep p + 1, (ih y v0 y1 v1 _).mpr ⟨p, p1, p2, p3, rfl⟩, ?_⟩
      rw [ni_z hg, nz_D_1]
      exact ⟨rep q, q4, (h.2.2.2.2.2.1 p hal (rep q) (some v)).mpr ⟨q, q1, p5, rfl, q3⟩⟩
/-- what a state tells of the word before it -/
theorem rs_kind (h : rs_sim U A rep Al) (hU : np_n U ≤ 64) {g : Nat} (hg : ni_A g A) {z : List Nat} {x : rs_X} {k : Nat} (hx : rs_w U z z.length x) (hk : (k = 3 ∧ x.2 = true) ∨ (k = 2 ∧ ¬ x.2 = true ∧ rs_r U x) ∨ (k = 0 ∧ ¬ x.2 = true ∧ ¬ rs_r U x)) : kc_z A g z k := by
  have key : (x.2 = true ↔ nt_a A (kw g z) 0 (0 + z.length)) ∧ (¬ x.2 = true → (rs_r U x ↔ ∃ t, nz_s A (kw g z) 0 z.length t ∧ nz_l A t)) := by
    cases hl : z.length with
    | zero =>
      rw [hl] at hx
      have hx : rs_0 U x := hx
      have e1 : x.2 = true ↔ nt_e A = true := by rw [hx.2, h.2.2.2.2.2.2]
      refine ⟨?_, fun hn => ?_⟩
      · rw [nz_s_a, e1]
        constructor
        · intro e
          exact ⟨0, nz_s_0.mpr rfl, Or.inl ⟨rfl, e⟩⟩
        · rintro ⟨t, t1, t2⟩
          rw [nz_s_0.mp t1] at t2
          rcases t2 with ⟨_, t2⟩ | ⟨_, t2, _⟩
          · exact t2
          · cases t2
      · constructor
        · rintro ⟨p, p1, p2, m, q, m1, m2⟩
          obtain ⟨_, pF⟩ := (hx.1 p (by omega)).mp p2
          have hal := h.2.1 p p1 pF
          obtain ⟨u, u1, u2⟩ := (rs_path h m 1 p hal).mpr ⟨q, m1, m2⟩
          exact ⟨0, nz_s_0.mpr rfl, m + 1, u, ⟨rep p + 1, nz_D_0.mpr ⟨rep p, rfl, (h.2.2.2.2.1 (rep p) none).mpr ⟨p, p1, pF, rfl, trivial⟩⟩, u1⟩, u2⟩
        · rintro ⟨t, t1, m, u, m1, m2⟩
          rw [nz_s_0.mp t1] at m1
          cases m with
          | zero =>
            have m1 : 0 = u := m1
            rw [← m1] at m2
            rcases m2 with ⟨_, t2⟩ | ⟨_, t2, _⟩
            · exact (hn (e1.mpr t2)).elim
            · cases t2
          | succ m =>
            obtain ⟨v, v1, v2⟩ := m1
            obtain ⟨y, y1, y2⟩ := nz_D_0.mp v1
            subst y1
            obtain ⟨p, p1, p2, p3, p4⟩ := (h.2.2.2.2.1 y none).mp y2
            subst p3
            obtain ⟨q, q1, q2⟩ := (rs_path h m _ p (h.2.1 p p1 p2)).mp ⟨u, v2, m2⟩
            exact ⟨p, p1, (hx.1 p (by omega)).mpr ⟨p1, p2⟩, m, q, q1, q2⟩
    | succ n =>
      rw [hl] at hx
      obtain ⟨y, y1, v, v1, v2⟩ := hx
      have hp := rs_w_p h hU hg n y v y1 v1
      have hal := fun p (p1 : p < np_n U) (p2 : nb y.1 p = true) => rs_w_a h hU n y y1 p (by omega) p2
      have ea : ∀ t, nz_s A (kw g z) 0 (n + 1) t ↔ (∃ p, p < np_n U ∧ nb y.1 p = true ∧ np_M U p v = true ∧ t = rep p + 1) ∧ nz_l A t := fun t => by
        unfold nz_s
        rw [hp t]
        exact ⟨fun z => ⟨z.1, z.2 (Nat.succ_pos _)⟩, fun z => ⟨z.1, fun _ => z.2⟩⟩
      refine ⟨?_, fun hn => ?_⟩
      · rw [nz_s_a, v2.2]
        constructor
        · rintro ⟨p, p1, p2, p3, p4⟩
          have hF : nz_F A (rep p + 1) := nz_F_1.mpr ((rs_L h (hal p p1 p2)).mpr p4)
          exact ⟨rep p + 1, (ea _).mpr ⟨⟨p, p1, p2, p3, rfl⟩, nz_l_F hF⟩, hF⟩
        · rintro ⟨t, t1, t2⟩
          obtain ⟨⟨p, p1, p2, p3, p4⟩, _⟩ := (ea t).mp t1
          rw [p4, nz_F_1, rs_L h (hal p p1 p2)] at t2
          exact ⟨p, p1, p2, p3, t2⟩
      · constructor
        · rintro ⟨r, r1, r2, m, q, m1, m2⟩
          obtain ⟨p, p1, p2, p3, p4, p5⟩ := (v2.1 r (by omega)).mp r2
          have hl2 : nz_l A (rep p + 1) := (rs_l h (hal p p1 p2)).mpr (Or.inr ⟨r, r1, p5, m, q, m1, m2⟩)
          exact ⟨rep p + 1, (ea _).mpr ⟨⟨p, p1, p2, p3, rfl⟩, hl2⟩, hl2⟩
        · rintro ⟨t, t1, t2⟩
          obtain ⟨⟨p, p1, p2, p3, p4⟩, _⟩ := (ea t).mp t1
          rw [p4, rs_l h (hal p p1 p2)] at t2
          rcases t2 with t2 | ⟨r, r1, r2, m, q, m1, m2⟩
          · exact (hn (v2.2.mpr ⟨p, p1, p2, p3, t2⟩)).elim
          · exact ⟨r, r1, (v2.1 r (by omega)).mpr ⟨p, p1, p2, p3, r1, r2⟩, m, q, m1, m2⟩
  obtain ⟨k1, k2⟩ := key
  rcases hk with ⟨e1, e2⟩ | ⟨e1, e2, e3⟩ | ⟨e1, e2, e3⟩
  · exact Or.inl ⟨e1, k1.mp e2⟩
  · exact Or.inr (Or.inl ⟨e1, fun z => e2 (k1.mpr z), (k2 e2).mp e3⟩)
  · exact Or.inr (Or.inr ⟨e1, fun z => e2 (k1.mpr z), fun z => e3 ((k2 e2).mpr z)⟩)
end RW
/-- the state that a word leads to -/
theorem rs_run {U : np_A} {ev : rs_X → Prop} {ss : List rs_X} {tb : Nat → Nat → Nat} {z : List Nat} (h : gx (rs_0 U) ev (rs_nx U) ss tb ss.length 0) (hz : df_w z) : ∀ n, n ≤ z.length → ∃ x, ss[df_run tb 0 (z.take n)]? = some x ∧ rs_w U z n x := by
  intro n
  induction n with
  | zero =>
    intro _
    obtain ⟨x, x1, x2⟩ := h.1
    exact ⟨x, x1, x2⟩
  | succ n ih =>
    intro hn
    obtain ⟨x, x1, x2⟩ := ih (by omega)
    have e : z[n]? = some z[n] := List.getElem?_eq_getElem (by omega)
    have hv : z[n] < 64 := hz _ (List.getElem_mem _)
    have et : z.take (n + 1) = z.take n ++ [z[n]] := by
      rw [List.take_add_one, e]
      rfl
    obtain ⟨x3, y, y1, y2, y3⟩ := (gx_fin h).2.2 _ z[n] (List.getElem?_eq_some_iff.mp x1).1 hv
    rw [x1] at y1
    cases y1
    exact ⟨y, by rw [et, df_run_app]; exact y2, x, x2, z[n], e, y3⟩
end RS
