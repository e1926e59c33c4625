/-! ===== rounds ===== -/
section RC
theorem cn_lt {f g : Nat → Bool} {n y : Nat} (h : ∀ k, k < n → f k = true → g k = true) (hy : y < n) (hf : f y = false) (hg : g y = true) : cn_c f n < cn_c g n := by
  induction n with
  | zero => omega
  | succ n ih =>
    have h0 := cn_mono (f := f) (g := g) n (fun k hk => h k (by omega))
    show cn_c f n + (if f n = true then 1 else 0) < cn_c g n + (if g n = true then 1 else 0)
    by_cases e : y = n
    · subst e
      rw [hf, hg]
      simp only [Bool.false_eq_true, if_false, if_true]
      omega
    · have h1 := ih (fun k hk => h k (by omega)) (by omega)
      by_cases c : f n = true
      · rw [if_pos c, if_pos (h n (by omega) c)]
        omega
      · rw [if_neg c]
        omega
theorem rb_snoc {U : np_A} : ∀ {m p r q : Nat}, rb U m p r → q < np_n U → np_B U r q = true → rb U (m + 1) p q
  | 0, p, r, q, h, hq, hb => by
    have h : p = r := h
    subst h
    exact ⟨q, hq, hb, rfl⟩
  | m + 1, p, r, q, h, hq, hb => by
    obtain ⟨s, s1, s2, s3⟩ := h
    exact ⟨s, s1, s2, rb_snoc s3 hq hb⟩
/-- what was reached so far; all is closed -/
def rc_i (U : np_A) (f set : Int64) : Prop := (∀ q, q < 64 → nb f q = true → nb set q = true) ∧ ∀ q, q < 64 → nb set q = true → q < np_n U ∧ ∃ p, p < np_n U ∧ nb f p = true ∧ ∃ m, rb U m p q
def rc_c (U : np_A) (set : Int64) : Prop := ∀ p q, p < np_n U → q < np_n U → nb set p = true → np_B U p q = true → nb set q = true
def rc_s (U : np_A) (s0 set : Int64) (p : Nat) : Prop := (∀ q, q < 64 → nb s0 q = true → nb set q = true) ∧ (∀ r q, r < p → q < np_n U → nb s0 r = true → np_B U r q = true → nb set q = true) ∧ (rc_c U s0 → set = s0)
theorem rc_s0 {U : np_A} {s0 : Int64} : rc_s U s0 s0 0 := ⟨fun _ _ h => h, fun r q h => by omega, fun _ => rfl⟩
theorem rc_y {U : np_A} {f s0 set be : Int64} {p : Nat} (hU : np_n U ≤ 64) (hp : p < np_n U) (hb : ∀ q, q < 64 → (nb be q = true ↔ q < np_n U ∧ np_B U p q = true)) (hi : rc_i U f set) (hs : rc_s U s0 set p) (h : nb set p = true) : rc_i U f (set ||| be) ∧ rc_s U s0 (set ||| be) (p + 1) := by
  refine ⟨⟨fun q hq z => ?_, fun q hq z => ?_⟩, fun q hq z => ?_, fun r q hr hq z1 z2 => ?_, fun hc => ?_⟩
  · rw [nb_or, hi.1 q hq z]
    rfl
  · rw [nb_or, Bool.or_eq_true, hb q hq] at z
    rcases z with z | ⟨z1, z2⟩
    · exact hi.2 q hq z
    · obtain ⟨_, p0, a1, a2, m, a3⟩ := hi.2 p (by omega) h
      exact ⟨z1, p0, a1, a2, m + 1, rb_snoc a3 z1 z2⟩
  · rw [nb_or, hs.1 q hq z]
    rfl
  · rw [nb_or, Bool.or_eq_true]
    by_cases e : r = p
    · subst e
      exact Or.inr ((hb q (by omega)).mpr ⟨hq, z2⟩)
    · exact Or.inl (hs.2.1 r q (by omega) hq z1 z2)
  · have e := hs.2.2 hc
    subst e
    refine nb_ext (fun q hq => ?_)
    rw [nb_or, Bool.eq_iff_iff, Bool.or_eq_true, hb q hq]
    exact ⟨fun z => z.elim id (fun z => hc p q hp z.1 h z.2), Or.inl⟩
theorem rc_n {U : np_A} {s0 set : Int64} {p : Nat} (hU : np_n U ≤ 64) (hp : p < np_n U) (hs : rc_s U s0 set p) (h : ¬ nb set p = true) : rc_s U s0 set (p + 1) := ⟨hs.1, fun r q hr hq z1 z2 => by
  by_cases e : r = p
  · subst e
    exact (h (hs.1 r (by omega) z1)).elim
  · exact hs.2.1 r q (by omega) hq z1 z2, hs.2.2⟩
/-- a round closes it, or finds one more -/
def rc_r (U : np_A) (set : Int64) (r : Nat) : Prop := rc_c U set ∨ r ≤ cn_c (nb set) (np_n U)
theorem rc_round {U : np_A} {f s0 set : Int64} {r : Nat} (hi : rc_i U f set) (hs : rc_s U s0 set (np_n U)) (hr : rc_r U s0 r) : rc_r U set (r + 1) := by
  rcases hr with hr | hr
  · rw [hs.2.2 hr]
    exact Or.inl hr
  · by_cases e : set = s0
    · subst e
      exact Or.inl (fun p q hp hq z1 z2 => hs.2.1 p q hp hq z1 z2)
    · right
      obtain ⟨q, q1, q2, q3⟩ : ∃ q, q < 64 ∧ nb s0 q = false ∧ nb set q = true := by
        refine Classical.byContradiction (fun hno => e (nb_ext (fun q hq => ?_)))
        cases h1 : nb s0 q with
        | true => exact hs.1 q hq h1
        | false =>
          cases h2 : nb set q with
          | false => rfl
          | true => exact (hno ⟨q, hq, h1, h2⟩).elim
      have := cn_lt (f := nb s0) (g := nb set) (n := np_n U) (y := q) (fun k hk hb => by
        by_cases c : k < 64
        · exact hs.1 k c hb
        · rw [nb_hi (by omega)] at hb
          cases hb) (hi.2 q q1 q3).1 q2 q3
      omega
theorem rc_end {U : np_A} {set : Int64} (hU : np_n U ≤ 60) (h : rc_r U set 64) : rc_c U set := by
  rcases h with h | h
  · exact h
  · have := cn_le (nb set) (np_n U)
    omega
theorem rc_fin {U : np_A} {f e set : Int64} (hU : np_n U ≤ 60) (hi : rc_i U f set) (hc : rc_c U set) (he : ∀ q, q < 64 → (nb e q = true ↔ q < np_n U ∧ np_L U q = true)) : ¬ (set &&& e) = 0 ↔ ∃ p, p < np_n U ∧ nb f p = true ∧ ∃ m q, rb U m p q ∧ np_L U q = true := by
  have go : ∀ m p q, p < np_n U → nb set p = true → rb U m p q → q < np_n U ∧ nb set q = true := by
    intro m
    induction m with
    | zero =>
      intro p q hp hs h
      have h : p = q := h
      subst h
      exact ⟨hp, hs⟩
    | succ m ih =>
      rintro p q hp hs ⟨r, r1, r2, r3⟩
      exact ih r q r1 (hc p r hp r1 hs r2) r3
  rw [nb_nz]
  constructor
  · rintro ⟨q, q1, q2⟩
    rw [nb_and, Bool.and_eq_true, he q q1] at q2
    obtain ⟨_, p, p1, p2, m, p3⟩ := hi.2 q q1 q2.1
    exact ⟨p, p1, p2, m, q, p3, q2.2.2⟩
  · rintro ⟨p, p1, p2, m, q, p3, p4⟩
    obtain ⟨z1, z2⟩ := go m p q p1 (hi.1 p (by omega) p2) p3
    refine ⟨q, by omega, ?_⟩
    rw [nb_and, Bool.and_eq_true, he q (by omega)]
    exact ⟨z2, z1, p4⟩
end RC
/-! numbers of classes, by the first of each -/
section RF
variable {K : Nat} {mv : Nat → Nat → Nat} {kd gr gr2 : Nat → Nat} {P : Nat → Nat → Prop}
theorem kn_c : ∀ n, (∀ x, x < n → gr x = gr2 x) → kn gr n = kn gr2 n
  | 0, _ => rfl
  | n + 1, h => by
    have ih := kn_c n (fun x hx => h x (by omega))
    by_cases c : gr n = n
    · rw [kn_y c, kn_y (gr := gr2) ((h n (by omega)).symm.trans c), ih]
    · rw [kn_n c, kn_n (gr := gr2) (fun z => c ((h n (by omega)).trans z)), ih]
theorem rf_u {k j : Nat} (h : ∀ s, s < k → gr s ≤ s) : (∀ i, i ≤ k → kn (po_u gr k j) i = kn gr i) ∧ ∀ i, i < k → kn (po_u gr k j) (po_u gr k j i) = kn gr (gr i) := by
  have e : ∀ i, i ≤ k → kn (po_u gr k j) i = kn gr i := fun i hi => kn_c i (fun x hx => po_u_no (by omega))
  refine ⟨e, fun i hi => ?_⟩
  rw [po_u_no (by omega)]
  exact e _ (by have := h i hi; omega)
theorem rf_kg {k j : Nat} (h : kg k P gr) (hj : j ≤ k) (h1 : P j k) (h2 : ∀ f, f < j → ¬ P f k) : kg (k + 1) P (po_u gr k j) := fun s hs => by
  by_cases e : s = k
  · subst e
    rw [po_u_at]
    exact ⟨hj, h1, h2⟩
  · rw [po_u_no e]
    exact h s (by omega)
theorem rf_new {k : Nat} (h : kg k P gr) (h1 : P k k) (h2 : ∀ f, f < k → ¬ P f k) : kg (k + 1) P (po_u gr k k) ∧ kn (po_u gr k k) (k + 1) = kn gr k + 1 ∧ (∀ i, i < k → kn (po_u gr k k) (po_u gr k k i) = kn gr (gr i)) ∧ kn (po_u gr k k) (po_u gr k k k) = kn gr k := by
  obtain ⟨e1, e2⟩ := rf_u (j := k) (fun s hs => (h s hs).1)
  refine ⟨rf_kg h (Nat.le_refl _) h1 h2, ?_, e2, ?_⟩
  · rw [kn_y po_u_at, e1 k (Nat.le_refl _)]
  · rw [po_u_at, e1 k (Nat.le_refl _)]
theorem rf_old {k j : Nat} (h : kg k P gr) (ht : ∀ a b c, P a b → P b c → P a c) (hj : j < k) (h1 : P j k) (h2 : ∀ f, f < j → ¬ P f k) : gr j = j ∧ kg (k + 1) P (po_u gr k j) ∧ kn (po_u gr k j) (k + 1) = kn gr k ∧ (∀ i, i < k → kn (po_u gr k j) (po_u gr k j i) = kn gr (gr i)) ∧ kn (po_u gr k j) (po_u gr k j k) = kn gr (gr j) := by
  obtain ⟨g1, g2, g3⟩ := h j hj
  have ej : gr j = j := by
    rcases Nat.lt_or_ge (gr j) j with z | z
    · exact (h2 _ z (ht _ _ _ g2 h1)).elim
    · omega
  obtain ⟨e1, e2⟩ := rf_u (j := j) (fun s hs => (h s hs).1)
  refine ⟨ej, rf_kg h (by omega) h1 h2, ?_, e2, ?_⟩
  · rw [kn_n (by rw [po_u_at]; omega), e1 k (Nat.le_refl _)]
  · rw [po_u_at, ej]
    exact e1 j (by omega)
/-- rounds -/
theorem rf_first (ho : df_ok K mv) (h : kg K (kg_1 mv kd) gr) : kgr K mv kd gr := ⟨fun s hs => ⟨(h s hs).1, kg_gg kg_1e h hs⟩, fun s t hs ht e => ((kg_iff kg_1e h hs ht).mp e).1, df_co_step ho (g := kd) (fun s t _ _ e => e [] df_w_nil) (fun s t hs ht e1 e2 => (kg_iff kg_1e h hs ht).mpr ⟨e1, e2⟩)⟩
theorem rf_eq (h : kgr K mv kd gr) {s t : Nat} (hs : s < K) (ht : t < K) : kn gr (gr s) = kn gr (gr t) ↔ gr s = gr t := ⟨fun e => kn_inj (h.1 s hs).2 (h.1 t ht).2 e, fun e => by rw [e]⟩
theorem rf_next (ho : df_ok K mv) (h : kgr K mv kd gr) (h2 : kg K (kg_1 mv (fun i => kn gr (gr i))) gr2) : kg K (kg_1 mv gr) gr2 := fun s hs => by
  obtain ⟨a1, a2, a3⟩ := h2 s hs
  have e : ∀ f, f ≤ s → (kg_1 mv (fun i => kn gr (gr i)) f s ↔ kg_1 mv gr f s) := fun f hf => by
    unfold kg_1
    constructor
    · rintro ⟨z1, z2⟩
      exact ⟨(rf_eq h (by omega) hs).mp z1, fun v hv => (rf_eq h (ho.2 f (by omega) v hv) (ho.2 s hs v hv)).mp (z2 v hv)⟩
    · rintro ⟨z1, z2⟩
      exact ⟨(rf_eq h (by omega) hs).mpr z1, fun v hv => (rf_eq h (ho.2 f (by omega) v hv) (ho.2 s hs v hv)).mpr (z2 v hv)⟩
  exact ⟨a1, (e _ a1).mp a2, fun f hf z => a3 f hf ((e f (by omega)).mpr z)⟩
theorem rf_more (h : kgr K mv kd gr) (h2 : kg K (kg_1 mv gr) gr2) : kn gr K ≤ kn gr2 K ∧ (kn gr2 K = kn gr K → ∀ s, s < K → gr2 s = gr s) := by
  have sub : ∀ x, x < K → decide (gr x = x) = true → decide (gr2 x = x) = true := fun x hx z => by
    have z := of_decide_eq_true z
    obtain ⟨b1, b2, b3⟩ := h2 x hx
    have b4 := b2.1
    have b5 := (h.1 (gr2 x) (by omega)).1
    exact decide_eq_true (by omega)
  refine ⟨cn_mono K sub, fun e s hs => Classical.byContradiction (fun hne => ?_)⟩
  have hl := (h2 s hs).1
  have hp := (h2 s hs).2.1.1
  have hlt : kn gr K < kn gr2 K := cn_lt (y := gr2 s) sub (by omega) (decide_eq_false (fun z => by
    rw [hp] at z
    exact hne z.symm)) (decide_eq_true (kg_gg kg_1e h2 hs))
  omega
end RF
